set_option maxRecDepth 20000 in
theorem ct_Mo_occurrences {l : Launch} (hl : l.stackTraces = false) (K : KT) (v1 : Int32) (v2 : Int32) (M : Mm) : CTp l K y_Mo_occurrences (Cond.code y_Mo_occurrences prog_15_method_91_code 3 (some .int)) rvI 4 0 0 [.ref (kA K 32), .int v1, .int v2] M (fn_Mo_occurrences v1 v2 M) := by
  refine CTp_of (L := L_Mo_occurrences) (lc := [(0, .ref (kA K 32)), (1, .int v1), (2, .int v2)]) (by decide +kernel) dec_Mo_occurrences hl rfl (Nat.le_of_ble_eq_true rfl) (fun X hX => ?_)
  unfold fn_Mo_occurrences
  refine V_aload_n hX (j := 0) (hj := rfl) 0 1 rfl rfl ?_
  refine V_iload_n hX (j := 1) (hj := rfl) 1 2 rfl rfl ?_
  refine V_iload_n hX (j := 2) (hj := rfl) 2 3 rfl rfl ?_
  refine V_callI hX 6 0 0 rfl rfl rfl (Nat.le_of_ble_eq_true rfl) (Nat.le_of_ble_eq_true rfl) (VR_V hX 3 (ct_Mo_places (cx_t hX) K v1 v2 M) my_Mo_places mi_Mo_places ms_Mo_places ml_Mo_243 (Nat.le_of_ble_eq_true rfl) (Nat.le_of_ble_eq_true rfl) (by decide) (ent_32 K _) rfl rfl rfl (Nat.le_of_ble_eq_true rfl) rfl (Nat.le_of_ble_eq_true rfl) (Nat.le_of_ble_eq_true rfl)) (fun r3 M3 => ?_)
  exact V_iret hX 4 rfl (Nat.le_of_ble_eq_true rfl) (Nat.le_of_ble_eq_true rfl) rfl
set_option maxRecDepth 20000 in
theorem ct_Mo_occurrencesByScan {l : Launch} (hl : l.stackTraces = false) (K : KT) (v1 : Int32) (v2 : Int32) (M : Mm) : CTp l K y_Mo_occurrencesByScan (Cond.code y_Mo_occurrencesByScan prog_15_method_92_code 3 (some .int)) rvI 4 0 0 [.ref (kA K 32), .int v1, .int v2] M (fn_Mo_occurrencesByScan v1 v2 M) := by
  refine CTp_of (L := L_Mo_occurrencesByScan) (lc := [(0, .ref (kA K 32)), (1, .int v1), (2, .int v2)]) (by decide +kernel) dec_Mo_occurrencesByScan hl rfl (Nat.le_of_ble_eq_true rfl) (fun X hX => ?_)
  unfold fn_Mo_occurrencesByScan
  refine V_aload_n hX (j := 0) (hj := rfl) 0 1 rfl rfl ?_
  refine V_iload_n hX (j := 1) (hj := rfl) 1 2 rfl rfl ?_
  refine V_iload_n hX (j := 2) (hj := rfl) 2 3 rfl rfl ?_
  refine V_callI hX 6 0 0 rfl rfl rfl (Nat.le_of_ble_eq_true rfl) (Nat.le_of_ble_eq_true rfl) (VR_V hX 3 (ct_Mo_places (cx_t hX) K v1 v2 M) my_Mo_places mi_Mo_places ms_Mo_places ml_Mo_243 (Nat.le_of_ble_eq_true rfl) (Nat.le_of_ble_eq_true rfl) (by decide) (ent_32 K _) rfl rfl rfl (Nat.le_of_ble_eq_true rfl) rfl (Nat.le_of_ble_eq_true rfl) (Nat.le_of_ble_eq_true rfl)) (fun r3 M3 => ?_)
  exact V_iret hX 4 rfl (Nat.le_of_ble_eq_true rfl) (Nat.le_of_ble_eq_true rfl) rfl
set_option maxRecDepth 20000 in
theorem ct_Mo_error {l : Launch} (hl : l.stackTraces = false) (K : KT) (v1 : Int32) (v2 : Int32) (v3 : Int32) (M : Mm) : CTp l K y_Mo_error (Cond.code y_Mo_error prog_15_method_93_code 4 (some .int)) rvI 3 0 0 [.ref (kA K 32), .int v1, .int v2, .int v3] M (fn_Mo_error v1 v2 v3 M) := by
  refine CTp_of (L := L_Mo_error) (lc := [(0, .ref (kA K 32)), (1, .int v1), (2, .int v2), (3, .int v3)]) (by decide +kernel) dec_Mo_error hl rfl (Nat.le_of_ble_eq_true rfl) (fun X hX => ?_)
  unfold fn_Mo_error
  refine V_aload_n hX (j := 0) (hj := rfl) 0 1 rfl rfl ?_
  refine V_iload_n hX (j := 1) (hj := rfl) 1 2 rfl rfl ?_
  refine V_iload_n hX (j := 2) (hj := rfl) 2 3 rfl rfl ?_
  refine V_iload_n hX (j := 3) (hj := rfl) 3 4 rfl rfl ?_
  refine V_callI hX 7 0 0 rfl rfl rfl (Nat.le_of_ble_eq_true rfl) (Nat.le_of_ble_eq_true rfl) (VR_V hX 4 (ct_Mo_highest (cx_t hX) K v1 v2 v3 M) my_Mo_highest mi_Mo_highest ms_Mo_highest ml_Mo_202 (Nat.le_of_ble_eq_true rfl) (Nat.le_of_ble_eq_true rfl) (by decide) (ent_32 K _) rfl rfl rfl (Nat.le_of_ble_eq_true rfl) rfl (Nat.le_of_ble_eq_true rfl) (Nat.le_of_ble_eq_true rfl)) (fun r4 M4 => ?_)
  refine V_aload_n hX (j := 0) (hj := rfl) 5 8 rfl rfl ?_
  refine V_iload_n hX (j := 1) (hj := rfl) 6 9 rfl rfl ?_
  refine V_iload_n hX (j := 2) (hj := rfl) 7 10 rfl rfl ?_
  refine V_iload_n hX (j := 3) (hj := rfl) 8 11 rfl rfl ?_
  refine V_callI hX 14 0 0 rfl rfl rfl (Nat.le_of_ble_eq_true rfl) (Nat.le_of_ble_eq_true rfl) (VR_V hX 9 (ct_Mo_lowest (cx_t hX) K v1 v2 v3 M4) my_Mo_lowest mi_Mo_lowest ms_Mo_lowest ml_Mo_199 (Nat.le_of_ble_eq_true rfl) (Nat.le_of_ble_eq_true rfl) (by decide) (ent_32 K _) rfl rfl rfl (Nat.le_of_ble_eq_true rfl) rfl (Nat.le_of_ble_eq_true rfl) (Nat.le_of_ble_eq_true rfl)) (fun r11 M11 => ?_)
  refine V_isub hX 10 15 rfl rfl ?_
  exact V_iret hX 11 rfl (Nat.le_of_ble_eq_true rfl) (Nat.le_of_ble_eq_true rfl) rfl
set_option maxRecDepth 20000 in
theorem ct_Mo_withFirst {l : Launch} (hl : l.stackTraces = false) (K : KT) (v1 : Int32) (v2 : Int32) (v3 : Int32) (v4 : Int32) (M : Mm) : CTp l K y_Mo_withFirst (Cond.code y_Mo_withFirst prog_15_method_94_code 5 (some .int)) rvI 4 0 0 [.ref (kA K 32), .int v1, .int v2, .int v3, .int v4] M (fn_Mo_withFirst v1 v2 v3 v4 M) := by
  refine CTp_of (L := L_Mo_withFirst) (lc := [(0, .ref (kA K 32)), (1, .int v1), (2, .int v2), (3, .int v3), (4, .int v4)]) (by decide +kernel) dec_Mo_withFirst hl rfl (Nat.le_of_ble_eq_true rfl) (fun X hX => ?_)
  unfold fn_Mo_withFirst
  refine V_aload_n hX (j := 0) (hj := rfl) 0 1 rfl rfl ?_
  refine V_iload_n hX (j := 1) (hj := rfl) 1 2 rfl rfl ?_
  refine V_iload_n hX (j := 3) (hj := rfl) 2 3 rfl rfl ?_
  refine V_iload hX (j := 4) (hj := rfl) 3 5 rfl rfl ?_
  refine V_callI hX 8 0 0 rfl rfl rfl (Nat.le_of_ble_eq_true rfl) (Nat.le_of_ble_eq_true rfl) (VR_V hX 4 (ct_Mo_error (cx_t hX) K v1 v3 v4 M) my_Mo_error mi_Mo_error ms_Mo_error ml_Mo_246 (Nat.le_of_ble_eq_true rfl) (Nat.le_of_ble_eq_true rfl) (by decide) (ent_32 K _) rfl rfl rfl (Nat.le_of_ble_eq_true rfl) rfl (Nat.le_of_ble_eq_true rfl) (Nat.le_of_ble_eq_true rfl)) (fun r5 M5 => ?_)
  refine V_aload_n hX (j := 0) (hj := rfl) 5 9 rfl rfl ?_
  refine V_get hX 6 12 32 (.ref (kA K 37)) fl_Mo_22 rfl rfl (by decide) (ent_32 K _) rfl ?_
  refine V_bipush hX (v := 21) (hv := by decide) 7 14 rfl rfl ?_
  refine V_iload_n hX (j := 2) (hj := rfl) 8 15 rfl rfl ?_
  refine V_iconst hX (v := 1) (hv := by decide) 9 16 rfl rfl ?_
  refine V_isub hX 10 17 rfl rfl ?_
  refine V_imul hX 11 18 rfl rfl ?_
  refine V_iload hX (j := 4) (hj := rfl) 12 20 rfl rfl ?_
  refine V_iadd hX 13 21 rfl rfl ?_
  refine V_iconst hX (v := 1) (hv := by decide) 14 22 rfl rfl ?_
  refine V_iadd hX 15 23 rfl rfl ?_
  refine V_iald hX 16 24 37 105 (by decide) rfl rfl rfl (fun g23 => ?_)
  refine V_iadd hX 17 25 rfl rfl ?_
  exact V_iret hX 18 rfl (Nat.le_of_ble_eq_true rfl) (Nat.le_of_ble_eq_true rfl) rfl
set_option maxRecDepth 20000 in
theorem bt_Mo_divide_28 {l : Launch} {K : KT} {X : XT} (hX : Cx l K 5 6 0 0 X prog_15_method_95_code "SeriesArchiveModel" none [] L_Mo_divide) (k2 : Int32 → Mm → Rs Unit) (v1 : Int32) (v2 : Int32) (hk2 : ∀ (v2 : Int32) M, VV l K 5 6 0 0 rvU X (k2 v2 M) 0 0 M 2 [(0, .ref (kA K 32)), (1, .int v1), (2, .int v2)] []) (s1 : Int32) (s2 : Int32) (M : Mm) : VV l K 5 6 0 0 rvU X (fn_Mo_divide_28 k2 v1 v2 s1 s2 M) 0 0 M 28 [(0, .ref (kA K 32)), (1, .int v1), (2, .int v2)] [.int s2, .int s1, .ref (kA K 37)] := by
  unfold fn_Mo_divide_28
  refine V_iast hX 16 29 37 105 (by decide) rfl rfl rfl (fun g28 M28 hM28 => ?_)
  refine V_iincL hX 17 32 2 rfl rfl rfl rfl (Nat.le_of_ble_eq_true rfl) (fun x2_29 hx2_29 => ?_)
  refine VV_lc [(2, .int x2_29), (0, .ref (kA K 32)), (1, .int v1)] rfl ?_
  refine V_goto hX 18 2 rfl (by decide) ?_
  refine VV_sub [1, 2, 0] rfl ?_
  exact hk2 x2_29 M28
set_option maxRecDepth 20000 in
theorem bt_Mo_divide_89 {l : Launch} {K : KT} {X : XT} (hX : Cx l K 5 6 0 0 X prog_15_method_95_code "SeriesArchiveModel" none [] L_Mo_divide) (k37 : Int32 → Mm → Rs Unit) (k44 : Int32 → Mm → Rs Unit) (v1 : Int32) (v2 : Int32) (v3 : Int32) (v4 : Int32) (hk37 : ∀ (v2 : Int32) M, VV l K 5 6 0 0 rvU X (k37 v2 M) 0 0 M 37 [(0, .ref (kA K 32)), (1, .int v1), (2, .int v2)] []) (hk44 : ∀ (v3 : Int32) M, VV l K 5 6 0 0 rvU X (k44 v3 M) 0 0 M 44 [(0, .ref (kA K 32)), (1, .int v1), (2, .int v2), (3, .int v3)] []) (M : Mm) : VV l K 5 6 0 0 rvU X (fn_Mo_divide_89 k37 k44 v1 v2 v3 v4 M) 0 0 M 89 [(0, .ref (kA K 32)), (1, .int v1), (2, .int v2), (3, .int v3), (4, .int v4)] [] := by
  unfold fn_Mo_divide_89
  refine V_aload_n hX (j := 0) (hj := rfl) 49 90 rfl rfl ?_
  refine V_get hX 50 93 32 (.ref (kA K 37)) fl_Mo_22 rfl rfl (by decide) (ent_32 K _) rfl ?_
  refine V_bipush hX (v := 21) (hv := by decide) 51 95 rfl rfl ?_
  refine V_iload_n hX (j := 2) (hj := rfl) 52 96 rfl rfl ?_
  refine V_imul hX 53 97 rfl rfl ?_
  refine V_iload_n hX (j := 3) (hj := rfl) 54 98 rfl rfl ?_
  refine V_iadd hX 55 99 rfl rfl ?_
  refine V_iload hX (j := 4) (hj := rfl) 56 101 rfl rfl ?_
  refine V_iast hX 57 102 37 105 (by decide) rfl rfl rfl (fun g101 M101 hM101 => ?_)
  refine V_iincL hX 58 105 3 rfl rfl rfl rfl (Nat.le_of_ble_eq_true rfl) (fun x3_102 hx3_102 => ?_)
  refine VV_lc [(3, .int x3_102), (0, .ref (kA K 32)), (1, .int v1), (2, .int v2), (4, .int v4)] rfl ?_
  refine V_goto hX 59 44 rfl (by decide) ?_
  refine VV_sub [1, 2, 3, 0] rfl ?_
  exact hk44 x3_102 M101
set_option maxRecDepth 20000 in
theorem bt_Mo_divide_57 {l : Launch} {K : KT} {X : XT} (hX : Cx l K 5 6 0 0 X prog_15_method_95_code "SeriesArchiveModel" none [] L_Mo_divide) (k37 : Int32 → Mm → Rs Unit) (k44 : Int32 → Mm → Rs Unit) (v1 : Int32) (v2 : Int32) (v3 : Int32) (hk37 : ∀ (v2 : Int32) M, VV l K 5 6 0 0 rvU X (k37 v2 M) 0 0 M 37 [(0, .ref (kA K 32)), (1, .int v1), (2, .int v2)] []) (hk44 : ∀ (v3 : Int32) M, VV l K 5 6 0 0 rvU X (k44 v3 M) 0 0 M 44 [(0, .ref (kA K 32)), (1, .int v1), (2, .int v2), (3, .int v3)] []) : ∀ (n : Nat) (v4 : Int32) (v5 : Int32) (M : Mm), VV l K 5 6 0 0 rvU X (fn_Mo_divide_57 k37 k44 v1 v2 v3 n v4 v5 M) 0 0 M 57 [(0, .ref (kA K 32)), (1, .int v1), (2, .int v2), (3, .int v3), (4, .int v4), (5, .int v5)] [] := by
  intro n
  induction n with
  | zero => intro v4 v5 M; exact VV_none
  | succ n ih =>
    intro v4 v5 M
    rw [fn_Mo_divide_57]
    refine V_iload hX (j := 5) (hj := rfl) 33 59 rfl rfl ?_
    refine V_aload_n hX (j := 0) (hj := rfl) 34 60 rfl rfl ?_
    refine V_iload_n hX (j := 1) (hj := rfl) 35 61 rfl rfl ?_
    refine V_callI hX 64 0 0 rfl rfl rfl (Nat.le_of_ble_eq_true rfl) (Nat.le_of_ble_eq_true rfl) (VR_V hX 36 (ct_Mo_many (cx_t hX) K v1 M) my_Mo_many mi_Mo_many ms_Mo_many ml_Mo_93 (Nat.le_of_ble_eq_true rfl) (Nat.le_of_ble_eq_true rfl) (by decide) (ent_32 K _) rfl rfl rfl (Nat.le_of_ble_eq_true rfl) rfl (Nat.le_of_ble_eq_true rfl) (Nat.le_of_ble_eq_true rfl)) (fun r61 M61 => ?_)
    refine V_icmp_ge hX 37 67 89 rfl rfl (by decide) (fun c64 => ?_) (fun c64 => ?_)
    · refine VV_sub [0, 1, 2, 3, 4] rfl ?_
      exact bt_Mo_divide_89 hX k37 k44 v1 v2 v3 v4 hk37 hk44 M61
    · refine V_iload hX (j := 4) (hj := rfl) 38 69 rfl rfl ?_
      refine V_aload_n hX (j := 0) (hj := rfl) 39 70 rfl rfl ?_
      refine V_iload_n hX (j := 1) (hj := rfl) 40 71 rfl rfl ?_
      refine V_iload_n hX (j := 2) (hj := rfl) 41 72 rfl rfl ?_
      refine V_iload_n hX (j := 3) (hj := rfl) 42 73 rfl rfl ?_
      refine V_iload hX (j := 5) (hj := rfl) 43 75 rfl rfl ?_
      refine V_callI hX 78 0 0 rfl rfl rfl (Nat.le_of_ble_eq_true rfl) (Nat.le_of_ble_eq_true rfl) (VR_V hX 44 (ct_Mo_withFirst (cx_t hX) K v1 v2 v3 v5 M61) my_Mo_withFirst mi_Mo_withFirst ms_Mo_withFirst ml_Mo_249 (Nat.le_of_ble_eq_true rfl) (Nat.le_of_ble_eq_true rfl) (by decide) (ent_32 K _) rfl rfl rfl (Nat.le_of_ble_eq_true rfl) rfl (Nat.le_of_ble_eq_true rfl) (Nat.le_of_ble_eq_true rfl)) (fun r75 M75 => ?_)
      refine V_callI hX 81 0 0 rfl rfl rfl (Nat.le_of_ble_eq_true rfl) (Nat.le_of_ble_eq_true rfl) (VR_S hX 45 (ct_Mo_less (cx_t hX) K v4 r75 M75) my_Mo_less mt_Mo_less ml_Mo_165 (Nat.le_of_ble_eq_true rfl) (Nat.le_of_ble_eq_true rfl) rfl rfl (Nat.le_of_ble_eq_true rfl) rfl (Nat.le_of_ble_eq_true rfl) (Nat.le_of_ble_eq_true rfl)) (fun r78 M78 => ?_)
      refine V_istore hX 46 83 [(4, .int r78), (0, .ref (kA K 32)), (1, .int v1), (2, .int v2), (3, .int v3), (5, .int v5)] rfl rfl (Nat.le_of_ble_eq_true rfl) rfl ?_
      refine V_iincL hX 47 86 5 rfl rfl rfl rfl (Nat.le_of_ble_eq_true rfl) (fun x5_83 hx5_83 => ?_)
      refine VV_lc [(5, .int x5_83), (4, .int r78), (0, .ref (kA K 32)), (1, .int v1), (2, .int v2), (3, .int v3)] rfl ?_
      refine V_goto hX 48 57 rfl (by decide) ?_
      refine VV_sub [2, 3, 4, 5, 1, 0] rfl ?_
      exact ih r78 x5_83 M78
set_option maxRecDepth 20000 in
theorem bt_Mo_divide_108 {l : Launch} {K : KT} {X : XT} (hX : Cx l K 5 6 0 0 X prog_15_method_95_code "SeriesArchiveModel" none [] L_Mo_divide) (k37 : Int32 → Mm → Rs Unit) (v1 : Int32) (v2 : Int32) (hk37 : ∀ (v2 : Int32) M, VV l K 5 6 0 0 rvU X (k37 v2 M) 0 0 M 37 [(0, .ref (kA K 32)), (1, .int v1), (2, .int v2)] []) (M : Mm) : VV l K 5 6 0 0 rvU X (fn_Mo_divide_108 k37 v1 v2 M) 0 0 M 108 [(0, .ref (kA K 32)), (1, .int v1), (2, .int v2)] [] := by
  unfold fn_Mo_divide_108
  refine V_iincL hX 60 111 2 rfl rfl rfl rfl (Nat.le_of_ble_eq_true rfl) (fun x2_108 hx2_108 => ?_)
  refine VV_lc [(2, .int x2_108), (0, .ref (kA K 32)), (1, .int v1)] rfl ?_
  refine V_goto hX 61 37 rfl (by decide) ?_
  refine VV_sub [1, 2, 0] rfl ?_
  exact hk37 x2_108 M
set_option maxRecDepth 20000 in
theorem bt_Mo_divide_44 {l : Launch} {K : KT} {X : XT} (hX : Cx l K 5 6 0 0 X prog_15_method_95_code "SeriesArchiveModel" none [] L_Mo_divide) (k37 : Int32 → Mm → Rs Unit) (v1 : Int32) (v2 : Int32) (hk37 : ∀ (v2 : Int32) M, VV l K 5 6 0 0 rvU X (k37 v2 M) 0 0 M 37 [(0, .ref (kA K 32)), (1, .int v1), (2, .int v2)] []) : ∀ (n : Nat) (v3 : Int32) (M : Mm), VV l K 5 6 0 0 rvU X (fn_Mo_divide_44 k37 v1 v2 n v3 M) 0 0 M 44 [(0, .ref (kA K 32)), (1, .int v1), (2, .int v2), (3, .int v3)] [] := by
  intro n
  induction n with
  | zero => intro v3 M; exact VV_none
  | succ n ih =>
    intro v3 M
    rw [fn_Mo_divide_44]
    refine V_iload_n hX (j := 3) (hj := rfl) 26 45 rfl rfl ?_
    refine V_bipush hX (v := 20) (hv := by decide) 27 47 rfl rfl ?_
    refine V_icmp_gt hX 28 50 108 rfl rfl (by decide) (fun c47 => ?_) (fun c47 => ?_)
    · refine VV_sub [0, 1, 2] rfl ?_
      exact bt_Mo_divide_108 hX k37 v1 v2 hk37 M
    · refine V_ldcI hX 29 52 co_Mo_214 rfl rfl ?_
      refine V_istore hX 30 54 [(4, .int 1000000000), (0, .ref (kA K 32)), (1, .int v1), (2, .int v2), (3, .int v3)] rfl rfl (Nat.le_of_ble_eq_true rfl) rfl ?_
      refine V_iload_n hX (j := 4) (hj := rfl) 31 55 rfl rfl ?_
      refine V_istore hX 32 57 [(5, .int v3), (4, .int 1000000000), (0, .ref (kA K 32)), (1, .int v1), (2, .int v2), (3, .int v3)] rfl rfl (Nat.le_of_ble_eq_true rfl) rfl ?_
      refine VV_sub [2, 3, 4, 5, 1, 0] rfl ?_
      exact bt_Mo_divide_57 hX k37 (fn_Mo_divide_44 k37 v1 v2 n) v1 v2 v3 hk37 ih fuel0 1000000000 v3 M
set_option maxRecDepth 20000 in
theorem bt_Mo_divide_37 {l : Launch} {K : KT} {X : XT} (hX : Cx l K 5 6 0 0 X prog_15_method_95_code "SeriesArchiveModel" none [] L_Mo_divide) (v1 : Int32) : ∀ (n : Nat) (v2 : Int32) (M : Mm), VV l K 5 6 0 0 rvU X (fn_Mo_divide_37 v1 n v2 M) 0 0 M 37 [(0, .ref (kA K 32)), (1, .int v1), (2, .int v2)] [] := by
  intro n
  induction n with
  | zero => intro v2 M; exact VV_none
  | succ n ih =>
    intro v2 M
    rw [fn_Mo_divide_37]
    refine V_iload_n hX (j := 2) (hj := rfl) 21 38 rfl rfl ?_
    refine V_iconst hX (v := 5) (hv := by decide) 22 39 rfl rfl ?_
    refine V_icmp_ge hX 23 42 114 rfl rfl (by decide) (fun c39 => ?_) (fun c39 => ?_)
    · exact V_vret hX 62 rfl (Nat.le_of_ble_eq_true rfl) (Nat.le_of_ble_eq_true rfl) rfl
    · refine V_iconst hX (v := 0) (hv := by decide) 24 43 rfl rfl ?_
      refine V_istore_n hX 25 44 [(3, .int 0), (0, .ref (kA K 32)), (1, .int v1), (2, .int v2)] rfl rfl (Nat.le_of_ble_eq_true rfl) rfl ?_
      refine VV_sub [1, 2, 3, 0] rfl ?_
      exact bt_Mo_divide_44 hX (fn_Mo_divide_37 v1 n) v1 v2 ih fuel0 0 M
set_option maxRecDepth 20000 in
theorem bt_Mo_divide_35 {l : Launch} {K : KT} {X : XT} (hX : Cx l K 5 6 0 0 X prog_15_method_95_code "SeriesArchiveModel" none [] L_Mo_divide) (v1 : Int32) (M : Mm) : VV l K 5 6 0 0 rvU X (fn_Mo_divide_35 v1 M) 0 0 M 35 [(0, .ref (kA K 32)), (1, .int v1)] [] := by
  unfold fn_Mo_divide_35
  refine V_iconst hX (v := 1) (hv := by decide) 19 36 rfl rfl ?_
  refine V_istore_n hX 20 37 [(2, .int 1), (0, .ref (kA K 32)), (1, .int v1)] rfl rfl (Nat.le_of_ble_eq_true rfl) rfl ?_
  refine VV_sub [1, 2, 0] rfl ?_
  exact bt_Mo_divide_37 hX v1 fuel0 1 M
set_option maxRecDepth 20000 in
theorem bt_Mo_divide_2 {l : Launch} {K : KT} {X : XT} (hX : Cx l K 5 6 0 0 X prog_15_method_95_code "SeriesArchiveModel" none [] L_Mo_divide) (v1 : Int32) : ∀ (n : Nat) (v2 : Int32) (M : Mm), VV l K 5 6 0 0 rvU X (fn_Mo_divide_2 v1 n v2 M) 0 0 M 2 [(0, .ref (kA K 32)), (1, .int v1), (2, .int v2)] [] := by
  intro n
  induction n with
  | zero => intro v2 M; exact VV_none
  | succ n ih =>
    intro v2 M
    rw [fn_Mo_divide_2]
    refine V_iload_n hX (j := 2) (hj := rfl) 2 3 rfl rfl ?_
    refine V_bipush hX (v := 20) (hv := by decide) 3 5 rfl rfl ?_
    refine V_icmp_gt hX 4 8 35 rfl rfl (by decide) (fun c5 => ?_) (fun c5 => ?_)
    · refine VV_sub [0, 1] rfl ?_
      exact bt_Mo_divide_35 hX v1 M
    · refine V_aload_n hX (j := 0) (hj := rfl) 5 9 rfl rfl ?_
      refine V_get hX 6 12 32 (.ref (kA K 37)) fl_Mo_22 rfl rfl (by decide) (ent_32 K _) rfl ?_
      refine V_iload_n hX (j := 2) (hj := rfl) 7 13 rfl rfl ?_
      refine V_iload_n hX (j := 2) (hj := rfl) 8 14 rfl rfl ?_
      refine V_aload_n hX (j := 0) (hj := rfl) 9 15 rfl rfl ?_
      refine V_iload_n hX (j := 1) (hj := rfl) 10 16 rfl rfl ?_
      refine V_callI hX 19 0 0 rfl rfl rfl (Nat.le_of_ble_eq_true rfl) (Nat.le_of_ble_eq_true rfl) (VR_V hX 11 (ct_Mo_many (cx_t hX) K v1 M) my_Mo_many mi_Mo_many ms_Mo_many ml_Mo_93 (Nat.le_of_ble_eq_true rfl) (Nat.le_of_ble_eq_true rfl) (by decide) (ent_32 K _) rfl rfl rfl (Nat.le_of_ble_eq_true rfl) rfl (Nat.le_of_ble_eq_true rfl) (Nat.le_of_ble_eq_true rfl)) (fun r16 M16 => ?_)
      refine V_icmp_ne hX 12 22 26 rfl rfl (by decide) (fun c19 => ?_) (fun c19 => ?_)
      · refine V_ldcI hX 15 28 co_Mo_214 rfl rfl ?_
        exact bt_Mo_divide_28 hX (fn_Mo_divide_2 v1 n) v1 v2 ih v2 1000000000 M16
      · refine V_iconst hX (v := 0) (hv := by decide) 13 23 rfl rfl ?_
        refine V_goto hX 14 28 rfl (by decide) ?_
        exact bt_Mo_divide_28 hX (fn_Mo_divide_2 v1 n) v1 v2 ih v2 0 M16
set_option maxRecDepth 20000 in
theorem ct_Mo_divide {l : Launch} (hl : l.stackTraces = false) (K : KT) (v1 : Int32) (M : Mm) : CTp l K y_Mo_divide (Cond.code y_Mo_divide prog_15_method_95_code 6 none) rvU 5 0 0 [.ref (kA K 32), .int v1] M (fn_Mo_divide v1 M) := by
  refine CTp_of (L := L_Mo_divide) (lc := [(0, .ref (kA K 32)), (1, .int v1)]) (by decide +kernel) dec_Mo_divide hl rfl (Nat.le_of_ble_eq_true rfl) (fun X hX => ?_)
  unfold fn_Mo_divide
  refine V_iconst hX (v := 0) (hv := by decide) 0 1 rfl rfl ?_
  refine V_istore_n hX 1 2 [(2, .int 0), (0, .ref (kA K 32)), (1, .int v1)] rfl rfl (Nat.le_of_ble_eq_true rfl) rfl ?_
  refine VV_sub [1, 2, 0] rfl ?_
  exact bt_Mo_divide_2 hX v1 fuel0 0 M
set_option maxRecDepth 20000 in
theorem ct_Mo_cannotDivide {l : Launch} (hl : l.stackTraces = false) (K : KT) (v1 : Int32) (v2 : Int32) (M : Mm) : CTp l K y_Mo_cannotDivide (Cond.code y_Mo_cannotDivide prog_15_method_96_code 3 (some .int)) rvI 3 0 0 [.ref (kA K 32), .int v1, .int v2] M (fn_Mo_cannotDivide v1 v2 M) := by
  refine CTp_of (L := L_Mo_cannotDivide) (lc := [(0, .ref (kA K 32)), (1, .int v1), (2, .int v2)]) (by decide +kernel) dec_Mo_cannotDivide hl rfl (Nat.le_of_ble_eq_true rfl) (fun X hX => ?_)
  unfold fn_Mo_cannotDivide
  refine V_iload_n hX (j := 1) (hj := rfl) 0 1 rfl rfl ?_
  refine V_callI hX 4 0 0 rfl rfl rfl (Nat.le_of_ble_eq_true rfl) (Nat.le_of_ble_eq_true rfl) (VR_S hX 1 (ct_Mo_isSlot (cx_t hX) K v1 M) my_Mo_isSlot mt_Mo_isSlot ml_Mo_89 (Nat.le_of_ble_eq_true rfl) (Nat.le_of_ble_eq_true rfl) rfl rfl (Nat.le_of_ble_eq_true rfl) rfl (Nat.le_of_ble_eq_true rfl) (Nat.le_of_ble_eq_true rfl)) (fun r1 M1 => ?_)
  refine V_if_ne hX 2 7 11 rfl rfl (by decide) (fun c4 => ?_) (fun c4 => ?_)
  · refine V_iload_n hX (j := 2) (hj := rfl) 5 12 rfl rfl ?_
    refine V_iconst hX (v := 1) (hv := by decide) 6 13 rfl rfl ?_
    refine V_iconst hX (v := 4) (hv := by decide) 7 14 rfl rfl ?_
    refine V_callI hX 17 0 0 rfl rfl rfl (Nat.le_of_ble_eq_true rfl) (Nat.le_of_ble_eq_true rfl) (VR_S hX 8 (ct_Mo_in (cx_t hX) K v2 1 4 M1) my_Mo_in mt_Mo_in ml_Mo_85 (Nat.le_of_ble_eq_true rfl) (Nat.le_of_ble_eq_true rfl) rfl rfl (Nat.le_of_ble_eq_true rfl) rfl (Nat.le_of_ble_eq_true rfl) (Nat.le_of_ble_eq_true rfl)) (fun r14 M14 => ?_)
    refine V_if_ne hX 9 20 24 rfl rfl (by decide) (fun c17 => ?_) (fun c17 => ?_)
    · refine V_aload_n hX (j := 0) (hj := rfl) 12 25 rfl rfl ?_
      refine V_iload_n hX (j := 1) (hj := rfl) 13 26 rfl rfl ?_
      refine V_callI hX 29 0 0 rfl rfl rfl (Nat.le_of_ble_eq_true rfl) (Nat.le_of_ble_eq_true rfl) (VR_V hX 14 (ct_Mo_many (cx_t hX) K v1 M14) my_Mo_many mi_Mo_many ms_Mo_many ml_Mo_93 (Nat.le_of_ble_eq_true rfl) (Nat.le_of_ble_eq_true rfl) (by decide) (ent_32 K _) rfl rfl rfl (Nat.le_of_ble_eq_true rfl) rfl (Nat.le_of_ble_eq_true rfl) (Nat.le_of_ble_eq_true rfl)) (fun r26 M26 => ?_)
      refine V_iload_n hX (j := 2) (hj := rfl) 15 30 rfl rfl ?_
      refine V_icmp_ge hX 16 33 37 rfl rfl (by decide) (fun c30 => ?_) (fun c30 => ?_)
      · refine V_iconst hX (v := 0) (hv := by decide) 19 38 rfl rfl ?_
        exact V_iret hX 20 rfl (Nat.le_of_ble_eq_true rfl) (Nat.le_of_ble_eq_true rfl) rfl
      · refine V_iconst hX (v := 3) (hv := by decide) 17 34 rfl rfl ?_
        refine V_goto hX 18 38 rfl (by decide) ?_
        exact V_iret hX 20 rfl (Nat.le_of_ble_eq_true rfl) (Nat.le_of_ble_eq_true rfl) rfl
    · refine V_iconst hX (v := 2) (hv := by decide) 10 21 rfl rfl ?_
      refine V_goto hX 11 38 rfl (by decide) ?_
      exact V_iret hX 20 rfl (Nat.le_of_ble_eq_true rfl) (Nat.le_of_ble_eq_true rfl) rfl
  · refine V_iconst hX (v := 1) (hv := by decide) 3 8 rfl rfl ?_
    refine V_goto hX 4 38 rfl (by decide) ?_
    exact V_iret hX 20 rfl (Nat.le_of_ble_eq_true rfl) (Nat.le_of_ble_eq_true rfl) rfl
set_option maxRecDepth 20000 in
theorem ct_Mo_errorOf {l : Launch} (hl : l.stackTraces = false) (K : KT) (v1 : Int32) (v2 : Int32) (M : Mm) : CTp l K y_Mo_errorOf (Cond.code y_Mo_errorOf prog_15_method_97_code 3 (some .int)) rvI 6 0 0 [.ref (kA K 32), .int v1, .int v2] M (fn_Mo_errorOf v1 v2 M) := by
  refine CTp_of (L := L_Mo_errorOf) (lc := [(0, .ref (kA K 32)), (1, .int v1), (2, .int v2)]) (by decide +kernel) dec_Mo_errorOf hl rfl (Nat.le_of_ble_eq_true rfl) (fun X hX => ?_)
  unfold fn_Mo_errorOf
  refine V_aload_n hX (j := 0) (hj := rfl) 0 1 rfl rfl ?_
  refine V_aload_n hX (j := 0) (hj := rfl) 1 2 rfl rfl ?_
  refine V_iload_n hX (j := 1) (hj := rfl) 2 3 rfl rfl ?_
  refine V_iload_n hX (j := 2) (hj := rfl) 3 4 rfl rfl ?_
  refine V_callI hX 7 0 0 rfl rfl rfl (Nat.le_of_ble_eq_true rfl) (Nat.le_of_ble_eq_true rfl) (VR_V hX 4 (ct_Mo_cannotDivide (cx_t hX) K v1 v2 M) my_Mo_cannotDivide mi_Mo_cannotDivide ms_Mo_cannotDivide ml_Mo_253 (Nat.le_of_ble_eq_true rfl) (Nat.le_of_ble_eq_true rfl) (by decide) (ent_32 K _) rfl rfl rfl (Nat.le_of_ble_eq_true rfl) rfl (Nat.le_of_ble_eq_true rfl) (Nat.le_of_ble_eq_true rfl)) (fun r4 M4 => ?_)
  refine V_putI hX 5 10 32 fp_Mo_28 (by decide) rfl rfl (by decide) (ent_32 K _) (Nat.le_of_ble_eq_true rfl) (ent_32 K _) (fun M7 hM7 => ?_)
  refine V_aload_n hX (j := 0) (hj := rfl) 6 11 rfl rfl ?_
  refine V_get hX 7 14 32 (.int (M7 32 6)) fl_Mo_28 rfl rfl (by decide) (ent_32 K _) rfl ?_
  refine V_if_le hX 8 17 19 rfl rfl (by decide) (fun c14 => ?_) (fun c14 => ?_)
  · refine V_aload_n hX (j := 0) (hj := rfl) 11 20 rfl rfl ?_
    refine V_iload_n hX (j := 1) (hj := rfl) 12 21 rfl rfl ?_
    refine V_callU hX 24 0 0 rfl rfl rfl (Nat.le_of_ble_eq_true rfl) (Nat.le_of_ble_eq_true rfl) (VR_V hX 13 (ct_Mo_divide (cx_t hX) K v1 M7) my_Mo_divide mi_Mo_divide ms_Mo_divide ml_Mo_256 (Nat.le_of_ble_eq_true rfl) (Nat.le_of_ble_eq_true rfl) (by decide) (ent_32 K _) rfl rfl rfl (Nat.le_of_ble_eq_true rfl) rfl (Nat.le_of_ble_eq_true rfl) (Nat.le_of_ble_eq_true rfl)) (fun r21 M21 => ?_)
    refine V_aload_n hX (j := 0) (hj := rfl) 14 25 rfl rfl ?_
    refine V_get hX 15 28 32 (.ref (kA K 37)) fl_Mo_22 rfl rfl (by decide) (ent_32 K _) rfl ?_
    refine V_bipush hX (v := 21) (hv := by decide) 16 30 rfl rfl ?_
    refine V_iload_n hX (j := 2) (hj := rfl) 17 31 rfl rfl ?_
    refine V_imul hX 18 32 rfl rfl ?_
    refine V_iald hX 19 33 37 105 (by decide) rfl rfl rfl (fun g32 => ?_)
    exact V_iret hX 20 rfl (Nat.le_of_ble_eq_true rfl) (Nat.le_of_ble_eq_true rfl) rfl
  · refine V_iconst hX (v := 0) (hv := by decide) 9 18 rfl rfl ?_
    exact V_iret hX 10 rfl (Nat.le_of_ble_eq_true rfl) (Nat.le_of_ble_eq_true rfl) rfl
set_option maxRecDepth 20000 in
theorem ct_Mo_leastError {l : Launch} (hl : l.stackTraces = false) (K : KT) (v1 : Int32) (v2 : Int32) (M : Mm) : CTp l K y_Mo_leastError (Cond.code y_Mo_leastError prog_15_method_98_code 3 (some .int)) rvI 7 0 0 [.ref (kA K 32), .int v1, .int v2] M (fn_Mo_leastError v1 v2 M) := by
  refine CTp_of (L := L_Mo_leastError) (lc := [(0, .ref (kA K 32)), (1, .int v1), (2, .int v2)]) (by decide +kernel) dec_Mo_leastError hl rfl (Nat.le_of_ble_eq_true rfl) (fun X hX => ?_)
  unfold fn_Mo_leastError
  refine V_aload_n hX (j := 0) (hj := rfl) 0 1 rfl rfl ?_
  refine V_iload_n hX (j := 1) (hj := rfl) 1 2 rfl rfl ?_
  refine V_iload_n hX (j := 2) (hj := rfl) 2 3 rfl rfl ?_
  refine V_callI hX 6 0 0 rfl rfl rfl (Nat.le_of_ble_eq_true rfl) (Nat.le_of_ble_eq_true rfl) (VR_V hX 3 (ct_Mo_errorOf (cx_t hX) K v1 v2 M) my_Mo_errorOf mi_Mo_errorOf ms_Mo_errorOf ml_Mo_260 (Nat.le_of_ble_eq_true rfl) (Nat.le_of_ble_eq_true rfl) (by decide) (ent_32 K _) rfl rfl rfl (Nat.le_of_ble_eq_true rfl) rfl (Nat.le_of_ble_eq_true rfl) (Nat.le_of_ble_eq_true rfl)) (fun r3 M3 => ?_)
  exact V_iret hX 4 rfl (Nat.le_of_ble_eq_true rfl) (Nat.le_of_ble_eq_true rfl) rfl
set_option maxRecDepth 20000 in
theorem ct_Mo_leastErrorByCuts {l : Launch} (hl : l.stackTraces = false) (K : KT) (v1 : Int32) (v2 : Int32) (M : Mm) : CTp l K y_Mo_leastErrorByCuts (Cond.code y_Mo_leastErrorByCuts prog_15_method_99_code 3 (some .int)) rvI 7 0 0 [.ref (kA K 32), .int v1, .int v2] M (fn_Mo_leastErrorByCuts v1 v2 M) := by
  refine CTp_of (L := L_Mo_leastErrorByCuts) (lc := [(0, .ref (kA K 32)), (1, .int v1), (2, .int v2)]) (by decide +kernel) dec_Mo_leastErrorByCuts hl rfl (Nat.le_of_ble_eq_true rfl) (fun X hX => ?_)
  unfold fn_Mo_leastErrorByCuts
  refine V_aload_n hX (j := 0) (hj := rfl) 0 1 rfl rfl ?_
  refine V_iload_n hX (j := 1) (hj := rfl) 1 2 rfl rfl ?_
  refine V_iload_n hX (j := 2) (hj := rfl) 2 3 rfl rfl ?_
  refine V_callI hX 6 0 0 rfl rfl rfl (Nat.le_of_ble_eq_true rfl) (Nat.le_of_ble_eq_true rfl) (VR_V hX 3 (ct_Mo_errorOf (cx_t hX) K v1 v2 M) my_Mo_errorOf mi_Mo_errorOf ms_Mo_errorOf ml_Mo_260 (Nat.le_of_ble_eq_true rfl) (Nat.le_of_ble_eq_true rfl) (by decide) (ent_32 K _) rfl rfl rfl (Nat.le_of_ble_eq_true rfl) rfl (Nat.le_of_ble_eq_true rfl) (Nat.le_of_ble_eq_true rfl)) (fun r3 M3 => ?_)
  exact V_iret hX 4 rfl (Nat.le_of_ble_eq_true rfl) (Nat.le_of_ble_eq_true rfl) rfl
set_option maxRecDepth 20000 in
theorem bt_Mo_segmentStart_100 {l : Launch} {K : KT} {X : XT} (hX : Cx l K 6 7 0 0 X prog_15_method_100_code "SeriesArchiveModel" (some .int) [] L_Mo_segmentStart) (k53 : Int32 → Int32 → Mm → Rs Int32) (v1 : Int32) (v2 : Int32) (v3 : Int32) (v5 : Int32) (v6 : Int32) (hk53 : ∀ (v4 : Int32) (v5 : Int32) M, VV l K 6 7 0 0 rvI X (k53 v4 v5 M) 0 0 M 53 [(0, .ref (kA K 32)), (1, .int v1), (2, .int v2), (3, .int v3), (4, .int v4), (5, .int v5)] []) (M : Mm) : VV l K 6 7 0 0 rvI X (fn_Mo_segmentStart_100 k53 v1 v2 v3 v5 v6 M) 0 0 M 100 [(0, .ref (kA K 32)), (1, .int v1), (2, .int v2), (3, .int v3), (5, .int v5), (6, .int v6)] [] := by
  unfold fn_Mo_segmentStart_100
  refine V_iload hX (j := 5) (hj := rfl) 57 102 rfl rfl ?_
  refine V_iconst hX (v := 1) (hv := by decide) 58 103 rfl rfl ?_
  refine V_iadd hX 59 104 rfl rfl ?_
  refine VV_li (fun x4_104 hx4_104 => ?_)
  refine V_istore hX 60 106 [(4, .int x4_104), (0, .ref (kA K 32)), (1, .int v1), (2, .int v2), (3, .int v3), (5, .int v5), (6, .int v6)] rfl rfl (Nat.le_of_ble_eq_true rfl) rfl ?_
  refine V_iincL hX 61 109 5 rfl rfl rfl rfl (Nat.le_of_ble_eq_true rfl) (fun x5_106 hx5_106 => ?_)
  refine VV_lc [(5, .int x5_106), (4, .int x4_104), (0, .ref (kA K 32)), (1, .int v1), (2, .int v2), (3, .int v3), (6, .int v6)] rfl ?_
  refine V_goto hX 62 53 rfl (by decide) ?_
  refine VV_sub [2, 3, 4, 5, 1, 0] rfl ?_
  exact hk53 x4_104 x5_106 M
set_option maxRecDepth 20000 in
theorem bt_Mo_segmentStart_63 {l : Launch} {K : KT} {X : XT} (hX : Cx l K 6 7 0 0 X prog_15_method_100_code "SeriesArchiveModel" (some .int) [] L_Mo_segmentStart) (k53 : Int32 → Int32 → Mm → Rs Int32) (v1 : Int32) (v2 : Int32) (v3 : Int32) (v4 : Int32) (v5 : Int32) (hk53 : ∀ (v4 : Int32) (v5 : Int32) M, VV l K 6 7 0 0 rvI X (k53 v4 v5 M) 0 0 M 53 [(0, .ref (kA K 32)), (1, .int v1), (2, .int v2), (3, .int v3), (4, .int v4), (5, .int v5)] []) : ∀ (n : Nat) (v6 : Int32) (M : Mm), VV l K 6 7 0 0 rvI X (fn_Mo_segmentStart_63 k53 v1 v2 v3 v4 v5 n v6 M) 0 0 M 63 [(0, .ref (kA K 32)), (1, .int v1), (2, .int v2), (3, .int v3), (4, .int v4), (5, .int v5), (6, .int v6)] [] := by
  intro n
  induction n with
  | zero => intro v6 M; exact VV_none
  | succ n ih =>
    intro v6 M
    rw [fn_Mo_segmentStart_63]
    refine V_aload_n hX (j := 0) (hj := rfl) 36 64 rfl rfl ?_
    refine V_iload_n hX (j := 1) (hj := rfl) 37 65 rfl rfl ?_
    refine V_iload_n hX (j := 2) (hj := rfl) 38 66 rfl rfl ?_
    refine V_iload hX (j := 5) (hj := rfl) 39 68 rfl rfl ?_
    refine V_isub hX 40 69 rfl rfl ?_
    refine V_iload hX (j := 4) (hj := rfl) 41 71 rfl rfl ?_
    refine V_iload hX (j := 6) (hj := rfl) 42 73 rfl rfl ?_
    refine V_callI hX 76 0 0 rfl rfl rfl (Nat.le_of_ble_eq_true rfl) (Nat.le_of_ble_eq_true rfl) (VR_V hX 43 (ct_Mo_withFirst (cx_t hX) K v1 (v2 - v5) v4 v6 M) my_Mo_withFirst mi_Mo_withFirst ms_Mo_withFirst ml_Mo_249 (Nat.le_of_ble_eq_true rfl) (Nat.le_of_ble_eq_true rfl) (by decide) (ent_32 K _) rfl rfl rfl (Nat.le_of_ble_eq_true rfl) rfl (Nat.le_of_ble_eq_true rfl) (Nat.le_of_ble_eq_true rfl)) (fun r73 M73 => ?_)
    refine V_aload_n hX (j := 0) (hj := rfl) 44 77 rfl rfl ?_
    refine V_get hX 45 80 32 (.ref (kA K 37)) fl_Mo_22 rfl rfl (by decide) (ent_32 K _) rfl ?_
    refine V_bipush hX (v := 21) (hv := by decide) 46 82 rfl rfl ?_
    refine V_iload_n hX (j := 2) (hj := rfl) 47 83 rfl rfl ?_
    refine V_iload hX (j := 5) (hj := rfl) 48 85 rfl rfl ?_
    refine V_isub hX 49 86 rfl rfl ?_
    refine V_imul hX 50 87 rfl rfl ?_
    refine V_iload hX (j := 4) (hj := rfl) 51 89 rfl rfl ?_
    refine V_iadd hX 52 90 rfl rfl ?_
    refine V_iald hX 53 91 37 105 (by decide) rfl rfl rfl (fun g90 => ?_)
    refine V_icmp_eq hX 54 94 100 rfl rfl (by decide) (fun c91 => ?_) (fun c91 => ?_)
    · refine VV_sub [0, 1, 2, 3, 5, 6] rfl ?_
      exact bt_Mo_segmentStart_100 hX k53 v1 v2 v3 v5 v6 hk53 M73
    · refine V_iincL hX 55 97 6 rfl rfl rfl rfl (Nat.le_of_ble_eq_true rfl) (fun x6_94 hx6_94 => ?_)
      refine VV_lc [(6, .int x6_94), (0, .ref (kA K 32)), (1, .int v1), (2, .int v2), (3, .int v3), (4, .int v4), (5, .int v5)] rfl ?_
      refine V_goto hX 56 63 rfl (by decide) ?_
      refine VV_sub [1, 2, 3, 4, 5, 6, 0] rfl ?_
      exact ih x6_94 M73
set_option maxRecDepth 20000 in
theorem bt_Mo_segmentStart_53 {l : Launch} {K : KT} {X : XT} (hX : Cx l K 6 7 0 0 X prog_15_method_100_code "SeriesArchiveModel" (some .int) [] L_Mo_segmentStart) (v1 : Int32) (v2 : Int32) (v3 : Int32) : ∀ (n : Nat) (v4 : Int32) (v5 : Int32) (M : Mm), VV l K 6 7 0 0 rvI X (fn_Mo_segmentStart_53 v1 v2 v3 n v4 v5 M) 0 0 M 53 [(0, .ref (kA K 32)), (1, .int v1), (2, .int v2), (3, .int v3), (4, .int v4), (5, .int v5)] [] := by
  intro n
  induction n with
  | zero => intro v4 v5 M; exact VV_none
  | succ n ih =>
    intro v4 v5 M
    rw [fn_Mo_segmentStart_53]
    refine V_iload hX (j := 5) (hj := rfl) 31 55 rfl rfl ?_
    refine V_iload_n hX (j := 3) (hj := rfl) 32 56 rfl rfl ?_
    refine V_icmp_ge hX 33 59 112 rfl rfl (by decide) (fun c56 => ?_) (fun c56 => ?_)
    · refine V_iload hX (j := 4) (hj := rfl) 63 114 rfl rfl ?_
      exact V_iret hX 64 rfl (Nat.le_of_ble_eq_true rfl) (Nat.le_of_ble_eq_true rfl) rfl
    · refine V_iload hX (j := 4) (hj := rfl) 34 61 rfl rfl ?_
      refine V_istore hX 35 63 [(6, .int v4), (0, .ref (kA K 32)), (1, .int v1), (2, .int v2), (3, .int v3), (4, .int v4), (5, .int v5)] rfl rfl (Nat.le_of_ble_eq_true rfl) rfl ?_
      refine VV_sub [1, 2, 3, 4, 5, 6, 0] rfl ?_
      exact bt_Mo_segmentStart_63 hX (fn_Mo_segmentStart_53 v1 v2 v3 n) v1 v2 v3 v4 v5 ih fuel0 v4 M
set_option maxRecDepth 20000 in
theorem bt_Mo_segmentStart_33 {l : Launch} {K : KT} {X : XT} (hX : Cx l K 6 7 0 0 X prog_15_method_100_code "SeriesArchiveModel" (some .int) [] L_Mo_segmentStart) (v1 : Int32) (v2 : Int32) (v3 : Int32) (M : Mm) : VV l K 6 7 0 0 rvI X (fn_Mo_segmentStart_33 v1 v2 v3 M) 0 0 M 33 [(0, .ref (kA K 32)), (1, .int v1), (2, .int v2), (3, .int v3)] [] := by
  unfold fn_Mo_segmentStart_33
  refine V_aload_n hX (j := 0) (hj := rfl) 19 34 rfl rfl ?_
  refine V_get hX 20 37 32 (.int (M 32 6)) fl_Mo_28 rfl rfl (by decide) (ent_32 K _) rfl ?_
  refine V_if_le hX 21 40 42 rfl rfl (by decide) (fun c37 => ?_) (fun c37 => ?_)
  · refine V_aload_n hX (j := 0) (hj := rfl) 24 43 rfl rfl ?_
    refine V_iload_n hX (j := 1) (hj := rfl) 25 44 rfl rfl ?_
    refine V_callU hX 47 0 0 rfl rfl rfl (Nat.le_of_ble_eq_true rfl) (Nat.le_of_ble_eq_true rfl) (VR_V hX 26 (ct_Mo_divide (cx_t hX) K v1 M) my_Mo_divide mi_Mo_divide ms_Mo_divide ml_Mo_256 (Nat.le_of_ble_eq_true rfl) (Nat.le_of_ble_eq_true rfl) (by decide) (ent_32 K _) rfl rfl rfl (Nat.le_of_ble_eq_true rfl) rfl (Nat.le_of_ble_eq_true rfl) (Nat.le_of_ble_eq_true rfl)) (fun r44 M44 => ?_)
    refine V_iconst hX (v := 0) (hv := by decide) 27 48 rfl rfl ?_
    refine V_istore hX 28 50 [(4, .int 0), (0, .ref (kA K 32)), (1, .int v1), (2, .int v2), (3, .int v3)] rfl rfl (Nat.le_of_ble_eq_true rfl) rfl ?_
    refine V_iconst hX (v := 0) (hv := by decide) 29 51 rfl rfl ?_
    refine V_istore hX 30 53 [(5, .int 0), (4, .int 0), (0, .ref (kA K 32)), (1, .int v1), (2, .int v2), (3, .int v3)] rfl rfl (Nat.le_of_ble_eq_true rfl) rfl ?_
    refine VV_sub [2, 3, 4, 5, 1, 0] rfl ?_
    exact bt_Mo_segmentStart_53 hX v1 v2 v3 fuel0 0 0 M44
  · refine V_iconst hX (v := 0) (hv := by decide) 22 41 rfl rfl ?_
    exact V_iret hX 23 rfl (Nat.le_of_ble_eq_true rfl) (Nat.le_of_ble_eq_true rfl) rfl
set_option maxRecDepth 20000 in
theorem ct_Mo_segmentStart {l : Launch} (hl : l.stackTraces = false) (K : KT) (v1 : Int32) (v2 : Int32) (v3 : Int32) (M : Mm) : CTp l K y_Mo_segmentStart (Cond.code y_Mo_segmentStart prog_15_method_100_code 7 (some .int)) rvI 6 0 0 [.ref (kA K 32), .int v1, .int v2, .int v3] M (fn_Mo_segmentStart v1 v2 v3 M) := by
  refine CTp_of (L := L_Mo_segmentStart) (lc := [(0, .ref (kA K 32)), (1, .int v1), (2, .int v2), (3, .int v3)]) (by decide +kernel) dec_Mo_segmentStart hl rfl (Nat.le_of_ble_eq_true rfl) (fun X hX => ?_)
  unfold fn_Mo_segmentStart
  refine V_aload_n hX (j := 0) (hj := rfl) 0 1 rfl rfl ?_
  refine V_aload_n hX (j := 0) (hj := rfl) 1 2 rfl rfl ?_
  refine V_iload_n hX (j := 1) (hj := rfl) 2 3 rfl rfl ?_
  refine V_iload_n hX (j := 2) (hj := rfl) 3 4 rfl rfl ?_
  refine V_callI hX 7 0 0 rfl rfl rfl (Nat.le_of_ble_eq_true rfl) (Nat.le_of_ble_eq_true rfl) (VR_V hX 4 (ct_Mo_cannotDivide (cx_t hX) K v1 v2 M) my_Mo_cannotDivide mi_Mo_cannotDivide ms_Mo_cannotDivide ml_Mo_253 (Nat.le_of_ble_eq_true rfl) (Nat.le_of_ble_eq_true rfl) (by decide) (ent_32 K _) rfl rfl rfl (Nat.le_of_ble_eq_true rfl) rfl (Nat.le_of_ble_eq_true rfl) (Nat.le_of_ble_eq_true rfl)) (fun r4 M4 => ?_)
  refine V_putI hX 5 10 32 fp_Mo_28 (by decide) rfl rfl (by decide) (ent_32 K _) (Nat.le_of_ble_eq_true rfl) (ent_32 K _) (fun M7 hM7 => ?_)
  refine V_aload_n hX (j := 0) (hj := rfl) 6 11 rfl rfl ?_
  refine V_get hX 7 14 32 (.int (M7 32 6)) fl_Mo_28 rfl rfl (by decide) (ent_32 K _) rfl ?_
  refine V_if_ne hX 8 17 33 rfl rfl (by decide) (fun c14 => ?_) (fun c14 => ?_)
  · exact bt_Mo_segmentStart_33 hX v1 v2 v3 M7
  · refine V_iload_n hX (j := 3) (hj := rfl) 9 18 rfl rfl ?_
    refine V_iconst hX (v := 0) (hv := by decide) 10 19 rfl rfl ?_
    refine V_iload_n hX (j := 2) (hj := rfl) 11 20 rfl rfl ?_
    refine V_iconst hX (v := 1) (hv := by decide) 12 21 rfl rfl ?_
    refine V_isub hX 13 22 rfl rfl ?_
    refine V_callI hX 25 0 0 rfl rfl rfl (Nat.le_of_ble_eq_true rfl) (Nat.le_of_ble_eq_true rfl) (VR_S hX 14 (ct_Mo_in (cx_t hX) K v3 0 (v2 - 1) M7) my_Mo_in mt_Mo_in ml_Mo_85 (Nat.le_of_ble_eq_true rfl) (Nat.le_of_ble_eq_true rfl) rfl rfl (Nat.le_of_ble_eq_true rfl) rfl (Nat.le_of_ble_eq_true rfl) (Nat.le_of_ble_eq_true rfl)) (fun r22 M22 => ?_)
    refine V_if_ne hX 15 28 33 rfl rfl (by decide) (fun c25 => ?_) (fun c25 => ?_)
    · exact bt_Mo_segmentStart_33 hX v1 v2 v3 M22
    · refine V_aload_n hX (j := 0) (hj := rfl) 16 29 rfl rfl ?_
      refine V_iconst hX (v := 4) (hv := by decide) 17 30 rfl rfl ?_
      refine V_putI hX 18 33 32 fp_Mo_28 (by decide) rfl rfl (by decide) (ent_32 K _) (Nat.le_of_ble_eq_true rfl) (ent_32 K _) (fun M30 hM30 => ?_)
      exact bt_Mo_segmentStart_33 hX v1 v2 v3 M30
set_option maxRecDepth 20000 in
theorem bt_Mo_walk_148 {l : Launch} {K : KT} {X : XT} (hX : Cx l K 3 7 0 0 X prog_15_method_101_code "SeriesArchiveModel" (some .int) [] L_Mo_walk) (k54 : Int32 → Mm → Rs Int32) (k69 : Int32 → Int32 → Mm → Rs Int32) (v1 : Int32) (v2 : Int32) (v3 : Int32) (v5 : Int32) (v6 : Int32) (hk54 : ∀ (v3 : Int32) M, VV l K 3 7 0 0 rvI X (k54 v3 M) 0 0 M 54 [(0, .ref (kA K 32)), (1, .int v1), (2, .int v2), (3, .int v3)] []) (hk69 : ∀ (v4 : Int32) (v5 : Int32) M, VV l K 3 7 0 0 rvI X (k69 v4 v5 M) 0 0 M 69 [(0, .ref (kA K 32)), (1, .int v1), (2, .int v2), (3, .int v3), (4, .int v4), (5, .int v5)] []) (M : Mm) : VV l K 3 7 0 0 rvI X (fn_Mo_walk_148 k54 k69 v1 v2 v3 v5 v6 M) 0 0 M 148 [(0, .ref (kA K 32)), (1, .int v1), (2, .int v2), (3, .int v3), (5, .int v5), (6, .int v6)] [] := by
  unfold fn_Mo_walk_148
  refine V_aload_n hX (j := 0) (hj := rfl) 76 149 rfl rfl ?_
  refine V_get hX 77 152 32 (.ref (kA K 38)) fl_Mo_25 rfl rfl (by decide) (ent_32 K _) rfl ?_
  refine V_iload hX (j := 4) (hj := rfl) 78 154 rfl rfl ?_
  refine V_iald hX 79 155 38 20 (by decide) rfl rfl rfl (fun g154 => ?_)
  refine VV_li (fun x4_155 hx4_155 => ?_)
  refine V_istore hX 80 157 [(4, .int x4_155), (0, .ref (kA K 32)), (1, .int v1), (2, .int v2), (3, .int v3), (5, .int v5), (6, .int v6)] rfl rfl (Nat.le_of_ble_eq_true rfl) rfl ?_
  refine V_aload_n hX (j := 1) (hj := rfl) 81 158 rfl rfl ?_
  refine V_get hX 82 161 32 (.ref (kA K 38)) fl_Mo_25 rfl rfl (by decide) (ent_32 K _) rfl ?_
  refine V_iload hX (j := 5) (hj := rfl) 83 163 rfl rfl ?_
  refine V_iload hX (j := 6) (hj := rfl) 84 165 rfl rfl ?_
  refine V_aload_n hX (j := 1) (hj := rfl) 85 166 rfl rfl ?_
  refine V_iload_n hX (j := 2) (hj := rfl) 86 167 rfl rfl ?_
  refine V_iload_n hX (j := 4) (hj := rfl) 87 168 rfl rfl ?_
  refine V_callI hX 171 0 0 rfl rfl rfl (Nat.le_of_ble_eq_true rfl) (Nat.le_of_ble_eq_true rfl) (VR_V hX 88 (ct_Mo_at (cx_t hX) K v1 v3 M) my_Mo_at mi_Mo_at ms_Mo_at ml_Mo_124 (Nat.le_of_ble_eq_true rfl) (Nat.le_of_ble_eq_true rfl) (by decide) (ent_32 K _) rfl rfl rfl (Nat.le_of_ble_eq_true rfl) rfl (Nat.le_of_ble_eq_true rfl) (Nat.le_of_ble_eq_true rfl)) (fun r168 M168 => ?_)
  refine V_aload_n hX (j := 1) (hj := rfl) 89 172 rfl rfl ?_
  refine V_iload_n hX (j := 3) (hj := rfl) 90 173 rfl rfl ?_
  refine V_iload hX (j := 5) (hj := rfl) 91 175 rfl rfl ?_
  refine V_callI hX 178 0 0 rfl rfl rfl (Nat.le_of_ble_eq_true rfl) (Nat.le_of_ble_eq_true rfl) (VR_V hX 92 (ct_Mo_at (cx_t hX) K v2 v5 M168) my_Mo_at mi_Mo_at ms_Mo_at ml_Mo_124 (Nat.le_of_ble_eq_true rfl) (Nat.le_of_ble_eq_true rfl) (by decide) (ent_32 K _) rfl rfl rfl (Nat.le_of_ble_eq_true rfl) rfl (Nat.le_of_ble_eq_true rfl) (Nat.le_of_ble_eq_true rfl)) (fun r175 M175 => ?_)
  refine V_isub hX 93 179 rfl rfl ?_
  refine V_callI hX 182 0 0 rfl rfl rfl (Nat.le_of_ble_eq_true rfl) (Nat.le_of_ble_eq_true rfl) (VR_S hX 94 (ct_Mo_size (cx_t hX) K (r168 - r175) M175) my_Mo_size mt_Mo_size ml_Mo_263 (Nat.le_of_ble_eq_true rfl) (Nat.le_of_ble_eq_true rfl) rfl rfl (Nat.le_of_ble_eq_true rfl) rfl (Nat.le_of_ble_eq_true rfl) (Nat.le_of_ble_eq_true rfl)) (fun r179 M179 => ?_)
  refine V_iadd hX 95 183 rfl rfl ?_
  refine V_iast hX 96 184 38 20 (by decide) rfl rfl rfl (fun g183 M183 hM183 => ?_)
  refine V_iincL hX 97 187 5 rfl rfl rfl rfl (Nat.le_of_ble_eq_true rfl) (fun x5_184 hx5_184 => ?_)
  refine VV_lc [(5, .int x5_184), (4, .int x4_155), (0, .ref (kA K 32)), (1, .int v1), (2, .int v2), (3, .int v3), (6, .int v6)] rfl ?_
  refine V_goto hX 98 69 rfl (by decide) ?_
  refine VV_sub [2, 3, 4, 5, 1, 0] rfl ?_
  exact hk69 x4_155 x5_184 M183
set_option maxRecDepth 20000 in
theorem bt_Mo_walk_130 {l : Launch} {K : KT} {X : XT} (hX : Cx l K 3 7 0 0 X prog_15_method_101_code "SeriesArchiveModel" (some .int) [] L_Mo_walk) (k54 : Int32 → Mm → Rs Int32) (k69 : Int32 → Int32 → Mm → Rs Int32) (v1 : Int32) (v2 : Int32) (v3 : Int32) (v4 : Int32) (v5 : Int32) (v6 : Int32) (hk54 : ∀ (v3 : Int32) M, VV l K 3 7 0 0 rvI X (k54 v3 M) 0 0 M 54 [(0, .ref (kA K 32)), (1, .int v1), (2, .int v2), (3, .int v3)] []) (hk69 : ∀ (v4 : Int32) (v5 : Int32) M, VV l K 3 7 0 0 rvI X (k69 v4 v5 M) 0 0 M 69 [(0, .ref (kA K 32)), (1, .int v1), (2, .int v2), (3, .int v3), (4, .int v4), (5, .int v5)] []) (M : Mm) : VV l K 3 7 0 0 rvI X (fn_Mo_walk_130 k54 k69 v1 v2 v3 v4 v5 v6 M) 0 0 M 130 [(0, .ref (kA K 32)), (1, .int v1), (2, .int v2), (3, .int v3), (4, .int v4), (5, .int v5), (6, .int v6)] [] := by
  unfold fn_Mo_walk_130
  refine V_iload_n hX (j := 3) (hj := rfl) 68 131 rfl rfl ?_
  refine V_if_le hX 69 134 148 rfl rfl (by decide) (fun c131 => ?_) (fun c131 => ?_)
  · refine VV_sub [0, 1, 2, 3, 5, 6] rfl ?_
    exact bt_Mo_walk_148 hX k54 k69 v1 v2 v3 v5 v6 hk54 hk69 M
  · refine V_iload hX (j := 5) (hj := rfl) 70 136 rfl rfl ?_
    refine V_if_le hX 71 139 148 rfl rfl (by decide) (fun c136 => ?_) (fun c136 => ?_)
    · refine VV_sub [0, 1, 2, 3, 5, 6] rfl ?_
      exact bt_Mo_walk_148 hX k54 k69 v1 v2 v3 v5 v6 hk54 hk69 M
    · refine V_iload hX (j := 6) (hj := rfl) 72 141 rfl rfl ?_
      refine V_iload hX (j := 4) (hj := rfl) 73 143 rfl rfl ?_
      refine V_callI hX 146 0 0 rfl rfl rfl (Nat.le_of_ble_eq_true rfl) (Nat.le_of_ble_eq_true rfl) (VR_S hX 74 (ct_Mo_less (cx_t hX) K v6 v4 M) my_Mo_less mt_Mo_less ml_Mo_165 (Nat.le_of_ble_eq_true rfl) (Nat.le_of_ble_eq_true rfl) rfl rfl (Nat.le_of_ble_eq_true rfl) rfl (Nat.le_of_ble_eq_true rfl) (Nat.le_of_ble_eq_true rfl)) (fun r143 M143 => ?_)
      refine V_istore hX 75 148 [(6, .int r143), (0, .ref (kA K 32)), (1, .int v1), (2, .int v2), (3, .int v3), (4, .int v4), (5, .int v5)] rfl rfl (Nat.le_of_ble_eq_true rfl) rfl ?_
      refine VV_sub [1, 2, 3, 4, 6, 0] rfl ?_
      exact bt_Mo_walk_148 hX k54 k69 v1 v2 v3 v5 r143 hk54 hk69 M143
set_option maxRecDepth 20000 in
theorem bt_Mo_walk_109 {l : Launch} {K : KT} {X : XT} (hX : Cx l K 3 7 0 0 X prog_15_method_101_code "SeriesArchiveModel" (some .int) [] L_Mo_walk) (k54 : Int32 → Mm → Rs Int32) (k69 : Int32 → Int32 → Mm → Rs Int32) (v1 : Int32) (v2 : Int32) (v3 : Int32) (v4 : Int32) (v5 : Int32) (v6 : Int32) (hk54 : ∀ (v3 : Int32) M, VV l K 3 7 0 0 rvI X (k54 v3 M) 0 0 M 54 [(0, .ref (kA K 32)), (1, .int v1), (2, .int v2), (3, .int v3)] []) (hk69 : ∀ (v4 : Int32) (v5 : Int32) M, VV l K 3 7 0 0 rvI X (k69 v4 v5 M) 0 0 M 69 [(0, .ref (kA K 32)), (1, .int v1), (2, .int v2), (3, .int v3), (4, .int v4), (5, .int v5)] []) (M : Mm) : VV l K 3 7 0 0 rvI X (fn_Mo_walk_109 k54 k69 v1 v2 v3 v4 v5 v6 M) 0 0 M 109 [(0, .ref (kA K 32)), (1, .int v1), (2, .int v2), (3, .int v3), (4, .int v4), (5, .int v5), (6, .int v6)] [] := by
  unfold fn_Mo_walk_109
  refine V_iload hX (j := 5) (hj := rfl) 57 111 rfl rfl ?_
  refine V_if_le hX 58 114 130 rfl rfl (by decide) (fun c111 => ?_) (fun c111 => ?_)
  · exact bt_Mo_walk_130 hX k54 k69 v1 v2 v3 v4 v5 v6 hk54 hk69 M
  · refine V_iload hX (j := 6) (hj := rfl) 59 116 rfl rfl ?_
    refine V_aload_n hX (j := 0) (hj := rfl) 60 117 rfl rfl ?_
    refine V_get hX 61 120 32 (.ref (kA K 38)) fl_Mo_25 rfl rfl (by decide) (ent_32 K _) rfl ?_
    refine V_iload hX (j := 5) (hj := rfl) 62 122 rfl rfl ?_
    refine V_iconst hX (v := 1) (hv := by decide) 63 123 rfl rfl ?_
    refine V_isub hX 64 124 rfl rfl ?_
    refine V_iald hX 65 125 38 20 (by decide) rfl rfl rfl (fun g124 => ?_)
    refine V_callI hX 128 0 0 rfl rfl rfl (Nat.le_of_ble_eq_true rfl) (Nat.le_of_ble_eq_true rfl) (VR_S hX 66 (ct_Mo_less (cx_t hX) K v6 (M 38 (v5 - 1).toNatClampNeg) M) my_Mo_less mt_Mo_less ml_Mo_165 (Nat.le_of_ble_eq_true rfl) (Nat.le_of_ble_eq_true rfl) rfl rfl (Nat.le_of_ble_eq_true rfl) rfl (Nat.le_of_ble_eq_true rfl) (Nat.le_of_ble_eq_true rfl)) (fun r125 M125 => ?_)
    refine V_istore hX 67 130 [(6, .int r125), (0, .ref (kA K 32)), (1, .int v1), (2, .int v2), (3, .int v3), (4, .int v4), (5, .int v5)] rfl rfl (Nat.le_of_ble_eq_true rfl) rfl ?_
    refine VV_sub [1, 2, 3, 4, 5, 6, 0] rfl ?_
    exact bt_Mo_walk_130 hX k54 k69 v1 v2 v3 v4 v5 r125 hk54 hk69 M125
set_option maxRecDepth 20000 in
theorem bt_Mo_walk_94 {l : Launch} {K : KT} {X : XT} (hX : Cx l K 3 7 0 0 X prog_15_method_101_code "SeriesArchiveModel" (some .int) [] L_Mo_walk) (k54 : Int32 → Mm → Rs Int32) (k69 : Int32 → Int32 → Mm → Rs Int32) (v1 : Int32) (v2 : Int32) (v3 : Int32) (v4 : Int32) (v5 : Int32) (hk54 : ∀ (v3 : Int32) M, VV l K 3 7 0 0 rvI X (k54 v3 M) 0 0 M 54 [(0, .ref (kA K 32)), (1, .int v1), (2, .int v2), (3, .int v3)] []) (hk69 : ∀ (v4 : Int32) (v5 : Int32) M, VV l K 3 7 0 0 rvI X (k69 v4 v5 M) 0 0 M 69 [(0, .ref (kA K 32)), (1, .int v1), (2, .int v2), (3, .int v3), (4, .int v4), (5, .int v5)] []) (s0 : Int32) (M : Mm) : VV l K 3 7 0 0 rvI X (fn_Mo_walk_94 k54 k69 v1 v2 v3 v4 v5 s0 M) 0 0 M 94 [(0, .ref (kA K 32)), (1, .int v1), (2, .int v2), (3, .int v3), (4, .int v4), (5, .int v5)] [.int s0] := by
  unfold fn_Mo_walk_94
  refine V_istore hX 49 96 [(6, .int s0), (0, .ref (kA K 32)), (1, .int v1), (2, .int v2), (3, .int v3), (4, .int v4), (5, .int v5)] rfl rfl (Nat.le_of_ble_eq_true rfl) rfl ?_
  refine V_iload_n hX (j := 4) (hj := rfl) 50 97 rfl rfl ?_
  refine V_if_le hX 51 100 109 rfl rfl (by decide) (fun c97 => ?_) (fun c97 => ?_)
  · refine VV_sub [1, 2, 3, 4, 5, 6, 0] rfl ?_
    exact bt_Mo_walk_109 hX k54 k69 v1 v2 v3 v4 v5 s0 hk54 hk69 M
  · refine V_aload_n hX (j := 1) (hj := rfl) 52 101 rfl rfl ?_
    refine V_get hX 53 104 32 (.ref (kA K 38)) fl_Mo_25 rfl rfl (by decide) (ent_32 K _) rfl ?_
    refine V_iload hX (j := 6) (hj := rfl) 54 106 rfl rfl ?_
    refine V_iald hX 55 107 38 20 (by decide) rfl rfl rfl (fun g106 => ?_)
    refine VV_li (fun x6_107 hx6_107 => ?_)
    refine V_istore hX 56 109 [(6, .int x6_107), (0, .ref (kA K 32)), (1, .int v1), (2, .int v2), (3, .int v3), (4, .int v4), (5, .int v5)] rfl rfl (Nat.le_of_ble_eq_true rfl) rfl ?_
    refine VV_sub [1, 2, 3, 4, 5, 6, 0] rfl ?_
    exact bt_Mo_walk_109 hX k54 k69 v1 v2 v3 v4 v5 x6_107 hk54 hk69 M
set_option maxRecDepth 20000 in
theorem bt_Mo_walk_92 {l : Launch} {K : KT} {X : XT} (hX : Cx l K 3 7 0 0 X prog_15_method_101_code "SeriesArchiveModel" (some .int) [] L_Mo_walk) (k54 : Int32 → Mm → Rs Int32) (k69 : Int32 → Int32 → Mm → Rs Int32) (v1 : Int32) (v2 : Int32) (v3 : Int32) (v4 : Int32) (v5 : Int32) (hk54 : ∀ (v3 : Int32) M, VV l K 3 7 0 0 rvI X (k54 v3 M) 0 0 M 54 [(0, .ref (kA K 32)), (1, .int v1), (2, .int v2), (3, .int v3)] []) (hk69 : ∀ (v4 : Int32) (v5 : Int32) M, VV l K 3 7 0 0 rvI X (k69 v4 v5 M) 0 0 M 69 [(0, .ref (kA K 32)), (1, .int v1), (2, .int v2), (3, .int v3), (4, .int v4), (5, .int v5)] []) (M : Mm) : VV l K 3 7 0 0 rvI X (fn_Mo_walk_92 k54 k69 v1 v2 v3 v4 v5 M) 0 0 M 92 [(0, .ref (kA K 32)), (1, .int v1), (2, .int v2), (3, .int v3), (4, .int v4), (5, .int v5)] [] := by
  unfold fn_Mo_walk_92
  refine V_ldcI hX 48 94 co_Mo_214 rfl rfl ?_
  exact bt_Mo_walk_94 hX k54 k69 v1 v2 v3 v4 v5 hk54 hk69 1000000000 M
set_option maxRecDepth 20000 in
theorem bt_Mo_walk_190 {l : Launch} {K : KT} {X : XT} (hX : Cx l K 3 7 0 0 X prog_15_method_101_code "SeriesArchiveModel" (some .int) [] L_Mo_walk) (k54 : Int32 → Mm → Rs Int32) (v1 : Int32) (v2 : Int32) (v3 : Int32) (hk54 : ∀ (v3 : Int32) M, VV l K 3 7 0 0 rvI X (k54 v3 M) 0 0 M 54 [(0, .ref (kA K 32)), (1, .int v1), (2, .int v2), (3, .int v3)] []) (M : Mm) : VV l K 3 7 0 0 rvI X (fn_Mo_walk_190 k54 v1 v2 v3 M) 0 0 M 190 [(0, .ref (kA K 32)), (1, .int v1), (2, .int v2), (3, .int v3)] [] := by
  unfold fn_Mo_walk_190
  refine V_iincL hX 99 193 3 rfl rfl rfl rfl (Nat.le_of_ble_eq_true rfl) (fun x3_190 hx3_190 => ?_)
  refine VV_lc [(3, .int x3_190), (0, .ref (kA K 32)), (1, .int v1), (2, .int v2)] rfl ?_
  refine V_goto hX 100 54 rfl (by decide) ?_
  refine VV_sub [1, 2, 3, 0] rfl ?_
  exact hk54 x3_190 M
set_option maxRecDepth 20000 in
theorem bt_Mo_walk_69 {l : Launch} {K : KT} {X : XT} (hX : Cx l K 3 7 0 0 X prog_15_method_101_code "SeriesArchiveModel" (some .int) [] L_Mo_walk) (k54 : Int32 → Mm → Rs Int32) (v1 : Int32) (v2 : Int32) (v3 : Int32) (hk54 : ∀ (v3 : Int32) M, VV l K 3 7 0 0 rvI X (k54 v3 M) 0 0 M 54 [(0, .ref (kA K 32)), (1, .int v1), (2, .int v2), (3, .int v3)] []) : ∀ (n : Nat) (v4 : Int32) (v5 : Int32) (M : Mm), VV l K 3 7 0 0 rvI X (fn_Mo_walk_69 k54 v1 v2 v3 n v4 v5 M) 0 0 M 69 [(0, .ref (kA K 32)), (1, .int v1), (2, .int v2), (3, .int v3), (4, .int v4), (5, .int v5)] [] := by
  intro n
  induction n with
  | zero => intro v4 v5 M; exact VV_none
  | succ n ih =>
    intro v4 v5 M
    rw [fn_Mo_walk_69]
    refine V_iload hX (j := 5) (hj := rfl) 37 71 rfl rfl ?_
    refine V_aload_n hX (j := 0) (hj := rfl) 38 72 rfl rfl ?_
    refine V_iload_n hX (j := 2) (hj := rfl) 39 73 rfl rfl ?_
    refine V_callI hX 76 0 0 rfl rfl rfl (Nat.le_of_ble_eq_true rfl) (Nat.le_of_ble_eq_true rfl) (VR_V hX 40 (ct_Mo_many (cx_t hX) K v2 M) my_Mo_many mi_Mo_many ms_Mo_many ml_Mo_93 (Nat.le_of_ble_eq_true rfl) (Nat.le_of_ble_eq_true rfl) (by decide) (ent_32 K _) rfl rfl rfl (Nat.le_of_ble_eq_true rfl) rfl (Nat.le_of_ble_eq_true rfl) (Nat.le_of_ble_eq_true rfl)) (fun r73 M73 => ?_)
    refine V_icmp_ge hX 41 79 190 rfl rfl (by decide) (fun c76 => ?_) (fun c76 => ?_)
    · refine VV_sub [0, 1, 2, 3] rfl ?_
      exact bt_Mo_walk_190 hX k54 v1 v2 v3 hk54 M73
    · refine V_iload_n hX (j := 3) (hj := rfl) 42 80 rfl rfl ?_
      refine V_if_ne hX 43 83 92 rfl rfl (by decide) (fun c80 => ?_) (fun c80 => ?_)
      · exact bt_Mo_walk_92 hX k54 (fn_Mo_walk_69 k54 v1 v2 v3 n) v1 v2 v3 v4 v5 hk54 ih M73
      · refine V_iload hX (j := 5) (hj := rfl) 44 85 rfl rfl ?_
        refine V_if_ne hX 45 88 92 rfl rfl (by decide) (fun c85 => ?_) (fun c85 => ?_)
        · exact bt_Mo_walk_92 hX k54 (fn_Mo_walk_69 k54 v1 v2 v3 n) v1 v2 v3 v4 v5 hk54 ih M73
        · refine V_iconst hX (v := 0) (hv := by decide) 46 89 rfl rfl ?_
          refine V_goto hX 47 94 rfl (by decide) ?_
          exact bt_Mo_walk_94 hX k54 (fn_Mo_walk_69 k54 v1 v2 v3 n) v1 v2 v3 v4 v5 hk54 ih 0 M73
set_option maxRecDepth 20000 in
theorem bt_Mo_walk_196 {l : Launch} {K : KT} {X : XT} (hX : Cx l K 3 7 0 0 X prog_15_method_101_code "SeriesArchiveModel" (some .int) [] L_Mo_walk) (v2 : Int32) (M : Mm) : VV l K 3 7 0 0 rvI X (fn_Mo_walk_196 v2 M) 0 0 M 196 [(0, .ref (kA K 32)), (2, .int v2)] [] := by
  unfold fn_Mo_walk_196
  refine V_aload_n hX (j := 0) (hj := rfl) 101 197 rfl rfl ?_
  refine V_get hX 102 200 32 (.ref (kA K 38)) fl_Mo_25 rfl rfl (by decide) (ent_32 K _) rfl ?_
  refine V_aload_n hX (j := 0) (hj := rfl) 103 201 rfl rfl ?_
  refine V_iload_n hX (j := 1) (hj := rfl) 104 202 rfl rfl ?_
  refine V_callI hX 205 0 0 rfl rfl rfl (Nat.le_of_ble_eq_true rfl) (Nat.le_of_ble_eq_true rfl) (VR_V hX 105 (ct_Mo_many (cx_t hX) K v2 M) my_Mo_many mi_Mo_many ms_Mo_many ml_Mo_93 (Nat.le_of_ble_eq_true rfl) (Nat.le_of_ble_eq_true rfl) (by decide) (ent_32 K _) rfl rfl rfl (Nat.le_of_ble_eq_true rfl) rfl (Nat.le_of_ble_eq_true rfl) (Nat.le_of_ble_eq_true rfl)) (fun r202 M202 => ?_)
  refine V_iconst hX (v := 1) (hv := by decide) 106 206 rfl rfl ?_
  refine V_isub hX 107 207 rfl rfl ?_
  refine V_iald hX 108 208 38 20 (by decide) rfl rfl rfl (fun g207 => ?_)
  exact V_iret hX 109 rfl (Nat.le_of_ble_eq_true rfl) (Nat.le_of_ble_eq_true rfl) rfl
set_option maxRecDepth 20000 in
theorem bt_Mo_walk_54 {l : Launch} {K : KT} {X : XT} (hX : Cx l K 3 7 0 0 X prog_15_method_101_code "SeriesArchiveModel" (some .int) [] L_Mo_walk) (v1 : Int32) (v2 : Int32) : ∀ (n : Nat) (v3 : Int32) (M : Mm), VV l K 3 7 0 0 rvI X (fn_Mo_walk_54 v1 v2 n v3 M) 0 0 M 54 [(0, .ref (kA K 32)), (1, .int v1), (2, .int v2), (3, .int v3)] [] := by
  intro n
  induction n with
  | zero => intro v3 M; exact VV_none
  | succ n ih =>
    intro v3 M
    rw [fn_Mo_walk_54]
    refine V_iload_n hX (j := 3) (hj := rfl) 28 55 rfl rfl ?_
    refine V_aload_n hX (j := 0) (hj := rfl) 29 56 rfl rfl ?_
    refine V_iload_n hX (j := 1) (hj := rfl) 30 57 rfl rfl ?_
    refine V_callI hX 60 0 0 rfl rfl rfl (Nat.le_of_ble_eq_true rfl) (Nat.le_of_ble_eq_true rfl) (VR_V hX 31 (ct_Mo_many (cx_t hX) K v1 M) my_Mo_many mi_Mo_many ms_Mo_many ml_Mo_93 (Nat.le_of_ble_eq_true rfl) (Nat.le_of_ble_eq_true rfl) (by decide) (ent_32 K _) rfl rfl rfl (Nat.le_of_ble_eq_true rfl) rfl (Nat.le_of_ble_eq_true rfl) (Nat.le_of_ble_eq_true rfl)) (fun r57 M57 => ?_)
    refine V_icmp_ge hX 32 63 196 rfl rfl (by decide) (fun c60 => ?_) (fun c60 => ?_)
    · refine VV_sub [0, 2] rfl ?_
      exact bt_Mo_walk_196 hX v2 M57
    · refine V_iconst hX (v := 0) (hv := by decide) 33 64 rfl rfl ?_
      refine V_istore hX 34 66 [(4, .int 0), (0, .ref (kA K 32)), (1, .int v1), (2, .int v2), (3, .int v3)] rfl rfl (Nat.le_of_ble_eq_true rfl) rfl ?_
      refine V_iconst hX (v := 0) (hv := by decide) 35 67 rfl rfl ?_
      refine V_istore hX 36 69 [(5, .int 0), (4, .int 0), (0, .ref (kA K 32)), (1, .int v1), (2, .int v2), (3, .int v3)] rfl rfl (Nat.le_of_ble_eq_true rfl) rfl ?_
      refine VV_sub [2, 3, 4, 5, 1, 0] rfl ?_
      exact bt_Mo_walk_69 hX (fn_Mo_walk_54 v1 v2 n) v1 v2 v3 ih fuel0 0 0 M57
set_option maxRecDepth 20000 in
theorem bt_Mo_walk_40 {l : Launch} {K : KT} {X : XT} (hX : Cx l K 3 7 0 0 X prog_15_method_101_code "SeriesArchiveModel" (some .int) [] L_Mo_walk) (v1 : Int32) (v2 : Int32) (s1 : Int32) (M : Mm) : VV l K 3 7 0 0 rvI X (fn_Mo_walk_40 v1 v2 s1 M) 0 0 M 40 [(0, .ref (kA K 32)), (1, .int v1), (2, .int v2)] [.int s1, .ref (kA K 32)] := by
  unfold fn_Mo_walk_40
  refine V_putI hX 20 43 32 fp_Mo_28 (by decide) rfl rfl (by decide) (ent_32 K _) (Nat.le_of_ble_eq_true rfl) (ent_32 K _) (fun M40 hM40 => ?_)
  refine V_aload_n hX (j := 0) (hj := rfl) 21 44 rfl rfl ?_
  refine V_get hX 22 47 32 (.int (M40 32 6)) fl_Mo_28 rfl rfl (by decide) (ent_32 K _) rfl ?_
  refine V_if_le hX 23 50 52 rfl rfl (by decide) (fun c47 => ?_) (fun c47 => ?_)
  · refine V_iconst hX (v := 0) (hv := by decide) 26 53 rfl rfl ?_
    refine V_istore_n hX 27 54 [(3, .int 0), (0, .ref (kA K 32)), (1, .int v1), (2, .int v2)] rfl rfl (Nat.le_of_ble_eq_true rfl) rfl ?_
    refine VV_sub [1, 2, 3, 0] rfl ?_
    exact bt_Mo_walk_54 hX v1 v2 fuel0 0 M40
  · refine V_iconst hX (v := 0) (hv := by decide) 24 51 rfl rfl ?_
    exact V_iret hX 25 rfl (Nat.le_of_ble_eq_true rfl) (Nat.le_of_ble_eq_true rfl) rfl
set_option maxRecDepth 20000 in
theorem bt_Mo_walk_15 {l : Launch} {K : KT} {X : XT} (hX : Cx l K 3 7 0 0 X prog_15_method_101_code "SeriesArchiveModel" (some .int) [] L_Mo_walk) (v1 : Int32) (v2 : Int32) (M : Mm) : VV l K 3 7 0 0 rvI X (fn_Mo_walk_15 v1 v2 M) 0 0 M 15 [(0, .ref (kA K 32)), (1, .int v1), (2, .int v2)] [.ref (kA K 32)] := by
  unfold fn_Mo_walk_15
  refine V_iconst hX (v := 1) (hv := by decide) 7 16 rfl rfl ?_
  refine V_goto hX 8 40 rfl (by decide) ?_
  exact bt_Mo_walk_40 hX v1 v2 1 M
set_option maxRecDepth 20000 in
theorem bt_Mo_walk_35 {l : Launch} {K : KT} {X : XT} (hX : Cx l K 3 7 0 0 X prog_15_method_101_code "SeriesArchiveModel" (some .int) [] L_Mo_walk) (v1 : Int32) (v2 : Int32) (M : Mm) : VV l K 3 7 0 0 rvI X (fn_Mo_walk_35 v1 v2 M) 0 0 M 35 [(0, .ref (kA K 32)), (1, .int v1), (2, .int v2)] [.ref (kA K 32)] := by
  unfold fn_Mo_walk_35
  refine V_iconst hX (v := 2) (hv := by decide) 17 36 rfl rfl ?_
  refine V_goto hX 18 40 rfl (by decide) ?_
  exact bt_Mo_walk_40 hX v1 v2 2 M
set_option maxRecDepth 20000 in
theorem ct_Mo_walk {l : Launch} (hl : l.stackTraces = false) (K : KT) (v1 : Int32) (v2 : Int32) (M : Mm) : CTp l K y_Mo_walk (Cond.code y_Mo_walk prog_15_method_101_code 7 (some .int)) rvI 3 0 0 [.ref (kA K 32), .int v1, .int v2] M (fn_Mo_walk v1 v2 M) := by
  refine CTp_of (L := L_Mo_walk) (lc := [(0, .ref (kA K 32)), (1, .int v1), (2, .int v2)]) (by decide +kernel) dec_Mo_walk hl rfl (Nat.le_of_ble_eq_true rfl) (fun X hX => ?_)
  unfold fn_Mo_walk
  refine V_aload_n hX (j := 0) (hj := rfl) 0 1 rfl rfl ?_
  refine V_iload_n hX (j := 1) (hj := rfl) 1 2 rfl rfl ?_
  refine V_callI hX 5 0 0 rfl rfl rfl (Nat.le_of_ble_eq_true rfl) (Nat.le_of_ble_eq_true rfl) (VR_S hX 2 (ct_Mo_isSlot (cx_t hX) K v1 M) my_Mo_isSlot mt_Mo_isSlot ml_Mo_89 (Nat.le_of_ble_eq_true rfl) (Nat.le_of_ble_eq_true rfl) rfl rfl (Nat.le_of_ble_eq_true rfl) rfl (Nat.le_of_ble_eq_true rfl) (Nat.le_of_ble_eq_true rfl)) (fun r2 M2 => ?_)
  refine V_if_eq hX 3 8 15 rfl rfl (by decide) (fun c5 => ?_) (fun c5 => ?_)
  · exact bt_Mo_walk_15 hX v1 v2 M2
  · refine V_iload_n hX (j := 2) (hj := rfl) 4 9 rfl rfl ?_
    refine V_callI hX 12 0 0 rfl rfl rfl (Nat.le_of_ble_eq_true rfl) (Nat.le_of_ble_eq_true rfl) (VR_S hX 5 (ct_Mo_isSlot (cx_t hX) K v2 M2) my_Mo_isSlot mt_Mo_isSlot ml_Mo_89 (Nat.le_of_ble_eq_true rfl) (Nat.le_of_ble_eq_true rfl) rfl rfl (Nat.le_of_ble_eq_true rfl) rfl (Nat.le_of_ble_eq_true rfl) (Nat.le_of_ble_eq_true rfl)) (fun r9 M9 => ?_)
    refine V_if_ne hX 6 15 19 rfl rfl (by decide) (fun c12 => ?_) (fun c12 => ?_)
    · refine V_aload_n hX (j := 0) (hj := rfl) 9 20 rfl rfl ?_
      refine V_iload_n hX (j := 1) (hj := rfl) 10 21 rfl rfl ?_
      refine V_callI hX 24 0 0 rfl rfl rfl (Nat.le_of_ble_eq_true rfl) (Nat.le_of_ble_eq_true rfl) (VR_V hX 11 (ct_Mo_many (cx_t hX) K v1 M9) my_Mo_many mi_Mo_many ms_Mo_many ml_Mo_93 (Nat.le_of_ble_eq_true rfl) (Nat.le_of_ble_eq_true rfl) (by decide) (ent_32 K _) rfl rfl rfl (Nat.le_of_ble_eq_true rfl) rfl (Nat.le_of_ble_eq_true rfl) (Nat.le_of_ble_eq_true rfl)) (fun r21 M21 => ?_)
      refine V_if_eq hX 12 27 35 rfl rfl (by decide) (fun c24 => ?_) (fun c24 => ?_)
      · exact bt_Mo_walk_35 hX v1 v2 M21
      · refine V_aload_n hX (j := 0) (hj := rfl) 13 28 rfl rfl ?_
        refine V_iload_n hX (j := 2) (hj := rfl) 14 29 rfl rfl ?_
        refine V_callI hX 32 0 0 rfl rfl rfl (Nat.le_of_ble_eq_true rfl) (Nat.le_of_ble_eq_true rfl) (VR_V hX 15 (ct_Mo_many (cx_t hX) K v2 M21) my_Mo_many mi_Mo_many ms_Mo_many ml_Mo_93 (Nat.le_of_ble_eq_true rfl) (Nat.le_of_ble_eq_true rfl) (by decide) (ent_32 K _) rfl rfl rfl (Nat.le_of_ble_eq_true rfl) rfl (Nat.le_of_ble_eq_true rfl) (Nat.le_of_ble_eq_true rfl)) (fun r29 M29 => ?_)
        refine V_if_ne hX 16 35 39 rfl rfl (by decide) (fun c32 => ?_) (fun c32 => ?_)
        · refine V_iconst hX (v := 0) (hv := by decide) 19 40 rfl rfl ?_
          exact bt_Mo_walk_40 hX v1 v2 0 M29
        · exact bt_Mo_walk_35 hX v1 v2 M29
    · exact bt_Mo_walk_15 hX v1 v2 M9
set_option maxRecDepth 20000 in
theorem ct_Mo_distance {l : Launch} (hl : l.stackTraces = false) (K : KT) (v1 : Int32) (v2 : Int32) (M : Mm) : CTp l K y_Mo_distance (Cond.code y_Mo_distance prog_15_method_102_code 3 (some .int)) rvI 4 0 0 [.ref (kA K 32), .int v1, .int v2] M (fn_Mo_distance v1 v2 M) := by
  refine CTp_of (L := L_Mo_distance) (lc := [(0, .ref (kA K 32)), (1, .int v1), (2, .int v2)]) (by decide +kernel) dec_Mo_distance hl rfl (Nat.le_of_ble_eq_true rfl) (fun X hX => ?_)
  unfold fn_Mo_distance
  refine V_aload_n hX (j := 0) (hj := rfl) 0 1 rfl rfl ?_
  refine V_iload_n hX (j := 1) (hj := rfl) 1 2 rfl rfl ?_
  refine V_iload_n hX (j := 2) (hj := rfl) 2 3 rfl rfl ?_
  refine V_callI hX 6 0 0 rfl rfl rfl (Nat.le_of_ble_eq_true rfl) (Nat.le_of_ble_eq_true rfl) (VR_V hX 3 (ct_Mo_walk (cx_t hX) K v1 v2 M) my_Mo_walk mi_Mo_walk ms_Mo_walk ml_Mo_266 (Nat.le_of_ble_eq_true rfl) (Nat.le_of_ble_eq_true rfl) (by decide) (ent_32 K _) rfl rfl rfl (Nat.le_of_ble_eq_true rfl) rfl (Nat.le_of_ble_eq_true rfl) (Nat.le_of_ble_eq_true rfl)) (fun r3 M3 => ?_)
  exact V_iret hX 4 rfl (Nat.le_of_ble_eq_true rfl) (Nat.le_of_ble_eq_true rfl) rfl
set_option maxRecDepth 20000 in
theorem ct_Mo_distanceByWalks {l : Launch} (hl : l.stackTraces = false) (K : KT) (v1 : Int32) (v2 : Int32) (M : Mm) : CTp l K y_Mo_distanceByWalks (Cond.code y_Mo_distanceByWalks prog_15_method_103_code 3 (some .int)) rvI 4 0 0 [.ref (kA K 32), .int v1, .int v2] M (fn_Mo_distanceByWalks v1 v2 M) := by
  refine CTp_of (L := L_Mo_distanceByWalks) (lc := [(0, .ref (kA K 32)), (1, .int v1), (2, .int v2)]) (by decide +kernel) dec_Mo_distanceByWalks hl rfl (Nat.le_of_ble_eq_true rfl) (fun X hX => ?_)
  unfold fn_Mo_distanceByWalks
  refine V_aload_n hX (j := 0) (hj := rfl) 0 1 rfl rfl ?_
  refine V_iload_n hX (j := 1) (hj := rfl) 1 2 rfl rfl ?_
  refine V_iload_n hX (j := 2) (hj := rfl) 2 3 rfl rfl ?_
  refine V_callI hX 6 0 0 rfl rfl rfl (Nat.le_of_ble_eq_true rfl) (Nat.le_of_ble_eq_true rfl) (VR_V hX 3 (ct_Mo_walk (cx_t hX) K v1 v2 M) my_Mo_walk mi_Mo_walk ms_Mo_walk ml_Mo_266 (Nat.le_of_ble_eq_true rfl) (Nat.le_of_ble_eq_true rfl) (by decide) (ent_32 K _) rfl rfl rfl (Nat.le_of_ble_eq_true rfl) rfl (Nat.le_of_ble_eq_true rfl) (Nat.le_of_ble_eq_true rfl)) (fun r3 M3 => ?_)
  exact V_iret hX 4 rfl (Nat.le_of_ble_eq_true rfl) (Nat.le_of_ble_eq_true rfl) rfl
set_option maxRecDepth 20000 in
theorem bt_Mo_areParallelBy_18 {l : Launch} {K : KT} {X : XT} (hX : Cx l K 2 5 0 0 X prog_15_method_104_code "SeriesArchiveModel" (some .boolean) [] L_Mo_areParallelBy) (v1 : Int32) (v2 : Int32) (v3 : Int32) : ∀ (n : Nat) (v4 : Int32) (M : Mm), VV l K 2 5 0 0 rvI X (fn_Mo_areParallelBy_18 v1 v2 v3 n v4 M) 0 0 M 18 [(0, .ref (kA K 32)), (1, .int v1), (2, .int v2), (3, .int v3), (4, .int v4)] [] := by
  intro n
  induction n with
  | zero => intro v4 M; exact VV_none
  | succ n ih =>
    intro v4 M
    rw [fn_Mo_areParallelBy_18]
    refine V_iload hX (j := 4) (hj := rfl) 11 20 rfl rfl ?_
    refine V_aload_n hX (j := 0) (hj := rfl) 12 21 rfl rfl ?_
    refine V_iload_n hX (j := 1) (hj := rfl) 13 22 rfl rfl ?_
    refine V_callI hX 25 0 0 rfl rfl rfl (Nat.le_of_ble_eq_true rfl) (Nat.le_of_ble_eq_true rfl) (VR_V hX 14 (ct_Mo_many (cx_t hX) K v1 M) my_Mo_many mi_Mo_many ms_Mo_many ml_Mo_93 (Nat.le_of_ble_eq_true rfl) (Nat.le_of_ble_eq_true rfl) (by decide) (ent_32 K _) rfl rfl rfl (Nat.le_of_ble_eq_true rfl) rfl (Nat.le_of_ble_eq_true rfl) (Nat.le_of_ble_eq_true rfl)) (fun r22 M22 => ?_)
    refine V_icmp_ge hX 15 28 55 rfl rfl (by decide) (fun c25 => ?_) (fun c25 => ?_)
    · refine V_iconst hX (v := 1) (hv := by decide) 31 56 rfl rfl ?_
      exact V_zret hX 32 rfl rfl (Nat.le_of_ble_eq_true rfl) (Nat.le_of_ble_eq_true rfl) rfl
    · refine V_aload_n hX (j := 0) (hj := rfl) 16 29 rfl rfl ?_
      refine V_iload_n hX (j := 1) (hj := rfl) 17 30 rfl rfl ?_
      refine V_iload hX (j := 4) (hj := rfl) 18 32 rfl rfl ?_
      refine V_callI hX 35 0 0 rfl rfl rfl (Nat.le_of_ble_eq_true rfl) (Nat.le_of_ble_eq_true rfl) (VR_V hX 19 (ct_Mo_at (cx_t hX) K v1 v4 M22) my_Mo_at mi_Mo_at ms_Mo_at ml_Mo_124 (Nat.le_of_ble_eq_true rfl) (Nat.le_of_ble_eq_true rfl) (by decide) (ent_32 K _) rfl rfl rfl (Nat.le_of_ble_eq_true rfl) rfl (Nat.le_of_ble_eq_true rfl) (Nat.le_of_ble_eq_true rfl)) (fun r32 M32 => ?_)
      refine V_aload_n hX (j := 0) (hj := rfl) 20 36 rfl rfl ?_
      refine V_iload_n hX (j := 2) (hj := rfl) 21 37 rfl rfl ?_
      refine V_iload hX (j := 4) (hj := rfl) 22 39 rfl rfl ?_
      refine V_callI hX 42 0 0 rfl rfl rfl (Nat.le_of_ble_eq_true rfl) (Nat.le_of_ble_eq_true rfl) (VR_V hX 23 (ct_Mo_at (cx_t hX) K v2 v4 M32) my_Mo_at mi_Mo_at ms_Mo_at ml_Mo_124 (Nat.le_of_ble_eq_true rfl) (Nat.le_of_ble_eq_true rfl) (by decide) (ent_32 K _) rfl rfl rfl (Nat.le_of_ble_eq_true rfl) rfl (Nat.le_of_ble_eq_true rfl) (Nat.le_of_ble_eq_true rfl)) (fun r39 M39 => ?_)
      refine V_isub hX 24 43 rfl rfl ?_
      refine V_iload_n hX (j := 3) (hj := rfl) 25 44 rfl rfl ?_
      refine V_icmp_eq hX 26 47 49 rfl rfl (by decide) (fun c44 => ?_) (fun c44 => ?_)
      · refine V_iincL hX 29 52 4 rfl rfl rfl rfl (Nat.le_of_ble_eq_true rfl) (fun x4_49 hx4_49 => ?_)
        refine VV_lc [(4, .int x4_49), (0, .ref (kA K 32)), (1, .int v1), (2, .int v2), (3, .int v3)] rfl ?_
        refine V_goto hX 30 18 rfl (by decide) ?_
        refine VV_sub [1, 2, 3, 4, 0] rfl ?_
        exact ih x4_49 M39
      · refine V_iconst hX (v := 0) (hv := by decide) 27 48 rfl rfl ?_
        exact V_zret hX 28 rfl rfl (Nat.le_of_ble_eq_true rfl) (Nat.le_of_ble_eq_true rfl) rfl
set_option maxRecDepth 20000 in
theorem ct_Mo_areParallelBy {l : Launch} (hl : l.stackTraces = false) (K : KT) (v1 : Int32) (v2 : Int32) (v3 : Int32) (M : Mm) : CTp l K y_Mo_areParallelBy (Cond.code y_Mo_areParallelBy prog_15_method_104_code 5 (some .boolean)) rvI 2 0 0 [.ref (kA K 32), .int v1, .int v2, .int v3] M (fn_Mo_areParallelBy v1 v2 v3 M) := by
  refine CTp_of (L := L_Mo_areParallelBy) (lc := [(0, .ref (kA K 32)), (1, .int v1), (2, .int v2), (3, .int v3)]) (by decide +kernel) dec_Mo_areParallelBy hl rfl (Nat.le_of_ble_eq_true rfl) (fun X hX => ?_)
  unfold fn_Mo_areParallelBy
  refine V_aload_n hX (j := 0) (hj := rfl) 0 1 rfl rfl ?_
  refine V_iload_n hX (j := 1) (hj := rfl) 1 2 rfl rfl ?_
  refine V_callI hX 5 0 0 rfl rfl rfl (Nat.le_of_ble_eq_true rfl) (Nat.le_of_ble_eq_true rfl) (VR_V hX 2 (ct_Mo_many (cx_t hX) K v1 M) my_Mo_many mi_Mo_many ms_Mo_many ml_Mo_93 (Nat.le_of_ble_eq_true rfl) (Nat.le_of_ble_eq_true rfl) (by decide) (ent_32 K _) rfl rfl rfl (Nat.le_of_ble_eq_true rfl) rfl (Nat.le_of_ble_eq_true rfl) (Nat.le_of_ble_eq_true rfl)) (fun r2 M2 => ?_)
  refine V_aload_n hX (j := 0) (hj := rfl) 3 6 rfl rfl ?_
  refine V_iload_n hX (j := 2) (hj := rfl) 4 7 rfl rfl ?_
  refine V_callI hX 10 0 0 rfl rfl rfl (Nat.le_of_ble_eq_true rfl) (Nat.le_of_ble_eq_true rfl) (VR_V hX 5 (ct_Mo_many (cx_t hX) K v2 M2) my_Mo_many mi_Mo_many ms_Mo_many ml_Mo_93 (Nat.le_of_ble_eq_true rfl) (Nat.le_of_ble_eq_true rfl) (by decide) (ent_32 K _) rfl rfl rfl (Nat.le_of_ble_eq_true rfl) rfl (Nat.le_of_ble_eq_true rfl) (Nat.le_of_ble_eq_true rfl)) (fun r7 M7 => ?_)
  refine V_icmp_eq hX 6 13 15 rfl rfl (by decide) (fun c10 => ?_) (fun c10 => ?_)
  · refine V_iconst hX (v := 0) (hv := by decide) 9 16 rfl rfl ?_
    refine V_istore hX 10 18 [(4, .int 0), (0, .ref (kA K 32)), (1, .int v1), (2, .int v2), (3, .int v3)] rfl rfl (Nat.le_of_ble_eq_true rfl) rfl ?_
    refine VV_sub [1, 2, 3, 4, 0] rfl ?_
    exact bt_Mo_areParallelBy_18 hX v1 v2 v3 fuel0 0 M7
  · refine V_iconst hX (v := 0) (hv := by decide) 7 14 rfl rfl ?_
    exact V_zret hX 8 rfl rfl (Nat.le_of_ble_eq_true rfl) (Nat.le_of_ble_eq_true rfl) rfl
set_option maxRecDepth 20000 in
theorem bt_Mo_areEqual_20 {l : Launch} {K : KT} {X : XT} (hX : Cx l K 3 3 0 0 X prog_15_method_105_code "SeriesArchiveModel" (some .boolean) [] L_Mo_areEqual) (v1 : Int32) (v2 : Int32) (s1 : Int32) (M : Mm) : VV l K 3 3 0 0 rvI X (fn_Mo_areEqual_20 v1 v2 s1 M) 0 0 M 20 [(0, .ref (kA K 32)), (1, .int v1), (2, .int v2)] [.int s1, .ref (kA K 32)] := by
  unfold fn_Mo_areEqual_20
  refine V_callI hX 23 0 0 rfl rfl rfl (Nat.le_of_ble_eq_true rfl) (Nat.le_of_ble_eq_true rfl) (VR_V hX 10 (ct_Mo_checked (cx_t hX) K s1 M) my_Mo_checked mi_Mo_checked ms_Mo_checked ml_Mo_189 (Nat.le_of_ble_eq_true rfl) (Nat.le_of_ble_eq_true rfl) (by decide) (ent_32 K _) rfl rfl rfl (Nat.le_of_ble_eq_true rfl) rfl (Nat.le_of_ble_eq_true rfl) (Nat.le_of_ble_eq_true rfl)) (fun r20 M20 => ?_)
  refine V_if_ne hX 11 26 40 rfl rfl (by decide) (fun c23 => ?_) (fun c23 => ?_)
  · refine V_iconst hX (v := 0) (hv := by decide) 20 41 rfl rfl ?_
    exact V_zret hX 21 rfl rfl (Nat.le_of_ble_eq_true rfl) (Nat.le_of_ble_eq_true rfl) rfl
  · refine V_aload_n hX (j := 0) (hj := rfl) 12 27 rfl rfl ?_
    refine V_iload_n hX (j := 1) (hj := rfl) 13 28 rfl rfl ?_
    refine V_iload_n hX (j := 2) (hj := rfl) 14 29 rfl rfl ?_
    refine V_iconst hX (v := 0) (hv := by decide) 15 30 rfl rfl ?_
    refine V_callI hX 33 0 0 rfl rfl rfl (Nat.le_of_ble_eq_true rfl) (Nat.le_of_ble_eq_true rfl) (VR_V hX 16 (ct_Mo_areParallelBy (cx_t hX) K v1 v2 0 M20) my_Mo_areParallelBy mi_Mo_areParallelBy ms_Mo_areParallelBy ml_Mo_269 (Nat.le_of_ble_eq_true rfl) (Nat.le_of_ble_eq_true rfl) (by decide) (ent_32 K _) rfl rfl rfl (Nat.le_of_ble_eq_true rfl) rfl (Nat.le_of_ble_eq_true rfl) (Nat.le_of_ble_eq_true rfl)) (fun r30 M30 => ?_)
    refine V_if_eq hX 17 36 40 rfl rfl (by decide) (fun c33 => ?_) (fun c33 => ?_)
    · refine V_iconst hX (v := 0) (hv := by decide) 20 41 rfl rfl ?_
      exact V_zret hX 21 rfl rfl (Nat.le_of_ble_eq_true rfl) (Nat.le_of_ble_eq_true rfl) rfl
    · refine V_iconst hX (v := 1) (hv := by decide) 18 37 rfl rfl ?_
      refine V_goto hX 19 41 rfl (by decide) ?_
      exact V_zret hX 21 rfl rfl (Nat.le_of_ble_eq_true rfl) (Nat.le_of_ble_eq_true rfl) rfl
set_option maxRecDepth 20000 in
theorem bt_Mo_areEqual_19 {l : Launch} {K : KT} {X : XT} (hX : Cx l K 3 3 0 0 X prog_15_method_105_code "SeriesArchiveModel" (some .boolean) [] L_Mo_areEqual) (v1 : Int32) (v2 : Int32) (M : Mm) : VV l K 3 3 0 0 rvI X (fn_Mo_areEqual_19 v1 v2 M) 0 0 M 19 [(0, .ref (kA K 32)), (1, .int v1), (2, .int v2)] [.ref (kA K 32)] := by
  unfold fn_Mo_areEqual_19
  refine V_iconst hX (v := 0) (hv := by decide) 9 20 rfl rfl ?_
  exact bt_Mo_areEqual_20 hX v1 v2 0 M
set_option maxRecDepth 20000 in
theorem ct_Mo_areEqual {l : Launch} (hl : l.stackTraces = false) (K : KT) (v1 : Int32) (v2 : Int32) (M : Mm) : CTp l K y_Mo_areEqual (Cond.code y_Mo_areEqual prog_15_method_105_code 3 (some .boolean)) rvI 3 0 0 [.ref (kA K 32), .int v1, .int v2] M (fn_Mo_areEqual v1 v2 M) := by
  refine CTp_of (L := L_Mo_areEqual) (lc := [(0, .ref (kA K 32)), (1, .int v1), (2, .int v2)]) (by decide +kernel) dec_Mo_areEqual hl rfl (Nat.le_of_ble_eq_true rfl) (fun X hX => ?_)
  unfold fn_Mo_areEqual
  refine V_aload_n hX (j := 0) (hj := rfl) 0 1 rfl rfl ?_
  refine V_iload_n hX (j := 1) (hj := rfl) 1 2 rfl rfl ?_
  refine V_callI hX 5 0 0 rfl rfl rfl (Nat.le_of_ble_eq_true rfl) (Nat.le_of_ble_eq_true rfl) (VR_S hX 2 (ct_Mo_isSlot (cx_t hX) K v1 M) my_Mo_isSlot mt_Mo_isSlot ml_Mo_89 (Nat.le_of_ble_eq_true rfl) (Nat.le_of_ble_eq_true rfl) rfl rfl (Nat.le_of_ble_eq_true rfl) rfl (Nat.le_of_ble_eq_true rfl) (Nat.le_of_ble_eq_true rfl)) (fun r2 M2 => ?_)
  refine V_if_eq hX 3 8 19 rfl rfl (by decide) (fun c5 => ?_) (fun c5 => ?_)
  · exact bt_Mo_areEqual_19 hX v1 v2 M2
  · refine V_iload_n hX (j := 2) (hj := rfl) 4 9 rfl rfl ?_
    refine V_callI hX 12 0 0 rfl rfl rfl (Nat.le_of_ble_eq_true rfl) (Nat.le_of_ble_eq_true rfl) (VR_S hX 5 (ct_Mo_isSlot (cx_t hX) K v2 M2) my_Mo_isSlot mt_Mo_isSlot ml_Mo_89 (Nat.le_of_ble_eq_true rfl) (Nat.le_of_ble_eq_true rfl) rfl rfl (Nat.le_of_ble_eq_true rfl) rfl (Nat.le_of_ble_eq_true rfl) (Nat.le_of_ble_eq_true rfl)) (fun r9 M9 => ?_)
    refine V_if_eq hX 6 15 19 rfl rfl (by decide) (fun c12 => ?_) (fun c12 => ?_)
    · exact bt_Mo_areEqual_19 hX v1 v2 M9
    · refine V_iconst hX (v := 1) (hv := by decide) 7 16 rfl rfl ?_
      refine V_goto hX 8 20 rfl (by decide) ?_
      exact bt_Mo_areEqual_20 hX v1 v2 1 M9
set_option maxRecDepth 20000 in
theorem bt_Mo_areParallel_20 {l : Launch} {K : KT} {X : XT} (hX : Cx l K 3 3 0 0 X prog_15_method_106_code "SeriesArchiveModel" (some .boolean) [] L_Mo_areParallel) (v1 : Int32) (v2 : Int32) (s1 : Int32) (M : Mm) : VV l K 3 3 0 0 rvI X (fn_Mo_areParallel_20 v1 v2 s1 M) 0 0 M 20 [(0, .ref (kA K 32)), (1, .int v1), (2, .int v2)] [.int s1, .ref (kA K 32)] := by
  unfold fn_Mo_areParallel_20
  refine V_callI hX 23 0 0 rfl rfl rfl (Nat.le_of_ble_eq_true rfl) (Nat.le_of_ble_eq_true rfl) (VR_V hX 10 (ct_Mo_checked (cx_t hX) K s1 M) my_Mo_checked mi_Mo_checked ms_Mo_checked ml_Mo_189 (Nat.le_of_ble_eq_true rfl) (Nat.le_of_ble_eq_true rfl) (by decide) (ent_32 K _) rfl rfl rfl (Nat.le_of_ble_eq_true rfl) rfl (Nat.le_of_ble_eq_true rfl) (Nat.le_of_ble_eq_true rfl)) (fun r20 M20 => ?_)
  refine V_if_ne hX 11 26 52 rfl rfl (by decide) (fun c23 => ?_) (fun c23 => ?_)
  · refine V_iconst hX (v := 0) (hv := by decide) 28 53 rfl rfl ?_
    exact V_zret hX 29 rfl rfl (Nat.le_of_ble_eq_true rfl) (Nat.le_of_ble_eq_true rfl) rfl
  · refine V_aload_n hX (j := 0) (hj := rfl) 12 27 rfl rfl ?_
    refine V_iload_n hX (j := 1) (hj := rfl) 13 28 rfl rfl ?_
    refine V_iload_n hX (j := 2) (hj := rfl) 14 29 rfl rfl ?_
    refine V_aload_n hX (j := 0) (hj := rfl) 15 30 rfl rfl ?_
    refine V_iload_n hX (j := 1) (hj := rfl) 16 31 rfl rfl ?_
    refine V_iconst hX (v := 0) (hv := by decide) 17 32 rfl rfl ?_
    refine V_callI hX 35 0 0 rfl rfl rfl (Nat.le_of_ble_eq_true rfl) (Nat.le_of_ble_eq_true rfl) (VR_V hX 18 (ct_Mo_at (cx_t hX) K v1 0 M20) my_Mo_at mi_Mo_at ms_Mo_at ml_Mo_124 (Nat.le_of_ble_eq_true rfl) (Nat.le_of_ble_eq_true rfl) (by decide) (ent_32 K _) rfl rfl rfl (Nat.le_of_ble_eq_true rfl) rfl (Nat.le_of_ble_eq_true rfl) (Nat.le_of_ble_eq_true rfl)) (fun r32 M32 => ?_)
    refine V_aload_n hX (j := 0) (hj := rfl) 19 36 rfl rfl ?_
    refine V_iload_n hX (j := 2) (hj := rfl) 20 37 rfl rfl ?_
    refine V_iconst hX (v := 0) (hv := by decide) 21 38 rfl rfl ?_
    refine V_callI hX 41 0 0 rfl rfl rfl (Nat.le_of_ble_eq_true rfl) (Nat.le_of_ble_eq_true rfl) (VR_V hX 22 (ct_Mo_at (cx_t hX) K v2 0 M32) my_Mo_at mi_Mo_at ms_Mo_at ml_Mo_124 (Nat.le_of_ble_eq_true rfl) (Nat.le_of_ble_eq_true rfl) (by decide) (ent_32 K _) rfl rfl rfl (Nat.le_of_ble_eq_true rfl) rfl (Nat.le_of_ble_eq_true rfl) (Nat.le_of_ble_eq_true rfl)) (fun r38 M38 => ?_)
    refine V_isub hX 23 42 rfl rfl ?_
    refine V_callI hX 45 0 0 rfl rfl rfl (Nat.le_of_ble_eq_true rfl) (Nat.le_of_ble_eq_true rfl) (VR_V hX 24 (ct_Mo_areParallelBy (cx_t hX) K v1 v2 (r32 - r38) M38) my_Mo_areParallelBy mi_Mo_areParallelBy ms_Mo_areParallelBy ml_Mo_269 (Nat.le_of_ble_eq_true rfl) (Nat.le_of_ble_eq_true rfl) (by decide) (ent_32 K _) rfl rfl rfl (Nat.le_of_ble_eq_true rfl) rfl (Nat.le_of_ble_eq_true rfl) (Nat.le_of_ble_eq_true rfl)) (fun r42 M42 => ?_)
    refine V_if_eq hX 25 48 52 rfl rfl (by decide) (fun c45 => ?_) (fun c45 => ?_)
    · refine V_iconst hX (v := 0) (hv := by decide) 28 53 rfl rfl ?_
      exact V_zret hX 29 rfl rfl (Nat.le_of_ble_eq_true rfl) (Nat.le_of_ble_eq_true rfl) rfl
    · refine V_iconst hX (v := 1) (hv := by decide) 26 49 rfl rfl ?_
      refine V_goto hX 27 53 rfl (by decide) ?_
      exact V_zret hX 29 rfl rfl (Nat.le_of_ble_eq_true rfl) (Nat.le_of_ble_eq_true rfl) rfl
set_option maxRecDepth 20000 in
theorem bt_Mo_areParallel_19 {l : Launch} {K : KT} {X : XT} (hX : Cx l K 3 3 0 0 X prog_15_method_106_code "SeriesArchiveModel" (some .boolean) [] L_Mo_areParallel) (v1 : Int32) (v2 : Int32) (M : Mm) : VV l K 3 3 0 0 rvI X (fn_Mo_areParallel_19 v1 v2 M) 0 0 M 19 [(0, .ref (kA K 32)), (1, .int v1), (2, .int v2)] [.ref (kA K 32)] := by
  unfold fn_Mo_areParallel_19
  refine V_iconst hX (v := 0) (hv := by decide) 9 20 rfl rfl ?_
  exact bt_Mo_areParallel_20 hX v1 v2 0 M
set_option maxRecDepth 20000 in
theorem ct_Mo_areParallel {l : Launch} (hl : l.stackTraces = false) (K : KT) (v1 : Int32) (v2 : Int32) (M : Mm) : CTp l K y_Mo_areParallel (Cond.code y_Mo_areParallel prog_15_method_106_code 3 (some .boolean)) rvI 3 0 0 [.ref (kA K 32), .int v1, .int v2] M (fn_Mo_areParallel v1 v2 M) := by
  refine CTp_of (L := L_Mo_areParallel) (lc := [(0, .ref (kA K 32)), (1, .int v1), (2, .int v2)]) (by decide +kernel) dec_Mo_areParallel hl rfl (Nat.le_of_ble_eq_true rfl) (fun X hX => ?_)
  unfold fn_Mo_areParallel
  refine V_aload_n hX (j := 0) (hj := rfl) 0 1 rfl rfl ?_
  refine V_iload_n hX (j := 1) (hj := rfl) 1 2 rfl rfl ?_
  refine V_callI hX 5 0 0 rfl rfl rfl (Nat.le_of_ble_eq_true rfl) (Nat.le_of_ble_eq_true rfl) (VR_S hX 2 (ct_Mo_isSlot (cx_t hX) K v1 M) my_Mo_isSlot mt_Mo_isSlot ml_Mo_89 (Nat.le_of_ble_eq_true rfl) (Nat.le_of_ble_eq_true rfl) rfl rfl (Nat.le_of_ble_eq_true rfl) rfl (Nat.le_of_ble_eq_true rfl) (Nat.le_of_ble_eq_true rfl)) (fun r2 M2 => ?_)
  refine V_if_eq hX 3 8 19 rfl rfl (by decide) (fun c5 => ?_) (fun c5 => ?_)
  · exact bt_Mo_areParallel_19 hX v1 v2 M2
  · refine V_iload_n hX (j := 2) (hj := rfl) 4 9 rfl rfl ?_
    refine V_callI hX 12 0 0 rfl rfl rfl (Nat.le_of_ble_eq_true rfl) (Nat.le_of_ble_eq_true rfl) (VR_S hX 5 (ct_Mo_isSlot (cx_t hX) K v2 M2) my_Mo_isSlot mt_Mo_isSlot ml_Mo_89 (Nat.le_of_ble_eq_true rfl) (Nat.le_of_ble_eq_true rfl) rfl rfl (Nat.le_of_ble_eq_true rfl) rfl (Nat.le_of_ble_eq_true rfl) (Nat.le_of_ble_eq_true rfl)) (fun r9 M9 => ?_)
    refine V_if_eq hX 6 15 19 rfl rfl (by decide) (fun c12 => ?_) (fun c12 => ?_)
    · exact bt_Mo_areParallel_19 hX v1 v2 M9
    · refine V_iconst hX (v := 1) (hv := by decide) 7 16 rfl rfl ?_
      refine V_goto hX 8 20 rfl (by decide) ?_
      exact bt_Mo_areParallel_20 hX v1 v2 1 M9
set_option maxRecDepth 20000 in
theorem bt_Mo_isAscending_15 {l : Launch} {K : KT} {X : XT} (hX : Cx l K 3 3 0 0 X prog_15_method_107_code "SeriesArchiveModel" (some .boolean) [] L_Mo_isAscending) (v1 : Int32) : ∀ (n : Nat) (v2 : Int32) (M : Mm), VV l K 3 3 0 0 rvI X (fn_Mo_isAscending_15 v1 n v2 M) 0 0 M 15 [(0, .ref (kA K 32)), (1, .int v1), (2, .int v2)] [] := by
  intro n
  induction n with
  | zero => intro v2 M; exact VV_none
  | succ n ih =>
    intro v2 M
    rw [fn_Mo_isAscending_15]
    refine V_iload_n hX (j := 2) (hj := rfl) 9 16 rfl rfl ?_
    refine V_aload_n hX (j := 0) (hj := rfl) 10 17 rfl rfl ?_
    refine V_iload_n hX (j := 1) (hj := rfl) 11 18 rfl rfl ?_
    refine V_callI hX 21 0 0 rfl rfl rfl (Nat.le_of_ble_eq_true rfl) (Nat.le_of_ble_eq_true rfl) (VR_V hX 12 (ct_Mo_many (cx_t hX) K v1 M) my_Mo_many mi_Mo_many ms_Mo_many ml_Mo_93 (Nat.le_of_ble_eq_true rfl) (Nat.le_of_ble_eq_true rfl) (by decide) (ent_32 K _) rfl rfl rfl (Nat.le_of_ble_eq_true rfl) rfl (Nat.le_of_ble_eq_true rfl) (Nat.le_of_ble_eq_true rfl)) (fun r18 M18 => ?_)
    refine V_icmp_ge hX 13 24 49 rfl rfl (by decide) (fun c21 => ?_) (fun c21 => ?_)
    · refine V_iconst hX (v := 1) (hv := by decide) 29 50 rfl rfl ?_
      exact V_zret hX 30 rfl rfl (Nat.le_of_ble_eq_true rfl) (Nat.le_of_ble_eq_true rfl) rfl
    · refine V_aload_n hX (j := 0) (hj := rfl) 14 25 rfl rfl ?_
      refine V_iload_n hX (j := 1) (hj := rfl) 15 26 rfl rfl ?_
      refine V_iload_n hX (j := 2) (hj := rfl) 16 27 rfl rfl ?_
      refine V_callI hX 30 0 0 rfl rfl rfl (Nat.le_of_ble_eq_true rfl) (Nat.le_of_ble_eq_true rfl) (VR_V hX 17 (ct_Mo_at (cx_t hX) K v1 v2 M18) my_Mo_at mi_Mo_at ms_Mo_at ml_Mo_124 (Nat.le_of_ble_eq_true rfl) (Nat.le_of_ble_eq_true rfl) (by decide) (ent_32 K _) rfl rfl rfl (Nat.le_of_ble_eq_true rfl) rfl (Nat.le_of_ble_eq_true rfl) (Nat.le_of_ble_eq_true rfl)) (fun r27 M27 => ?_)
      refine V_aload_n hX (j := 0) (hj := rfl) 18 31 rfl rfl ?_
      refine V_iload_n hX (j := 1) (hj := rfl) 19 32 rfl rfl ?_
      refine V_iload_n hX (j := 2) (hj := rfl) 20 33 rfl rfl ?_
      refine V_iconst hX (v := 1) (hv := by decide) 21 34 rfl rfl ?_
      refine V_isub hX 22 35 rfl rfl ?_
      refine V_callI hX 38 0 0 rfl rfl rfl (Nat.le_of_ble_eq_true rfl) (Nat.le_of_ble_eq_true rfl) (VR_V hX 23 (ct_Mo_at (cx_t hX) K v1 (v2 - 1) M27) my_Mo_at mi_Mo_at ms_Mo_at ml_Mo_124 (Nat.le_of_ble_eq_true rfl) (Nat.le_of_ble_eq_true rfl) (by decide) (ent_32 K _) rfl rfl rfl (Nat.le_of_ble_eq_true rfl) rfl (Nat.le_of_ble_eq_true rfl) (Nat.le_of_ble_eq_true rfl)) (fun r35 M35 => ?_)
      refine V_icmp_ge hX 24 41 43 rfl rfl (by decide) (fun c38 => ?_) (fun c38 => ?_)
      · refine V_iincL hX 27 46 2 rfl rfl rfl rfl (Nat.le_of_ble_eq_true rfl) (fun x2_43 hx2_43 => ?_)
        refine VV_lc [(2, .int x2_43), (0, .ref (kA K 32)), (1, .int v1)] rfl ?_
        refine V_goto hX 28 15 rfl (by decide) ?_
        refine VV_sub [1, 2, 0] rfl ?_
        exact ih x2_43 M35
      · refine V_iconst hX (v := 0) (hv := by decide) 25 42 rfl rfl ?_
        exact V_zret hX 26 rfl rfl (Nat.le_of_ble_eq_true rfl) (Nat.le_of_ble_eq_true rfl) rfl
set_option maxRecDepth 20000 in
theorem ct_Mo_isAscending {l : Launch} (hl : l.stackTraces = false) (K : KT) (v1 : Int32) (M : Mm) : CTp l K y_Mo_isAscending (Cond.code y_Mo_isAscending prog_15_method_107_code 3 (some .boolean)) rvI 3 0 0 [.ref (kA K 32), .int v1] M (fn_Mo_isAscending v1 M) := by
  refine CTp_of (L := L_Mo_isAscending) (lc := [(0, .ref (kA K 32)), (1, .int v1)]) (by decide +kernel) dec_Mo_isAscending hl rfl (Nat.le_of_ble_eq_true rfl) (fun X hX => ?_)
  unfold fn_Mo_isAscending
  refine V_aload_n hX (j := 0) (hj := rfl) 0 1 rfl rfl ?_
  refine V_iload_n hX (j := 1) (hj := rfl) 1 2 rfl rfl ?_
  refine V_callI hX 5 0 0 rfl rfl rfl (Nat.le_of_ble_eq_true rfl) (Nat.le_of_ble_eq_true rfl) (VR_S hX 2 (ct_Mo_isSlot (cx_t hX) K v1 M) my_Mo_isSlot mt_Mo_isSlot ml_Mo_89 (Nat.le_of_ble_eq_true rfl) (Nat.le_of_ble_eq_true rfl) rfl rfl (Nat.le_of_ble_eq_true rfl) rfl (Nat.le_of_ble_eq_true rfl) (Nat.le_of_ble_eq_true rfl)) (fun r2 M2 => ?_)
  refine V_callI hX 8 0 0 rfl rfl rfl (Nat.le_of_ble_eq_true rfl) (Nat.le_of_ble_eq_true rfl) (VR_V hX 3 (ct_Mo_checked (cx_t hX) K r2 M2) my_Mo_checked mi_Mo_checked ms_Mo_checked ml_Mo_189 (Nat.le_of_ble_eq_true rfl) (Nat.le_of_ble_eq_true rfl) (by decide) (ent_32 K _) rfl rfl rfl (Nat.le_of_ble_eq_true rfl) rfl (Nat.le_of_ble_eq_true rfl) (Nat.le_of_ble_eq_true rfl)) (fun r5 M5 => ?_)
  refine V_if_le hX 4 11 13 rfl rfl (by decide) (fun c8 => ?_) (fun c8 => ?_)
  · refine V_iconst hX (v := 1) (hv := by decide) 7 14 rfl rfl ?_
    refine V_istore_n hX 8 15 [(2, .int 1), (0, .ref (kA K 32)), (1, .int v1)] rfl rfl (Nat.le_of_ble_eq_true rfl) rfl ?_
    refine VV_sub [1, 2, 0] rfl ?_
    exact bt_Mo_isAscending_15 hX v1 fuel0 1 M5
  · refine V_iconst hX (v := 0) (hv := by decide) 5 12 rfl rfl ?_
    exact V_zret hX 6 rfl rfl (Nat.le_of_ble_eq_true rfl) (Nat.le_of_ble_eq_true rfl) rfl
set_option maxRecDepth 20000 in
theorem bt_Mo_all_4 {l : Launch} {K : KT} {X : XT} (hX : Cx l K 2 3 0 0 X prog_15_method_108_code "SeriesArchiveModel" (some .int) [] L_Mo_all) : ∀ (n : Nat) (v1 : Int32) (v2 : Int32) (M : Mm), VV l K 2 3 0 0 rvI X (fn_Mo_all_4 n v1 v2 M) 0 0 M 4 [(0, .ref (kA K 32)), (1, .int v1), (2, .int v2)] [] := by
  intro n
  induction n with
  | zero => intro v1 v2 M; exact VV_none
  | succ n ih =>
    intro v1 v2 M
    rw [fn_Mo_all_4]
    refine V_iload_n hX (j := 2) (hj := rfl) 4 5 rfl rfl ?_
    refine V_iconst hX (v := 4) (hv := by decide) 5 6 rfl rfl ?_
    refine V_icmp_ge hX 6 9 23 rfl rfl (by decide) (fun c6 => ?_) (fun c6 => ?_)
    · refine V_iload_n hX (j := 1) (hj := rfl) 15 24 rfl rfl ?_
      exact V_iret hX 16 rfl (Nat.le_of_ble_eq_true rfl) (Nat.le_of_ble_eq_true rfl) rfl
    · refine V_iload_n hX (j := 1) (hj := rfl) 7 10 rfl rfl ?_
      refine V_aload_n hX (j := 0) (hj := rfl) 8 11 rfl rfl ?_
      refine V_iload_n hX (j := 2) (hj := rfl) 9 12 rfl rfl ?_
      refine V_callI hX 15 0 0 rfl rfl rfl (Nat.le_of_ble_eq_true rfl) (Nat.le_of_ble_eq_true rfl) (VR_V hX 10 (ct_Mo_many (cx_t hX) K v2 M) my_Mo_many mi_Mo_many ms_Mo_many ml_Mo_93 (Nat.le_of_ble_eq_true rfl) (Nat.le_of_ble_eq_true rfl) (by decide) (ent_32 K _) rfl rfl rfl (Nat.le_of_ble_eq_true rfl) rfl (Nat.le_of_ble_eq_true rfl) (Nat.le_of_ble_eq_true rfl)) (fun r12 M12 => ?_)
      refine V_iadd hX 11 16 rfl rfl ?_
      refine VV_li (fun x1_16 hx1_16 => ?_)
      refine V_istore_n hX 12 17 [(1, .int x1_16), (0, .ref (kA K 32)), (2, .int v2)] rfl rfl (Nat.le_of_ble_eq_true rfl) rfl ?_
      refine V_iincL hX 13 20 2 rfl rfl rfl rfl (Nat.le_of_ble_eq_true rfl) (fun x2_17 hx2_17 => ?_)
      refine VV_lc [(2, .int x2_17), (1, .int x1_16), (0, .ref (kA K 32))] rfl ?_
      refine V_goto hX 14 4 rfl (by decide) ?_
      refine VV_sub [2, 1, 0] rfl ?_
      exact ih x1_16 x2_17 M12
set_option maxRecDepth 20000 in
theorem ct_Mo_all {l : Launch} (hl : l.stackTraces = false) (K : KT) (M : Mm) : CTp l K y_Mo_all (Cond.code y_Mo_all prog_15_method_108_code 3 (some .int)) rvI 2 0 0 [.ref (kA K 32)] M (fn_Mo_all M) := by
  refine CTp_of (L := L_Mo_all) (lc := [(0, .ref (kA K 32))]) (by decide +kernel) dec_Mo_all hl rfl (Nat.le_of_ble_eq_true rfl) (fun X hX => ?_)
  unfold fn_Mo_all
  refine V_iconst hX (v := 0) (hv := by decide) 0 1 rfl rfl ?_
  refine V_istore_n hX 1 2 [(1, .int 0), (0, .ref (kA K 32))] rfl rfl (Nat.le_of_ble_eq_true rfl) rfl ?_
  refine V_iconst hX (v := 0) (hv := by decide) 2 3 rfl rfl ?_
  refine V_istore_n hX 3 4 [(2, .int 0), (1, .int 0), (0, .ref (kA K 32))] rfl rfl (Nat.le_of_ble_eq_true rfl) rfl ?_
  refine VV_sub [2, 1, 0] rfl ?_
  exact bt_Mo_all_4 hX fuel0 0 0 M
set_option maxRecDepth 20000 in
theorem ct_Mo_valueTotal {l : Launch} (hl : l.stackTraces = false) (K : KT) (M : Mm) : CTp l K y_Mo_valueTotal (Cond.code y_Mo_valueTotal prog_15_method_109_code 1 (some .int)) rvI 3 0 0 [.ref (kA K 32)] M (fn_Mo_valueTotal M) := by
  refine CTp_of (L := L_Mo_valueTotal) (lc := [(0, .ref (kA K 32))]) (by decide +kernel) dec_Mo_valueTotal hl rfl (Nat.le_of_ble_eq_true rfl) (fun X hX => ?_)
  unfold fn_Mo_valueTotal
  refine V_aload_n hX (j := 0) (hj := rfl) 0 1 rfl rfl ?_
  refine V_aload_n hX (j := 0) (hj := rfl) 1 2 rfl rfl ?_
  refine V_callI hX 5 0 0 rfl rfl rfl (Nat.le_of_ble_eq_true rfl) (Nat.le_of_ble_eq_true rfl) (VR_V hX 2 (ct_Mo_all (cx_t hX) K M) my_Mo_all mi_Mo_all ms_Mo_all ml_Mo_272 (Nat.le_of_ble_eq_true rfl) (Nat.le_of_ble_eq_true rfl) (by decide) (ent_32 K _) rfl rfl rfl (Nat.le_of_ble_eq_true rfl) rfl (Nat.le_of_ble_eq_true rfl) (Nat.le_of_ble_eq_true rfl)) (fun r2 M2 => ?_)
  refine V_callI hX 8 0 0 rfl rfl rfl (Nat.le_of_ble_eq_true rfl) (Nat.le_of_ble_eq_true rfl) (VR_V hX 3 (ct_Mo_plain (cx_t hX) K r2 M2) my_Mo_plain mi_Mo_plain ms_Mo_plain ml_Mo_276 (Nat.le_of_ble_eq_true rfl) (Nat.le_of_ble_eq_true rfl) (by decide) (ent_32 K _) rfl rfl rfl (Nat.le_of_ble_eq_true rfl) rfl (Nat.le_of_ble_eq_true rfl) (Nat.le_of_ble_eq_true rfl)) (fun r5 M5 => ?_)
  exact V_iret hX 4 rfl (Nat.le_of_ble_eq_true rfl) (Nat.le_of_ble_eq_true rfl) rfl
set_option maxRecDepth 20000 in
theorem ct_Mo_appendedTotal {l : Launch} (hl : l.stackTraces = false) (K : KT) (M : Mm) : CTp l K y_Mo_appendedTotal (Cond.code y_Mo_appendedTotal prog_15_method_110_code 1 (some .int)) rvI 2 0 0 [.ref (kA K 32)] M (fn_Mo_appendedTotal M) := by
  refine CTp_of (L := L_Mo_appendedTotal) (lc := [(0, .ref (kA K 32))]) (by decide +kernel) dec_Mo_appendedTotal hl rfl (Nat.le_of_ble_eq_true rfl) (fun X hX => ?_)
  unfold fn_Mo_appendedTotal
  refine V_aload_n hX (j := 0) (hj := rfl) 0 1 rfl rfl ?_
  refine V_aload_n hX (j := 0) (hj := rfl) 1 2 rfl rfl ?_
  refine V_get hX 2 5 32 (.ref (kA K 33)) fl_Mo_7 rfl rfl (by decide) (ent_32 K _) rfl ?_
  refine V_bipush hX (v := 84) (hv := by decide) 3 7 rfl rfl ?_
  refine V_iald hX 4 8 33 85 (by decide) rfl rfl rfl (fun g7 => ?_)
  refine V_callI hX 11 0 0 rfl rfl rfl (Nat.le_of_ble_eq_true rfl) (Nat.le_of_ble_eq_true rfl) (VR_V hX 5 (ct_Mo_plain (cx_t hX) K (M 33 (84 : Int32).toNatClampNeg) M) my_Mo_plain mi_Mo_plain ms_Mo_plain ml_Mo_276 (Nat.le_of_ble_eq_true rfl) (Nat.le_of_ble_eq_true rfl) (by decide) (ent_32 K _) rfl rfl rfl (Nat.le_of_ble_eq_true rfl) rfl (Nat.le_of_ble_eq_true rfl) (Nat.le_of_ble_eq_true rfl)) (fun r8 M8 => ?_)
  exact V_iret hX 6 rfl (Nat.le_of_ble_eq_true rfl) (Nat.le_of_ble_eq_true rfl) rfl
set_option maxRecDepth 20000 in
theorem bt_Mo_positiveShare_56 {l : Launch} {K : KT} {X : XT} (hX : Cx l K 3 4 0 0 X prog_15_method_111_code "SeriesArchiveModel" (some .float) [] L_Mo_positiveShare) (k25 : Int32 → Int32 → Mm → Rs UInt32) (k32 : Int32 → Int32 → Mm → Rs UInt32) (v2 : Int32) (v3 : Int32) (hk25 : ∀ (v1 : Int32) (v2 : Int32) M, VV l K 3 4 0 0 rvF X (k25 v1 v2 M) 0 0 M 25 [(0, .ref (kA K 32)), (1, .int v1), (2, .int v2)] []) (hk32 : ∀ (v1 : Int32) (v3 : Int32) M, VV l K 3 4 0 0 rvF X (k32 v1 v3 M) 0 0 M 32 [(0, .ref (kA K 32)), (1, .int v1), (2, .int v2), (3, .int v3)] []) (s0 : Int32) (s1 : Int32) (M : Mm) : VV l K 3 4 0 0 rvF X (fn_Mo_positiveShare_56 k25 k32 v2 v3 s0 s1 M) 0 0 M 56 [(0, .ref (kA K 32)), (2, .int v2), (3, .int v3)] [.int s1, .int s0] := by
  unfold fn_Mo_positiveShare_56
  refine V_iadd hX 34 57 rfl rfl ?_
  refine VV_li (fun x1_57 hx1_57 => ?_)
  refine V_istore_n hX 35 58 [(1, .int x1_57), (0, .ref (kA K 32)), (2, .int v2), (3, .int v3)] rfl rfl (Nat.le_of_ble_eq_true rfl) rfl ?_
  refine V_iincL hX 36 61 3 rfl rfl rfl rfl (Nat.le_of_ble_eq_true rfl) (fun x3_58 hx3_58 => ?_)
  refine VV_lc [(3, .int x3_58), (1, .int x1_57), (0, .ref (kA K 32)), (2, .int v2)] rfl ?_
  refine V_goto hX 37 32 rfl (by decide) ?_
  refine VV_sub [2, 1, 3, 0] rfl ?_
  exact hk32 x1_57 x3_58 M
set_option maxRecDepth 20000 in
theorem bt_Mo_positiveShare_64 {l : Launch} {K : KT} {X : XT} (hX : Cx l K 3 4 0 0 X prog_15_method_111_code "SeriesArchiveModel" (some .float) [] L_Mo_positiveShare) (k25 : Int32 → Int32 → Mm → Rs UInt32) (v1 : Int32) (v2 : Int32) (hk25 : ∀ (v1 : Int32) (v2 : Int32) M, VV l K 3 4 0 0 rvF X (k25 v1 v2 M) 0 0 M 25 [(0, .ref (kA K 32)), (1, .int v1), (2, .int v2)] []) (M : Mm) : VV l K 3 4 0 0 rvF X (fn_Mo_positiveShare_64 k25 v1 v2 M) 0 0 M 64 [(0, .ref (kA K 32)), (1, .int v1), (2, .int v2)] [] := by
  unfold fn_Mo_positiveShare_64
  refine V_iincL hX 38 67 2 rfl rfl rfl rfl (Nat.le_of_ble_eq_true rfl) (fun x2_64 hx2_64 => ?_)
  refine VV_lc [(2, .int x2_64), (0, .ref (kA K 32)), (1, .int v1)] rfl ?_
  refine V_goto hX 39 25 rfl (by decide) ?_
  refine VV_sub [1, 2, 0] rfl ?_
  exact hk25 v1 x2_64 M
set_option maxRecDepth 20000 in
theorem bt_Mo_positiveShare_32 {l : Launch} {K : KT} {X : XT} (hX : Cx l K 3 4 0 0 X prog_15_method_111_code "SeriesArchiveModel" (some .float) [] L_Mo_positiveShare) (k25 : Int32 → Int32 → Mm → Rs UInt32) (v2 : Int32) (hk25 : ∀ (v1 : Int32) (v2 : Int32) M, VV l K 3 4 0 0 rvF X (k25 v1 v2 M) 0 0 M 25 [(0, .ref (kA K 32)), (1, .int v1), (2, .int v2)] []) : ∀ (n : Nat) (v1 : Int32) (v3 : Int32) (M : Mm), VV l K 3 4 0 0 rvF X (fn_Mo_positiveShare_32 k25 v2 n v1 v3 M) 0 0 M 32 [(0, .ref (kA K 32)), (1, .int v1), (2, .int v2), (3, .int v3)] [] := by
  intro n
  induction n with
  | zero => intro v1 v3 M; exact VV_none
  | succ n ih =>
    intro v1 v3 M
    rw [fn_Mo_positiveShare_32]
    refine V_iload_n hX (j := 3) (hj := rfl) 20 33 rfl rfl ?_
    refine V_aload_n hX (j := 0) (hj := rfl) 21 34 rfl rfl ?_
    refine V_iload_n hX (j := 2) (hj := rfl) 22 35 rfl rfl ?_
    refine V_callI hX 38 0 0 rfl rfl rfl (Nat.le_of_ble_eq_true rfl) (Nat.le_of_ble_eq_true rfl) (VR_V hX 23 (ct_Mo_many (cx_t hX) K v2 M) my_Mo_many mi_Mo_many ms_Mo_many ml_Mo_93 (Nat.le_of_ble_eq_true rfl) (Nat.le_of_ble_eq_true rfl) (by decide) (ent_32 K _) rfl rfl rfl (Nat.le_of_ble_eq_true rfl) rfl (Nat.le_of_ble_eq_true rfl) (Nat.le_of_ble_eq_true rfl)) (fun r35 M35 => ?_)
    refine V_icmp_ge hX 24 41 64 rfl rfl (by decide) (fun c38 => ?_) (fun c38 => ?_)
    · refine VV_sub [0, 1, 2] rfl ?_
      exact bt_Mo_positiveShare_64 hX k25 v1 v2 hk25 M35
    · refine V_iload_n hX (j := 1) (hj := rfl) 25 42 rfl rfl ?_
      refine V_aload_n hX (j := 0) (hj := rfl) 26 43 rfl rfl ?_
      refine V_iload_n hX (j := 2) (hj := rfl) 27 44 rfl rfl ?_
      refine V_iload_n hX (j := 3) (hj := rfl) 28 45 rfl rfl ?_
      refine V_callI hX 48 0 0 rfl rfl rfl (Nat.le_of_ble_eq_true rfl) (Nat.le_of_ble_eq_true rfl) (VR_V hX 29 (ct_Mo_at (cx_t hX) K v2 v3 M35) my_Mo_at mi_Mo_at ms_Mo_at ml_Mo_124 (Nat.le_of_ble_eq_true rfl) (Nat.le_of_ble_eq_true rfl) (by decide) (ent_32 K _) rfl rfl rfl (Nat.le_of_ble_eq_true rfl) rfl (Nat.le_of_ble_eq_true rfl) (Nat.le_of_ble_eq_true rfl)) (fun r45 M45 => ?_)
      refine V_if_le hX 30 51 55 rfl rfl (by decide) (fun c48 => ?_) (fun c48 => ?_)
      · refine V_iconst hX (v := 0) (hv := by decide) 33 56 rfl rfl ?_
        refine VV_sub [0, 2, 3] rfl ?_
        exact bt_Mo_positiveShare_56 hX k25 (fn_Mo_positiveShare_32 k25 v2 n) v2 v3 hk25 ih v1 0 M45
      · refine V_iconst hX (v := 1) (hv := by decide) 31 52 rfl rfl ?_
        refine V_goto hX 32 56 rfl (by decide) ?_
        refine VV_sub [0, 2, 3] rfl ?_
        exact bt_Mo_positiveShare_56 hX k25 (fn_Mo_positiveShare_32 k25 v2 n) v2 v3 hk25 ih v1 1 M45
set_option maxRecDepth 20000 in
theorem bt_Mo_positiveShare_70 {l : Launch} {K : KT} {X : XT} (hX : Cx l K 3 4 0 0 X prog_15_method_111_code "SeriesArchiveModel" (some .float) [] L_Mo_positiveShare) (v1 : Int32) (M : Mm) : VV l K 3 4 0 0 rvF X (fn_Mo_positiveShare_70 v1 M) 0 0 M 70 [(0, .ref (kA K 32)), (1, .int v1)] [] := by
  unfold fn_Mo_positiveShare_70
  refine V_iload_n hX (j := 1) (hj := rfl) 40 71 rfl rfl ?_
  refine V_i2f hX 41 72 rfl rfl ?_
  refine V_aload_n hX (j := 0) (hj := rfl) 42 73 rfl rfl ?_
  refine V_callI hX 76 0 0 rfl rfl rfl (Nat.le_of_ble_eq_true rfl) (Nat.le_of_ble_eq_true rfl) (VR_V hX 43 (ct_Mo_all (cx_t hX) K M) my_Mo_all mi_Mo_all ms_Mo_all ml_Mo_272 (Nat.le_of_ble_eq_true rfl) (Nat.le_of_ble_eq_true rfl) (by decide) (ent_32 K _) rfl rfl rfl (Nat.le_of_ble_eq_true rfl) rfl (Nat.le_of_ble_eq_true rfl) (Nat.le_of_ble_eq_true rfl)) (fun r73 M73 => ?_)
  refine V_i2f hX 44 77 rfl rfl ?_
  refine VV_grd (fun hz1 => ?_)
  refine V_fdiv hX (hne := hz1) 45 78 rfl rfl ?_
  exact V_fret hX 46 rfl (Nat.le_of_ble_eq_true rfl) (Nat.le_of_ble_eq_true rfl) rfl
set_option maxRecDepth 20000 in
theorem bt_Mo_positiveShare_25 {l : Launch} {K : KT} {X : XT} (hX : Cx l K 3 4 0 0 X prog_15_method_111_code "SeriesArchiveModel" (some .float) [] L_Mo_positiveShare) : ∀ (n : Nat) (v1 : Int32) (v2 : Int32) (M : Mm), VV l K 3 4 0 0 rvF X (fn_Mo_positiveShare_25 n v1 v2 M) 0 0 M 25 [(0, .ref (kA K 32)), (1, .int v1), (2, .int v2)] [] := by
  intro n
  induction n with
  | zero => intro v1 v2 M; exact VV_none
  | succ n ih =>
    intro v1 v2 M
    rw [fn_Mo_positiveShare_25]
    refine V_iload_n hX (j := 2) (hj := rfl) 15 26 rfl rfl ?_
    refine V_iconst hX (v := 4) (hv := by decide) 16 27 rfl rfl ?_
    refine V_icmp_ge hX 17 30 70 rfl rfl (by decide) (fun c27 => ?_) (fun c27 => ?_)
    · refine VV_sub [0, 1] rfl ?_
      exact bt_Mo_positiveShare_70 hX v1 M
    · refine V_iconst hX (v := 0) (hv := by decide) 18 31 rfl rfl ?_
      refine V_istore_n hX 19 32 [(3, .int 0), (0, .ref (kA K 32)), (1, .int v1), (2, .int v2)] rfl rfl (Nat.le_of_ble_eq_true rfl) rfl ?_
      refine VV_sub [1, 2, 3, 0] rfl ?_
      exact bt_Mo_positiveShare_32 hX (fn_Mo_positiveShare_25 n) v2 ih fuel0 v1 0 M
set_option maxRecDepth 20000 in
theorem bt_Mo_positiveShare_13 {l : Launch} {K : KT} {X : XT} (hX : Cx l K 3 4 0 0 X prog_15_method_111_code "SeriesArchiveModel" (some .float) [] L_Mo_positiveShare) (s1 : Int32) (M : Mm) : VV l K 3 4 0 0 rvF X (fn_Mo_positiveShare_13 s1 M) 0 0 M 13 [(0, .ref (kA K 32))] [.int s1, .ref (kA K 32)] := by
  unfold fn_Mo_positiveShare_13
  refine V_callI hX 16 0 0 rfl rfl rfl (Nat.le_of_ble_eq_true rfl) (Nat.le_of_ble_eq_true rfl) (VR_V hX 7 (ct_Mo_checked (cx_t hX) K s1 M) my_Mo_checked mi_Mo_checked ms_Mo_checked ml_Mo_189 (Nat.le_of_ble_eq_true rfl) (Nat.le_of_ble_eq_true rfl) (by decide) (ent_32 K _) rfl rfl rfl (Nat.le_of_ble_eq_true rfl) rfl (Nat.le_of_ble_eq_true rfl) (Nat.le_of_ble_eq_true rfl)) (fun r13 M13 => ?_)
  refine V_if_le hX 8 19 21 rfl rfl (by decide) (fun c16 => ?_) (fun c16 => ?_)
  · refine V_iconst hX (v := 0) (hv := by decide) 11 22 rfl rfl ?_
    refine V_istore_n hX 12 23 [(1, .int 0), (0, .ref (kA K 32))] rfl rfl (Nat.le_of_ble_eq_true rfl) rfl ?_
    refine V_iconst hX (v := 0) (hv := by decide) 13 24 rfl rfl ?_
    refine V_istore_n hX 14 25 [(2, .int 0), (1, .int 0), (0, .ref (kA K 32))] rfl rfl (Nat.le_of_ble_eq_true rfl) rfl ?_
    refine VV_sub [2, 1, 0] rfl ?_
    exact bt_Mo_positiveShare_25 hX fuel0 0 0 M13
  · refine V_fconst0 hX 9 20 rfl rfl ?_
    exact V_fret hX 10 rfl (Nat.le_of_ble_eq_true rfl) (Nat.le_of_ble_eq_true rfl) rfl
set_option maxRecDepth 20000 in
theorem ct_Mo_positiveShare {l : Launch} (hl : l.stackTraces = false) (K : KT) (M : Mm) : CTp l K y_Mo_positiveShare (Cond.code y_Mo_positiveShare prog_15_method_111_code 4 (some .float)) rvF 3 0 0 [.ref (kA K 32)] M (fn_Mo_positiveShare M) := by
  refine CTp_of (L := L_Mo_positiveShare) (lc := [(0, .ref (kA K 32))]) (by decide +kernel) dec_Mo_positiveShare hl rfl (Nat.le_of_ble_eq_true rfl) (fun X hX => ?_)
  unfold fn_Mo_positiveShare
  refine V_aload_n hX (j := 0) (hj := rfl) 0 1 rfl rfl ?_
  refine V_aload_n hX (j := 0) (hj := rfl) 1 2 rfl rfl ?_
  refine V_callI hX 5 0 0 rfl rfl rfl (Nat.le_of_ble_eq_true rfl) (Nat.le_of_ble_eq_true rfl) (VR_V hX 2 (ct_Mo_all (cx_t hX) K M) my_Mo_all mi_Mo_all ms_Mo_all ml_Mo_272 (Nat.le_of_ble_eq_true rfl) (Nat.le_of_ble_eq_true rfl) (by decide) (ent_32 K _) rfl rfl rfl (Nat.le_of_ble_eq_true rfl) rfl (Nat.le_of_ble_eq_true rfl) (Nat.le_of_ble_eq_true rfl)) (fun r2 M2 => ?_)
  refine V_if_le hX 3 8 12 rfl rfl (by decide) (fun c5 => ?_) (fun c5 => ?_)
  · refine V_iconst hX (v := 0) (hv := by decide) 6 13 rfl rfl ?_
    exact bt_Mo_positiveShare_13 hX 0 M2
  · refine V_iconst hX (v := 1) (hv := by decide) 4 9 rfl rfl ?_
    refine V_goto hX 5 13 rfl (by decide) ?_
    exact bt_Mo_positiveShare_13 hX 1 M2
set_option maxRecDepth 20000 in
theorem ct_Mo_isConsistent {l : Launch} (hl : l.stackTraces = false) (K : KT) (M : Mm) : CTp l K y_Mo_isConsistent (Cond.code y_Mo_isConsistent prog_15_method_112_code 1 (some .boolean)) rvI 2 0 0 [.ref (kA K 32)] M (fn_Mo_isConsistent M) := by
  refine CTp_of (L := L_Mo_isConsistent) (lc := [(0, .ref (kA K 32))]) (by decide +kernel) dec_Mo_isConsistent hl rfl (Nat.le_of_ble_eq_true rfl) (fun X hX => ?_)
  unfold fn_Mo_isConsistent
  refine V_aload_n hX (j := 0) (hj := rfl) 0 1 rfl rfl ?_
  refine V_iconst hX (v := 1) (hv := by decide) 1 2 rfl rfl ?_
  refine V_callI hX 5 0 0 rfl rfl rfl (Nat.le_of_ble_eq_true rfl) (Nat.le_of_ble_eq_true rfl) (VR_V hX 2 (ct_Mo_plain (cx_t hX) K 1 M) my_Mo_plain mi_Mo_plain ms_Mo_plain ml_Mo_276 (Nat.le_of_ble_eq_true rfl) (Nat.le_of_ble_eq_true rfl) (by decide) (ent_32 K _) rfl rfl rfl (Nat.le_of_ble_eq_true rfl) rfl (Nat.le_of_ble_eq_true rfl) (Nat.le_of_ble_eq_true rfl)) (fun r2 M2 => ?_)
  refine V_iconst hX (v := 1) (hv := by decide) 3 6 rfl rfl ?_
  refine V_icmp_ne hX 4 9 13 rfl rfl (by decide) (fun c6 => ?_) (fun c6 => ?_)
  · refine V_iconst hX (v := 0) (hv := by decide) 7 14 rfl rfl ?_
    exact V_zret hX 8 rfl rfl (Nat.le_of_ble_eq_true rfl) (Nat.le_of_ble_eq_true rfl) rfl
  · refine V_iconst hX (v := 1) (hv := by decide) 5 10 rfl rfl ?_
    refine V_goto hX 6 14 rfl (by decide) ?_
    exact V_zret hX 8 rfl rfl (Nat.le_of_ble_eq_true rfl) (Nat.le_of_ble_eq_true rfl) rfl
set_option maxRecDepth 20000 in
theorem ct_Mo_write {l : Launch} (hl : l.stackTraces = false) (K : KT) (v1 : Int32) (M : Mm) : CTp l K y_Mo_write (Cond.code y_Mo_write prog_15_method_113_code 2 none) rvU 1 0 0 [.ref (kA K 32), .int v1] M (fn_Mo_write v1 M) := by
  refine CTp_of (L := L_Mo_write) (lc := [(0, .ref (kA K 32)), (1, .int v1)]) (by decide +kernel) dec_Mo_write hl rfl (Nat.le_of_ble_eq_true rfl) (fun X hX => ?_)
  unfold fn_Mo_write
  refine V_aload_n hX (j := 0) (hj := rfl) 0 1 rfl rfl ?_
  refine V_get hX 1 4 32 (.ref (kA K 39)) fl_Mo_45 rfl rfl (by decide) (ent_32 K _) rfl ?_
  refine V_aload_n hX (j := 0) (hj := rfl) 2 5 rfl rfl ?_
  refine V_get hX 3 8 32 (.int (M 32 12)) fl_Mo_48 rfl rfl (by decide) (ent_32 K _) rfl ?_
  refine V_iload_n hX (j := 1) (hj := rfl) 4 9 rfl rfl ?_
  refine V_iast hX 5 10 39 140 (by decide) rfl rfl rfl (fun g9 M9 hM9 => ?_)
  refine V_aload_n hX (j := 0) (hj := rfl) 6 11 rfl rfl ?_
  refine V_dup hX (hc := rfl) 7 12 rfl rfl ?_
  refine V_get hX 8 15 32 (.int (M9 32 12)) fl_Mo_48 rfl rfl (by decide) (ent_32 K _) rfl ?_
  refine V_iconst hX (v := 1) (hv := by decide) 9 16 rfl rfl ?_
  refine V_iadd hX 10 17 rfl rfl ?_
  refine V_putI hX 11 20 32 fp_Mo_48 (by decide) rfl rfl (by decide) (ent_32 K _) (Nat.le_of_ble_eq_true rfl) (ent_32 K _) (fun M17 hM17 => ?_)
  exact V_vret hX 12 rfl (Nat.le_of_ble_eq_true rfl) (Nat.le_of_ble_eq_true rfl) rfl
set_option maxRecDepth 20000 in
theorem bt_Mo_writeNumber_33 {l : Launch} {K : KT} {X : XT} (hX : Cx l K 2 2 0 0 X prog_15_method_114_code "SeriesArchiveModel" none [] L_Mo_writeNumber) (v1 : Int32) (M : Mm) : VV l K 2 2 0 0 rvU X (fn_Mo_writeNumber_33 v1 M) 0 0 M 33 [(0, .ref (kA K 32)), (1, .int v1)] [] := by
  unfold fn_Mo_writeNumber_33
  refine V_aload_n hX (j := 0) (hj := rfl) 17 34 rfl rfl ?_
  refine V_bipush hX (v := 48) (hv := by decide) 18 36 rfl rfl ?_
  refine V_iload_n hX (j := 1) (hj := rfl) 19 37 rfl rfl ?_
  refine V_callI hX 40 0 0 rfl rfl rfl (Nat.le_of_ble_eq_true rfl) (Nat.le_of_ble_eq_true rfl) (VR_S hX 20 (ct_Mo_size (cx_t hX) K v1 M) my_Mo_size mt_Mo_size ml_Mo_263 (Nat.le_of_ble_eq_true rfl) (Nat.le_of_ble_eq_true rfl) rfl rfl (Nat.le_of_ble_eq_true rfl) rfl (Nat.le_of_ble_eq_true rfl) (Nat.le_of_ble_eq_true rfl)) (fun r37 M37 => ?_)
  refine V_bipush hX (v := 10) (hv := by decide) 21 42 rfl rfl ?_
  refine V_irem hX (hne := by decide) 22 43 rfl rfl ?_
  refine V_iadd hX 23 44 rfl rfl ?_
  refine V_callU hX 47 0 0 rfl rfl rfl (Nat.le_of_ble_eq_true rfl) (Nat.le_of_ble_eq_true rfl) (VR_V hX 24 (ct_Mo_write (cx_t hX) K (48 + (r37 - r37 / 10 * 10)) M37) my_Mo_write mi_Mo_write ms_Mo_write ml_Mo_279 (Nat.le_of_ble_eq_true rfl) (Nat.le_of_ble_eq_true rfl) (by decide) (ent_32 K _) rfl rfl rfl (Nat.le_of_ble_eq_true rfl) rfl (Nat.le_of_ble_eq_true rfl) (Nat.le_of_ble_eq_true rfl)) (fun r44 M44 => ?_)
  exact V_vret hX 25 rfl (Nat.le_of_ble_eq_true rfl) (Nat.le_of_ble_eq_true rfl) rfl
set_option maxRecDepth 20000 in
theorem bt_Mo_writeNumber_10 {l : Launch} {K : KT} {X : XT} (hX : Cx l K 2 2 0 0 X prog_15_method_114_code "SeriesArchiveModel" none [] L_Mo_writeNumber) (v1 : Int32) (M : Mm) : VV l K 2 2 0 0 rvU X (fn_Mo_writeNumber_10 v1 M) 0 0 M 10 [(0, .ref (kA K 32)), (1, .int v1)] [] := by
  unfold fn_Mo_writeNumber_10
  refine V_iload_n hX (j := 1) (hj := rfl) 5 11 rfl rfl ?_
  refine V_callI hX 14 0 0 rfl rfl rfl (Nat.le_of_ble_eq_true rfl) (Nat.le_of_ble_eq_true rfl) (VR_S hX 6 (ct_Mo_size (cx_t hX) K v1 M) my_Mo_size mt_Mo_size ml_Mo_263 (Nat.le_of_ble_eq_true rfl) (Nat.le_of_ble_eq_true rfl) rfl rfl (Nat.le_of_ble_eq_true rfl) rfl (Nat.le_of_ble_eq_true rfl) (Nat.le_of_ble_eq_true rfl)) (fun r11 M11 => ?_)
  refine V_bipush hX (v := 9) (hv := by decide) 7 16 rfl rfl ?_
  refine V_icmp_le hX 8 19 33 rfl rfl (by decide) (fun c16 => ?_) (fun c16 => ?_)
  · exact bt_Mo_writeNumber_33 hX v1 M11
  · refine V_aload_n hX (j := 0) (hj := rfl) 9 20 rfl rfl ?_
    refine V_bipush hX (v := 48) (hv := by decide) 10 22 rfl rfl ?_
    refine V_iload_n hX (j := 1) (hj := rfl) 11 23 rfl rfl ?_
    refine V_callI hX 26 0 0 rfl rfl rfl (Nat.le_of_ble_eq_true rfl) (Nat.le_of_ble_eq_true rfl) (VR_S hX 12 (ct_Mo_size (cx_t hX) K v1 M11) my_Mo_size mt_Mo_size ml_Mo_263 (Nat.le_of_ble_eq_true rfl) (Nat.le_of_ble_eq_true rfl) rfl rfl (Nat.le_of_ble_eq_true rfl) rfl (Nat.le_of_ble_eq_true rfl) (Nat.le_of_ble_eq_true rfl)) (fun r23 M23 => ?_)
    refine V_bipush hX (v := 10) (hv := by decide) 13 28 rfl rfl ?_
    refine V_idiv hX (hne := by decide) 14 29 rfl rfl ?_
    refine V_iadd hX 15 30 rfl rfl ?_
    refine V_callU hX 33 0 0 rfl rfl rfl (Nat.le_of_ble_eq_true rfl) (Nat.le_of_ble_eq_true rfl) (VR_V hX 16 (ct_Mo_write (cx_t hX) K (48 + (r23 / 10)) M23) my_Mo_write mi_Mo_write ms_Mo_write ml_Mo_279 (Nat.le_of_ble_eq_true rfl) (Nat.le_of_ble_eq_true rfl) (by decide) (ent_32 K _) rfl rfl rfl (Nat.le_of_ble_eq_true rfl) rfl (Nat.le_of_ble_eq_true rfl) (Nat.le_of_ble_eq_true rfl)) (fun r30 M30 => ?_)
    exact bt_Mo_writeNumber_33 hX v1 M30
set_option maxRecDepth 20000 in
theorem ct_Mo_writeNumber {l : Launch} (hl : l.stackTraces = false) (K : KT) (v1 : Int32) (M : Mm) : CTp l K y_Mo_writeNumber (Cond.code y_Mo_writeNumber prog_15_method_114_code 2 none) rvU 2 0 0 [.ref (kA K 32), .int v1] M (fn_Mo_writeNumber v1 M) := by
  refine CTp_of (L := L_Mo_writeNumber) (lc := [(0, .ref (kA K 32)), (1, .int v1)]) (by decide +kernel) dec_Mo_writeNumber hl rfl (Nat.le_of_ble_eq_true rfl) (fun X hX => ?_)
  unfold fn_Mo_writeNumber
  refine V_iload_n hX (j := 1) (hj := rfl) 0 1 rfl rfl ?_
  refine V_if_ge hX 1 4 10 rfl rfl (by decide) (fun c1 => ?_) (fun c1 => ?_)
  · exact bt_Mo_writeNumber_10 hX v1 M
  · refine V_aload_n hX (j := 0) (hj := rfl) 2 5 rfl rfl ?_
    refine V_bipush hX (v := 45) (hv := by decide) 3 7 rfl rfl ?_
    refine V_callU hX 10 0 0 rfl rfl rfl (Nat.le_of_ble_eq_true rfl) (Nat.le_of_ble_eq_true rfl) (VR_V hX 4 (ct_Mo_write (cx_t hX) K 45 M) my_Mo_write mi_Mo_write ms_Mo_write ml_Mo_279 (Nat.le_of_ble_eq_true rfl) (Nat.le_of_ble_eq_true rfl) (by decide) (ent_32 K _) rfl rfl rfl (Nat.le_of_ble_eq_true rfl) rfl (Nat.le_of_ble_eq_true rfl) (Nat.le_of_ble_eq_true rfl)) (fun r7 M7 => ?_)
    exact bt_Mo_writeNumber_10 hX v1 M7
set_option maxRecDepth 20000 in
theorem bt_Mo_formatSeries_39 {l : Launch} {K : KT} {X : XT} (hX : Cx l K 3 3 0 0 X prog_15_method_115_code "SeriesArchiveModel" (some .int) [] L_Mo_formatSeries) (k20 : Int32 → Mm → Rs Int32) (v1 : Int32) (v2 : Int32) (hk20 : ∀ (v2 : Int32) M, VV l K 3 3 0 0 rvI X (k20 v2 M) 0 0 M 20 [(0, .ref (kA K 32)), (1, .int v1), (2, .int v2)] []) (M : Mm) : VV l K 3 3 0 0 rvI X (fn_Mo_formatSeries_39 k20 v1 v2 M) 0 0 M 39 [(0, .ref (kA K 32)), (1, .int v1), (2, .int v2)] [] := by
  unfold fn_Mo_formatSeries_39
  refine V_aload_n hX (j := 0) (hj := rfl) 22 40 rfl rfl ?_
  refine V_aload_n hX (j := 0) (hj := rfl) 23 41 rfl rfl ?_
  refine V_iload_n hX (j := 1) (hj := rfl) 24 42 rfl rfl ?_
  refine V_iload_n hX (j := 2) (hj := rfl) 25 43 rfl rfl ?_
  refine V_callI hX 46 0 0 rfl rfl rfl (Nat.le_of_ble_eq_true rfl) (Nat.le_of_ble_eq_true rfl) (VR_V hX 26 (ct_Mo_at (cx_t hX) K v1 v2 M) my_Mo_at mi_Mo_at ms_Mo_at ml_Mo_124 (Nat.le_of_ble_eq_true rfl) (Nat.le_of_ble_eq_true rfl) (by decide) (ent_32 K _) rfl rfl rfl (Nat.le_of_ble_eq_true rfl) rfl (Nat.le_of_ble_eq_true rfl) (Nat.le_of_ble_eq_true rfl)) (fun r43 M43 => ?_)
  refine V_callU hX 49 0 0 rfl rfl rfl (Nat.le_of_ble_eq_true rfl) (Nat.le_of_ble_eq_true rfl) (VR_V hX 27 (ct_Mo_writeNumber (cx_t hX) K r43 M43) my_Mo_writeNumber mi_Mo_writeNumber ms_Mo_writeNumber ml_Mo_282 (Nat.le_of_ble_eq_true rfl) (Nat.le_of_ble_eq_true rfl) (by decide) (ent_32 K _) rfl rfl rfl (Nat.le_of_ble_eq_true rfl) rfl (Nat.le_of_ble_eq_true rfl) (Nat.le_of_ble_eq_true rfl)) (fun r46 M46 => ?_)
  refine V_iincL hX 28 52 2 rfl rfl rfl rfl (Nat.le_of_ble_eq_true rfl) (fun x2_49 hx2_49 => ?_)
  refine VV_lc [(2, .int x2_49), (0, .ref (kA K 32)), (1, .int v1)] rfl ?_
  refine V_goto hX 29 20 rfl (by decide) ?_
  refine VV_sub [1, 2, 0] rfl ?_
  exact hk20 x2_49 M46
set_option maxRecDepth 20000 in
theorem bt_Mo_formatSeries_55 {l : Launch} {K : KT} {X : XT} (hX : Cx l K 3 3 0 0 X prog_15_method_115_code "SeriesArchiveModel" (some .int) [] L_Mo_formatSeries) (M : Mm) : VV l K 3 3 0 0 rvI X (fn_Mo_formatSeries_55 M) 0 0 M 55 [(0, .ref (kA K 32))] [] := by
  unfold fn_Mo_formatSeries_55
  refine V_aload_n hX (j := 0) (hj := rfl) 30 56 rfl rfl ?_
  refine V_get hX 31 59 32 (.int (M 32 12)) fl_Mo_48 rfl rfl (by decide) (ent_32 K _) rfl ?_
  exact V_iret hX 32 rfl (Nat.le_of_ble_eq_true rfl) (Nat.le_of_ble_eq_true rfl) rfl
set_option maxRecDepth 20000 in
theorem bt_Mo_formatSeries_20 {l : Launch} {K : KT} {X : XT} (hX : Cx l K 3 3 0 0 X prog_15_method_115_code "SeriesArchiveModel" (some .int) [] L_Mo_formatSeries) (v1 : Int32) : ∀ (n : Nat) (v2 : Int32) (M : Mm), VV l K 3 3 0 0 rvI X (fn_Mo_formatSeries_20 v1 n v2 M) 0 0 M 20 [(0, .ref (kA K 32)), (1, .int v1), (2, .int v2)] [] := by
  intro n
  induction n with
  | zero => intro v2 M; exact VV_none
  | succ n ih =>
    intro v2 M
    rw [fn_Mo_formatSeries_20]
    refine V_iload_n hX (j := 2) (hj := rfl) 12 21 rfl rfl ?_
    refine V_aload_n hX (j := 0) (hj := rfl) 13 22 rfl rfl ?_
    refine V_iload_n hX (j := 1) (hj := rfl) 14 23 rfl rfl ?_
    refine V_callI hX 26 0 0 rfl rfl rfl (Nat.le_of_ble_eq_true rfl) (Nat.le_of_ble_eq_true rfl) (VR_V hX 15 (ct_Mo_many (cx_t hX) K v1 M) my_Mo_many mi_Mo_many ms_Mo_many ml_Mo_93 (Nat.le_of_ble_eq_true rfl) (Nat.le_of_ble_eq_true rfl) (by decide) (ent_32 K _) rfl rfl rfl (Nat.le_of_ble_eq_true rfl) rfl (Nat.le_of_ble_eq_true rfl) (Nat.le_of_ble_eq_true rfl)) (fun r23 M23 => ?_)
    refine V_icmp_ge hX 16 29 55 rfl rfl (by decide) (fun c26 => ?_) (fun c26 => ?_)
    · refine VV_sub [0] rfl ?_
      exact bt_Mo_formatSeries_55 hX M23
    · refine V_iload_n hX (j := 2) (hj := rfl) 17 30 rfl rfl ?_
      refine V_if_le hX 18 33 39 rfl rfl (by decide) (fun c30 => ?_) (fun c30 => ?_)
      · exact bt_Mo_formatSeries_39 hX (fn_Mo_formatSeries_20 v1 n) v1 v2 ih M23
      · refine V_aload_n hX (j := 0) (hj := rfl) 19 34 rfl rfl ?_
        refine V_bipush hX (v := 32) (hv := by decide) 20 36 rfl rfl ?_
        refine V_callU hX 39 0 0 rfl rfl rfl (Nat.le_of_ble_eq_true rfl) (Nat.le_of_ble_eq_true rfl) (VR_V hX 21 (ct_Mo_write (cx_t hX) K 32 M23) my_Mo_write mi_Mo_write ms_Mo_write ml_Mo_279 (Nat.le_of_ble_eq_true rfl) (Nat.le_of_ble_eq_true rfl) (by decide) (ent_32 K _) rfl rfl rfl (Nat.le_of_ble_eq_true rfl) rfl (Nat.le_of_ble_eq_true rfl) (Nat.le_of_ble_eq_true rfl)) (fun r36 M36 => ?_)
        exact bt_Mo_formatSeries_39 hX (fn_Mo_formatSeries_20 v1 n) v1 v2 ih M36
set_option maxRecDepth 20000 in
theorem ct_Mo_formatSeries {l : Launch} (hl : l.stackTraces = false) (K : KT) (v1 : Int32) (M : Mm) : CTp l K y_Mo_formatSeries (Cond.code y_Mo_formatSeries prog_15_method_115_code 3 (some .int)) rvI 3 0 0 [.ref (kA K 32), .int v1] M (fn_Mo_formatSeries v1 M) := by
  refine CTp_of (L := L_Mo_formatSeries) (lc := [(0, .ref (kA K 32)), (1, .int v1)]) (by decide +kernel) dec_Mo_formatSeries hl rfl (Nat.le_of_ble_eq_true rfl) (fun X hX => ?_)
  unfold fn_Mo_formatSeries
  refine V_aload_n hX (j := 0) (hj := rfl) 0 1 rfl rfl ?_
  refine V_iload_n hX (j := 1) (hj := rfl) 1 2 rfl rfl ?_
  refine V_callI hX 5 0 0 rfl rfl rfl (Nat.le_of_ble_eq_true rfl) (Nat.le_of_ble_eq_true rfl) (VR_S hX 2 (ct_Mo_isSlot (cx_t hX) K v1 M) my_Mo_isSlot mt_Mo_isSlot ml_Mo_89 (Nat.le_of_ble_eq_true rfl) (Nat.le_of_ble_eq_true rfl) rfl rfl (Nat.le_of_ble_eq_true rfl) rfl (Nat.le_of_ble_eq_true rfl) (Nat.le_of_ble_eq_true rfl)) (fun r2 M2 => ?_)
  refine V_callI hX 8 0 0 rfl rfl rfl (Nat.le_of_ble_eq_true rfl) (Nat.le_of_ble_eq_true rfl) (VR_V hX 3 (ct_Mo_checked (cx_t hX) K r2 M2) my_Mo_checked mi_Mo_checked ms_Mo_checked ml_Mo_189 (Nat.le_of_ble_eq_true rfl) (Nat.le_of_ble_eq_true rfl) (by decide) (ent_32 K _) rfl rfl rfl (Nat.le_of_ble_eq_true rfl) rfl (Nat.le_of_ble_eq_true rfl) (Nat.le_of_ble_eq_true rfl)) (fun r5 M5 => ?_)
  refine V_if_le hX 4 11 13 rfl rfl (by decide) (fun c8 => ?_) (fun c8 => ?_)
  · refine V_aload_n hX (j := 0) (hj := rfl) 7 14 rfl rfl ?_
    refine V_iconst hX (v := 0) (hv := by decide) 8 15 rfl rfl ?_
    refine V_putI hX 9 18 32 fp_Mo_48 (by decide) rfl rfl (by decide) (ent_32 K _) (Nat.le_of_ble_eq_true rfl) (ent_32 K _) (fun M15 hM15 => ?_)
    refine V_iconst hX (v := 0) (hv := by decide) 10 19 rfl rfl ?_
    refine V_istore_n hX 11 20 [(2, .int 0), (0, .ref (kA K 32)), (1, .int v1)] rfl rfl (Nat.le_of_ble_eq_true rfl) rfl ?_
    refine VV_sub [1, 2, 0] rfl ?_
    exact bt_Mo_formatSeries_20 hX v1 fuel0 0 M15
  · refine V_iconst hX (v := 0) (hv := by decide) 5 12 rfl rfl ?_
    exact V_iret hX 6 rfl (Nat.le_of_ble_eq_true rfl) (Nat.le_of_ble_eq_true rfl) rfl
set_option maxRecDepth 20000 in
theorem bt_Mo_formatRuns_71 {l : Launch} {K : KT} {X : XT} (hX : Cx l K 3 4 0 0 X prog_15_method_116_code "SeriesArchiveModel" (some .int) [] L_Mo_formatRuns) (k20 : Int32 → Mm → Rs Int32) (v1 : Int32) (v2 : Int32) (v3 : Int32) (hk20 : ∀ (v2 : Int32) M, VV l K 3 4 0 0 rvI X (k20 v2 M) 0 0 M 20 [(0, .ref (kA K 32)), (1, .int v1), (2, .int v2)] []) (M : Mm) : VV l K 3 4 0 0 rvI X (fn_Mo_formatRuns_71 k20 v1 v2 v3 M) 0 0 M 71 [(0, .ref (kA K 32)), (1, .int v1), (2, .int v2), (3, .int v3)] [] := by
  unfold fn_Mo_formatRuns_71
  refine V_aload_n hX (j := 0) (hj := rfl) 40 72 rfl rfl ?_
  refine V_aload_n hX (j := 0) (hj := rfl) 41 73 rfl rfl ?_
  refine V_iload_n hX (j := 1) (hj := rfl) 42 74 rfl rfl ?_
  refine V_iload_n hX (j := 2) (hj := rfl) 43 75 rfl rfl ?_
  refine V_callI hX 78 0 0 rfl rfl rfl (Nat.le_of_ble_eq_true rfl) (Nat.le_of_ble_eq_true rfl) (VR_V hX 44 (ct_Mo_at (cx_t hX) K v1 v2 M) my_Mo_at mi_Mo_at ms_Mo_at ml_Mo_124 (Nat.le_of_ble_eq_true rfl) (Nat.le_of_ble_eq_true rfl) (by decide) (ent_32 K _) rfl rfl rfl (Nat.le_of_ble_eq_true rfl) rfl (Nat.le_of_ble_eq_true rfl) (Nat.le_of_ble_eq_true rfl)) (fun r75 M75 => ?_)
  refine V_callU hX 81 0 0 rfl rfl rfl (Nat.le_of_ble_eq_true rfl) (Nat.le_of_ble_eq_true rfl) (VR_V hX 45 (ct_Mo_writeNumber (cx_t hX) K r75 M75) my_Mo_writeNumber mi_Mo_writeNumber ms_Mo_writeNumber ml_Mo_282 (Nat.le_of_ble_eq_true rfl) (Nat.le_of_ble_eq_true rfl) (by decide) (ent_32 K _) rfl rfl rfl (Nat.le_of_ble_eq_true rfl) rfl (Nat.le_of_ble_eq_true rfl) (Nat.le_of_ble_eq_true rfl)) (fun r78 M78 => ?_)
  refine V_aload_n hX (j := 0) (hj := rfl) 46 82 rfl rfl ?_
  refine V_bipush hX (v := 120) (hv := by decide) 47 84 rfl rfl ?_
  refine V_callU hX 87 0 0 rfl rfl rfl (Nat.le_of_ble_eq_true rfl) (Nat.le_of_ble_eq_true rfl) (VR_V hX 48 (ct_Mo_write (cx_t hX) K 120 M78) my_Mo_write mi_Mo_write ms_Mo_write ml_Mo_279 (Nat.le_of_ble_eq_true rfl) (Nat.le_of_ble_eq_true rfl) (by decide) (ent_32 K _) rfl rfl rfl (Nat.le_of_ble_eq_true rfl) rfl (Nat.le_of_ble_eq_true rfl) (Nat.le_of_ble_eq_true rfl)) (fun r84 M84 => ?_)
  refine V_aload_n hX (j := 0) (hj := rfl) 49 88 rfl rfl ?_
  refine V_iload_n hX (j := 3) (hj := rfl) 50 89 rfl rfl ?_
  refine V_iload_n hX (j := 2) (hj := rfl) 51 90 rfl rfl ?_
  refine V_isub hX 52 91 rfl rfl ?_
  refine V_callU hX 94 0 0 rfl rfl rfl (Nat.le_of_ble_eq_true rfl) (Nat.le_of_ble_eq_true rfl) (VR_V hX 53 (ct_Mo_writeNumber (cx_t hX) K (v3 - v2) M84) my_Mo_writeNumber mi_Mo_writeNumber ms_Mo_writeNumber ml_Mo_282 (Nat.le_of_ble_eq_true rfl) (Nat.le_of_ble_eq_true rfl) (by decide) (ent_32 K _) rfl rfl rfl (Nat.le_of_ble_eq_true rfl) rfl (Nat.le_of_ble_eq_true rfl) (Nat.le_of_ble_eq_true rfl)) (fun r91 M91 => ?_)
  refine V_iload_n hX (j := 3) (hj := rfl) 54 95 rfl rfl ?_
  refine V_istore_n hX 55 96 [(2, .int v3), (0, .ref (kA K 32)), (1, .int v1), (3, .int v3)] rfl rfl (Nat.le_of_ble_eq_true rfl) rfl ?_
  refine V_goto hX 56 20 rfl (by decide) ?_
  refine VV_sub [1, 2, 0] rfl ?_
  exact hk20 v3 M91
set_option maxRecDepth 20000 in
theorem bt_Mo_formatRuns_61 {l : Launch} {K : KT} {X : XT} (hX : Cx l K 3 4 0 0 X prog_15_method_116_code "SeriesArchiveModel" (some .int) [] L_Mo_formatRuns) (k20 : Int32 → Mm → Rs Int32) (v1 : Int32) (v2 : Int32) (v3 : Int32) (hk20 : ∀ (v2 : Int32) M, VV l K 3 4 0 0 rvI X (k20 v2 M) 0 0 M 20 [(0, .ref (kA K 32)), (1, .int v1), (2, .int v2)] []) (M : Mm) : VV l K 3 4 0 0 rvI X (fn_Mo_formatRuns_61 k20 v1 v2 v3 M) 0 0 M 61 [(0, .ref (kA K 32)), (1, .int v1), (2, .int v2), (3, .int v3)] [] := by
  unfold fn_Mo_formatRuns_61
  refine V_iload_n hX (j := 2) (hj := rfl) 35 62 rfl rfl ?_
  refine V_if_le hX 36 65 71 rfl rfl (by decide) (fun c62 => ?_) (fun c62 => ?_)
  · exact bt_Mo_formatRuns_71 hX k20 v1 v2 v3 hk20 M
  · refine V_aload_n hX (j := 0) (hj := rfl) 37 66 rfl rfl ?_
    refine V_bipush hX (v := 32) (hv := by decide) 38 68 rfl rfl ?_
    refine V_callU hX 71 0 0 rfl rfl rfl (Nat.le_of_ble_eq_true rfl) (Nat.le_of_ble_eq_true rfl) (VR_V hX 39 (ct_Mo_write (cx_t hX) K 32 M) my_Mo_write mi_Mo_write ms_Mo_write ml_Mo_279 (Nat.le_of_ble_eq_true rfl) (Nat.le_of_ble_eq_true rfl) (by decide) (ent_32 K _) rfl rfl rfl (Nat.le_of_ble_eq_true rfl) rfl (Nat.le_of_ble_eq_true rfl) (Nat.le_of_ble_eq_true rfl)) (fun r68 M68 => ?_)
    exact bt_Mo_formatRuns_71 hX k20 v1 v2 v3 hk20 M68
set_option maxRecDepth 20000 in
theorem bt_Mo_formatRuns_31 {l : Launch} {K : KT} {X : XT} (hX : Cx l K 3 4 0 0 X prog_15_method_116_code "SeriesArchiveModel" (some .int) [] L_Mo_formatRuns) (k20 : Int32 → Mm → Rs Int32) (v1 : Int32) (v2 : Int32) (hk20 : ∀ (v2 : Int32) M, VV l K 3 4 0 0 rvI X (k20 v2 M) 0 0 M 20 [(0, .ref (kA K 32)), (1, .int v1), (2, .int v2)] []) : ∀ (n : Nat) (v3 : Int32) (M : Mm), VV l K 3 4 0 0 rvI X (fn_Mo_formatRuns_31 k20 v1 v2 n v3 M) 0 0 M 31 [(0, .ref (kA K 32)), (1, .int v1), (2, .int v2), (3, .int v3)] [] := by
  intro n
  induction n with
  | zero => intro v3 M; exact VV_none
  | succ n ih =>
    intro v3 M
    rw [fn_Mo_formatRuns_31]
    refine V_iload_n hX (j := 3) (hj := rfl) 19 32 rfl rfl ?_
    refine V_aload_n hX (j := 0) (hj := rfl) 20 33 rfl rfl ?_
    refine V_iload_n hX (j := 1) (hj := rfl) 21 34 rfl rfl ?_
    refine V_callI hX 37 0 0 rfl rfl rfl (Nat.le_of_ble_eq_true rfl) (Nat.le_of_ble_eq_true rfl) (VR_V hX 22 (ct_Mo_many (cx_t hX) K v1 M) my_Mo_many mi_Mo_many ms_Mo_many ml_Mo_93 (Nat.le_of_ble_eq_true rfl) (Nat.le_of_ble_eq_true rfl) (by decide) (ent_32 K _) rfl rfl rfl (Nat.le_of_ble_eq_true rfl) rfl (Nat.le_of_ble_eq_true rfl) (Nat.le_of_ble_eq_true rfl)) (fun r34 M34 => ?_)
    refine V_icmp_ge hX 23 40 61 rfl rfl (by decide) (fun c37 => ?_) (fun c37 => ?_)
    · exact bt_Mo_formatRuns_61 hX k20 v1 v2 v3 hk20 M34
    · refine V_aload_n hX (j := 0) (hj := rfl) 24 41 rfl rfl ?_
      refine V_iload_n hX (j := 1) (hj := rfl) 25 42 rfl rfl ?_
      refine V_iload_n hX (j := 3) (hj := rfl) 26 43 rfl rfl ?_
      refine V_callI hX 46 0 0 rfl rfl rfl (Nat.le_of_ble_eq_true rfl) (Nat.le_of_ble_eq_true rfl) (VR_V hX 27 (ct_Mo_at (cx_t hX) K v1 v3 M34) my_Mo_at mi_Mo_at ms_Mo_at ml_Mo_124 (Nat.le_of_ble_eq_true rfl) (Nat.le_of_ble_eq_true rfl) (by decide) (ent_32 K _) rfl rfl rfl (Nat.le_of_ble_eq_true rfl) rfl (Nat.le_of_ble_eq_true rfl) (Nat.le_of_ble_eq_true rfl)) (fun r43 M43 => ?_)
      refine V_aload_n hX (j := 0) (hj := rfl) 28 47 rfl rfl ?_
      refine V_iload_n hX (j := 1) (hj := rfl) 29 48 rfl rfl ?_
      refine V_iload_n hX (j := 2) (hj := rfl) 30 49 rfl rfl ?_
      refine V_callI hX 52 0 0 rfl rfl rfl (Nat.le_of_ble_eq_true rfl) (Nat.le_of_ble_eq_true rfl) (VR_V hX 31 (ct_Mo_at (cx_t hX) K v1 v2 M43) my_Mo_at mi_Mo_at ms_Mo_at ml_Mo_124 (Nat.le_of_ble_eq_true rfl) (Nat.le_of_ble_eq_true rfl) (by decide) (ent_32 K _) rfl rfl rfl (Nat.le_of_ble_eq_true rfl) rfl (Nat.le_of_ble_eq_true rfl) (Nat.le_of_ble_eq_true rfl)) (fun r49 M49 => ?_)
      refine V_icmp_ne hX 32 55 61 rfl rfl (by decide) (fun c52 => ?_) (fun c52 => ?_)
      · exact bt_Mo_formatRuns_61 hX k20 v1 v2 v3 hk20 M49
      · refine V_iincL hX 33 58 3 rfl rfl rfl rfl (Nat.le_of_ble_eq_true rfl) (fun x3_55 hx3_55 => ?_)
        refine VV_lc [(3, .int x3_55), (0, .ref (kA K 32)), (1, .int v1), (2, .int v2)] rfl ?_
        refine V_goto hX 34 31 rfl (by decide) ?_
        refine VV_sub [1, 2, 3, 0] rfl ?_
        exact ih x3_55 M49
set_option maxRecDepth 20000 in
theorem bt_Mo_formatRuns_99 {l : Launch} {K : KT} {X : XT} (hX : Cx l K 3 4 0 0 X prog_15_method_116_code "SeriesArchiveModel" (some .int) [] L_Mo_formatRuns) (M : Mm) : VV l K 3 4 0 0 rvI X (fn_Mo_formatRuns_99 M) 0 0 M 99 [(0, .ref (kA K 32))] [] := by
  unfold fn_Mo_formatRuns_99
  refine V_aload_n hX (j := 0) (hj := rfl) 57 100 rfl rfl ?_
  refine V_get hX 58 103 32 (.int (M 32 12)) fl_Mo_48 rfl rfl (by decide) (ent_32 K _) rfl ?_
  exact V_iret hX 59 rfl (Nat.le_of_ble_eq_true rfl) (Nat.le_of_ble_eq_true rfl) rfl
set_option maxRecDepth 20000 in
theorem bt_Mo_formatRuns_20 {l : Launch} {K : KT} {X : XT} (hX : Cx l K 3 4 0 0 X prog_15_method_116_code "SeriesArchiveModel" (some .int) [] L_Mo_formatRuns) (v1 : Int32) : ∀ (n : Nat) (v2 : Int32) (M : Mm), VV l K 3 4 0 0 rvI X (fn_Mo_formatRuns_20 v1 n v2 M) 0 0 M 20 [(0, .ref (kA K 32)), (1, .int v1), (2, .int v2)] [] := by
  intro n
  induction n with
  | zero => intro v2 M; exact VV_none
  | succ n ih =>
    intro v2 M
    rw [fn_Mo_formatRuns_20]
    refine V_iload_n hX (j := 2) (hj := rfl) 12 21 rfl rfl ?_
    refine V_aload_n hX (j := 0) (hj := rfl) 13 22 rfl rfl ?_
    refine V_iload_n hX (j := 1) (hj := rfl) 14 23 rfl rfl ?_
    refine V_callI hX 26 0 0 rfl rfl rfl (Nat.le_of_ble_eq_true rfl) (Nat.le_of_ble_eq_true rfl) (VR_V hX 15 (ct_Mo_many (cx_t hX) K v1 M) my_Mo_many mi_Mo_many ms_Mo_many ml_Mo_93 (Nat.le_of_ble_eq_true rfl) (Nat.le_of_ble_eq_true rfl) (by decide) (ent_32 K _) rfl rfl rfl (Nat.le_of_ble_eq_true rfl) rfl (Nat.le_of_ble_eq_true rfl) (Nat.le_of_ble_eq_true rfl)) (fun r23 M23 => ?_)
    refine V_icmp_ge hX 16 29 99 rfl rfl (by decide) (fun c26 => ?_) (fun c26 => ?_)
    · refine VV_sub [0] rfl ?_
      exact bt_Mo_formatRuns_99 hX M23
    · refine V_iload_n hX (j := 2) (hj := rfl) 17 30 rfl rfl ?_
      refine V_istore_n hX 18 31 [(3, .int v2), (0, .ref (kA K 32)), (1, .int v1), (2, .int v2)] rfl rfl (Nat.le_of_ble_eq_true rfl) rfl ?_
      refine VV_sub [1, 2, 3, 0] rfl ?_
      exact bt_Mo_formatRuns_31 hX (fn_Mo_formatRuns_20 v1 n) v1 v2 ih fuel0 v2 M23
set_option maxRecDepth 20000 in
theorem ct_Mo_formatRuns {l : Launch} (hl : l.stackTraces = false) (K : KT) (v1 : Int32) (M : Mm) : CTp l K y_Mo_formatRuns (Cond.code y_Mo_formatRuns prog_15_method_116_code 4 (some .int)) rvI 3 0 0 [.ref (kA K 32), .int v1] M (fn_Mo_formatRuns v1 M) := by
  refine CTp_of (L := L_Mo_formatRuns) (lc := [(0, .ref (kA K 32)), (1, .int v1)]) (by decide +kernel) dec_Mo_formatRuns hl rfl (Nat.le_of_ble_eq_true rfl) (fun X hX => ?_)
  unfold fn_Mo_formatRuns
  refine V_aload_n hX (j := 0) (hj := rfl) 0 1 rfl rfl ?_
  refine V_iload_n hX (j := 1) (hj := rfl) 1 2 rfl rfl ?_
  refine V_callI hX 5 0 0 rfl rfl rfl (Nat.le_of_ble_eq_true rfl) (Nat.le_of_ble_eq_true rfl) (VR_S hX 2 (ct_Mo_isSlot (cx_t hX) K v1 M) my_Mo_isSlot mt_Mo_isSlot ml_Mo_89 (Nat.le_of_ble_eq_true rfl) (Nat.le_of_ble_eq_true rfl) rfl rfl (Nat.le_of_ble_eq_true rfl) rfl (Nat.le_of_ble_eq_true rfl) (Nat.le_of_ble_eq_true rfl)) (fun r2 M2 => ?_)
  refine V_callI hX 8 0 0 rfl rfl rfl (Nat.le_of_ble_eq_true rfl) (Nat.le_of_ble_eq_true rfl) (VR_V hX 3 (ct_Mo_checked (cx_t hX) K r2 M2) my_Mo_checked mi_Mo_checked ms_Mo_checked ml_Mo_189 (Nat.le_of_ble_eq_true rfl) (Nat.le_of_ble_eq_true rfl) (by decide) (ent_32 K _) rfl rfl rfl (Nat.le_of_ble_eq_true rfl) rfl (Nat.le_of_ble_eq_true rfl) (Nat.le_of_ble_eq_true rfl)) (fun r5 M5 => ?_)
  refine V_if_le hX 4 11 13 rfl rfl (by decide) (fun c8 => ?_) (fun c8 => ?_)
  · refine V_aload_n hX (j := 0) (hj := rfl) 7 14 rfl rfl ?_
    refine V_iconst hX (v := 0) (hv := by decide) 8 15 rfl rfl ?_
    refine V_putI hX 9 18 32 fp_Mo_48 (by decide) rfl rfl (by decide) (ent_32 K _) (Nat.le_of_ble_eq_true rfl) (ent_32 K _) (fun M15 hM15 => ?_)
    refine V_iconst hX (v := 0) (hv := by decide) 10 19 rfl rfl ?_
    refine V_istore_n hX 11 20 [(2, .int 0), (0, .ref (kA K 32)), (1, .int v1)] rfl rfl (Nat.le_of_ble_eq_true rfl) rfl ?_
    refine VV_sub [1, 2, 0] rfl ?_
    exact bt_Mo_formatRuns_20 hX v1 fuel0 0 M15
  · refine V_iconst hX (v := 0) (hv := by decide) 5 12 rfl rfl ?_
    exact V_iret hX 6 rfl (Nat.le_of_ble_eq_true rfl) (Nat.le_of_ble_eq_true rfl) rfl
set_option maxRecDepth 20000 in
theorem ct_Mo_lineChar {l : Launch} (hl : l.stackTraces = false) (K : KT) (v1 : Int32) (M : Mm) : CTp l K y_Mo_lineChar (Cond.code y_Mo_lineChar prog_15_method_117_code 2 (some .char)) rvI 2 0 0 [.ref (kA K 32), .int v1] M (fn_Mo_lineChar v1 M) := by
  refine CTp_of (L := L_Mo_lineChar) (lc := [(0, .ref (kA K 32)), (1, .int v1)]) (by decide +kernel) dec_Mo_lineChar hl rfl (Nat.le_of_ble_eq_true rfl) (fun X hX => ?_)
  unfold fn_Mo_lineChar
  refine V_aload_n hX (j := 0) (hj := rfl) 0 1 rfl rfl ?_
  refine V_iload_n hX (j := 1) (hj := rfl) 1 2 rfl rfl ?_
  refine V_iconst hX (v := 0) (hv := by decide) 2 3 rfl rfl ?_
  refine V_aload_n hX (j := 0) (hj := rfl) 3 4 rfl rfl ?_
  refine V_get hX 4 7 32 (.int (M 32 12)) fl_Mo_48 rfl rfl (by decide) (ent_32 K _) rfl ?_
  refine V_iconst hX (v := 1) (hv := by decide) 5 8 rfl rfl ?_
  refine V_isub hX 6 9 rfl rfl ?_
  refine V_callI hX 12 0 0 rfl rfl rfl (Nat.le_of_ble_eq_true rfl) (Nat.le_of_ble_eq_true rfl) (VR_S hX 7 (ct_Mo_in (cx_t hX) K v1 0 ((M 32 12) - 1) M) my_Mo_in mt_Mo_in ml_Mo_85 (Nat.le_of_ble_eq_true rfl) (Nat.le_of_ble_eq_true rfl) rfl rfl (Nat.le_of_ble_eq_true rfl) rfl (Nat.le_of_ble_eq_true rfl) (Nat.le_of_ble_eq_true rfl)) (fun r9 M9 => ?_)
  refine V_callI hX 15 0 0 rfl rfl rfl (Nat.le_of_ble_eq_true rfl) (Nat.le_of_ble_eq_true rfl) (VR_V hX 8 (ct_Mo_checked (cx_t hX) K r9 M9) my_Mo_checked mi_Mo_checked ms_Mo_checked ml_Mo_189 (Nat.le_of_ble_eq_true rfl) (Nat.le_of_ble_eq_true rfl) (by decide) (ent_32 K _) rfl rfl rfl (Nat.le_of_ble_eq_true rfl) rfl (Nat.le_of_ble_eq_true rfl) (Nat.le_of_ble_eq_true rfl)) (fun r12 M12 => ?_)
  refine V_if_le hX 9 18 23 rfl rfl (by decide) (fun c15 => ?_) (fun c15 => ?_)
  · refine V_aload_n hX (j := 0) (hj := rfl) 12 24 rfl rfl ?_
    refine V_get hX 13 27 32 (.ref (kA K 39)) fl_Mo_45 rfl rfl (by decide) (ent_32 K _) rfl ?_
    refine V_iload_n hX (j := 1) (hj := rfl) 14 28 rfl rfl ?_
    refine V_iald hX 15 29 39 140 (by decide) rfl rfl rfl (fun g28 => ?_)
    refine V_i2c hX 16 30 rfl rfl ?_
    refine VV_grd (fun hz1 => ?_)
    exact V_zret hX 17 rfl (vp_narC hz1) (Nat.le_of_ble_eq_true rfl) (Nat.le_of_ble_eq_true rfl) rfl
  · refine V_bipush hX (v := 32) (hv := by decide) 10 20 rfl rfl ?_
    refine V_goto hX 11 30 rfl (by decide) ?_
    exact V_zret hX 17 rfl (by decide) (Nat.le_of_ble_eq_true rfl) (Nat.le_of_ble_eq_true rfl) rfl
set_option maxRecDepth 20000 in
theorem bt_Mo_type_30 {l : Launch} {K : KT} {X : XT} (hX : Cx l K 2 2 0 0 X prog_15_method_118_code "SeriesArchiveModel" (some .int) [] L_Mo_type) (v1 : Int32) (s1 : Int32) (M : Mm) : VV l K 2 2 0 0 rvI X (fn_Mo_type_30 v1 s1 M) 0 0 M 30 [(0, .ref (kA K 32)), (1, .int v1)] [.int s1, .ref (kA K 32)] := by
  unfold fn_Mo_type_30
  refine V_putI hX 15 33 32 fp_Mo_28 (by decide) rfl rfl (by decide) (ent_32 K _) (Nat.le_of_ble_eq_true rfl) (ent_32 K _) (fun M30 hM30 => ?_)
  refine V_aload_n hX (j := 0) (hj := rfl) 16 34 rfl rfl ?_
  refine V_get hX 17 37 32 (.int (M30 32 6)) fl_Mo_28 rfl rfl (by decide) (ent_32 K _) rfl ?_
  refine V_if_le hX 18 40 42 rfl rfl (by decide) (fun c37 => ?_) (fun c37 => ?_)
  · refine V_aload_n hX (j := 0) (hj := rfl) 21 43 rfl rfl ?_
    refine V_get hX 22 46 32 (.ref (kA K 40)) fl_Mo_51 rfl rfl (by decide) (ent_32 K _) rfl ?_
    refine V_aload_n hX (j := 0) (hj := rfl) 23 47 rfl rfl ?_
    refine V_get hX 24 50 32 (.int (M30 32 18)) fl_Mo_66 rfl rfl (by decide) (ent_32 K _) rfl ?_
    refine V_iload_n hX (j := 1) (hj := rfl) 25 51 rfl rfl ?_
    refine V_iast hX 26 52 40 60 (by decide) rfl rfl rfl (fun g51 M51 hM51 => ?_)
    refine V_aload_n hX (j := 0) (hj := rfl) 27 53 rfl rfl ?_
    refine V_dup hX (hc := rfl) 28 54 rfl rfl ?_
    refine V_get hX 29 57 32 (.int (M51 32 18)) fl_Mo_66 rfl rfl (by decide) (ent_32 K _) rfl ?_
    refine V_iconst hX (v := 1) (hv := by decide) 30 58 rfl rfl ?_
    refine V_iadd hX 31 59 rfl rfl ?_
    refine V_putI hX 32 62 32 fp_Mo_66 (by decide) rfl rfl (by decide) (ent_32 K _) (Nat.le_of_ble_eq_true rfl) (ent_32 K _) (fun M59 hM59 => ?_)
    refine V_aload_n hX (j := 0) (hj := rfl) 33 63 rfl rfl ?_
    refine V_get hX 34 66 32 (.int (M59 32 18)) fl_Mo_66 rfl rfl (by decide) (ent_32 K _) rfl ?_
    exact V_iret hX 35 rfl (Nat.le_of_ble_eq_true rfl) (Nat.le_of_ble_eq_true rfl) rfl
  · refine V_iconst hX (v := 0) (hv := by decide) 19 41 rfl rfl ?_
    exact V_iret hX 20 rfl (Nat.le_of_ble_eq_true rfl) (Nat.le_of_ble_eq_true rfl) rfl
set_option maxRecDepth 20000 in
theorem ct_Mo_type {l : Launch} (hl : l.stackTraces = false) (K : KT) (v1 : Int32) (M : Mm) : CTp l K y_Mo_type (Cond.code y_Mo_type prog_15_method_118_code 2 (some .int)) rvI 2 0 0 [.ref (kA K 32), .int v1] M (fn_Mo_type v1 M) := by
  refine CTp_of (L := L_Mo_type) (lc := [(0, .ref (kA K 32)), (1, .int v1)]) (by decide +kernel) dec_Mo_type hl rfl (Nat.le_of_ble_eq_true rfl) (fun X hX => ?_)
  unfold fn_Mo_type
  refine V_aload_n hX (j := 0) (hj := rfl) 0 1 rfl rfl ?_
  refine V_iload_n hX (j := 1) (hj := rfl) 1 2 rfl rfl ?_
  refine V_bipush hX (v := 32) (hv := by decide) 2 4 rfl rfl ?_
  refine V_bipush hX (v := 126) (hv := by decide) 3 6 rfl rfl ?_
  refine V_callI hX 9 0 0 rfl rfl rfl (Nat.le_of_ble_eq_true rfl) (Nat.le_of_ble_eq_true rfl) (VR_S hX 4 (ct_Mo_in (cx_t hX) K v1 32 126 M) my_Mo_in mt_Mo_in ml_Mo_85 (Nat.le_of_ble_eq_true rfl) (Nat.le_of_ble_eq_true rfl) rfl rfl (Nat.le_of_ble_eq_true rfl) rfl (Nat.le_of_ble_eq_true rfl) (Nat.le_of_ble_eq_true rfl)) (fun r6 M6 => ?_)
  refine V_if_ne hX 5 12 16 rfl rfl (by decide) (fun c9 => ?_) (fun c9 => ?_)
  · refine V_aload_n hX (j := 0) (hj := rfl) 8 17 rfl rfl ?_
    refine V_get hX 9 20 32 (.int (M6 32 18)) fl_Mo_66 rfl rfl (by decide) (ent_32 K _) rfl ?_
    refine V_bipush hX (v := 60) (hv := by decide) 10 22 rfl rfl ?_
    refine V_icmp_ne hX 11 25 29 rfl rfl (by decide) (fun c22 => ?_) (fun c22 => ?_)
    · refine V_iconst hX (v := 0) (hv := by decide) 14 30 rfl rfl ?_
      exact bt_Mo_type_30 hX v1 0 M6
    · refine V_iconst hX (v := 2) (hv := by decide) 12 26 rfl rfl ?_
      refine V_goto hX 13 30 rfl (by decide) ?_
      exact bt_Mo_type_30 hX v1 2 M6
  · refine V_iconst hX (v := 1) (hv := by decide) 6 13 rfl rfl ?_
    refine V_goto hX 7 30 rfl (by decide) ?_
    exact bt_Mo_type_30 hX v1 1 M6
set_option maxRecDepth 20000 in
theorem ct_Mo_mark {l : Launch} (hl : l.stackTraces = false) (K : KT) (M : Mm) : CTp l K y_Mo_mark (Cond.code y_Mo_mark prog_15_method_119_code 1 (some .int)) rvI 1 0 0 [.ref (kA K 32)] M (fn_Mo_mark M) := by
  refine CTp_of (L := L_Mo_mark) (lc := [(0, .ref (kA K 32))]) (by decide +kernel) dec_Mo_mark hl rfl (Nat.le_of_ble_eq_true rfl) (fun X hX => ?_)
  unfold fn_Mo_mark
  refine V_aload_n hX (j := 0) (hj := rfl) 0 1 rfl rfl ?_
  refine V_get hX 1 4 32 (.int (M 32 22)) fl_Mo_78 rfl rfl (by decide) (ent_32 K _) rfl ?_
  refine V_if_ne hX 2 7 30 rfl rfl (by decide) (fun c4 => ?_) (fun c4 => ?_)
  · refine V_iconst hX (v := (-1)) (hv := by decide) 14 31 rfl rfl ?_
    exact V_iret hX 15 rfl (Nat.le_of_ble_eq_true rfl) (Nat.le_of_ble_eq_true rfl) rfl
  · refine V_aload_n hX (j := 0) (hj := rfl) 3 8 rfl rfl ?_
    refine V_get hX 4 11 32 (.int (M 32 20)) fl_Mo_72 rfl rfl (by decide) (ent_32 K _) rfl ?_
    refine V_aload_n hX (j := 0) (hj := rfl) 5 12 rfl rfl ?_
    refine V_get hX 6 15 32 (.int (M 32 19)) fl_Mo_69 rfl rfl (by decide) (ent_32 K _) rfl ?_
    refine V_icmp_ge hX 7 18 30 rfl rfl (by decide) (fun c15 => ?_) (fun c15 => ?_)
    · refine V_iconst hX (v := (-1)) (hv := by decide) 14 31 rfl rfl ?_
      exact V_iret hX 15 rfl (Nat.le_of_ble_eq_true rfl) (Nat.le_of_ble_eq_true rfl) rfl
    · refine V_aload_n hX (j := 0) (hj := rfl) 8 19 rfl rfl ?_
      refine V_get hX 9 22 32 (.ref (kA K 40)) fl_Mo_51 rfl rfl (by decide) (ent_32 K _) rfl ?_
      refine V_aload_n hX (j := 0) (hj := rfl) 10 23 rfl rfl ?_
      refine V_get hX 11 26 32 (.int (M 32 20)) fl_Mo_72 rfl rfl (by decide) (ent_32 K _) rfl ?_
      refine V_iald hX 12 27 40 60 (by decide) rfl rfl rfl (fun g26 => ?_)
      refine V_goto hX 13 31 rfl (by decide) ?_
      exact V_iret hX 15 rfl (Nat.le_of_ble_eq_true rfl) (Nat.le_of_ble_eq_true rfl) rfl
set_option maxRecDepth 20000 in
theorem bt_Mo_expect_39 {l : Launch} {K : KT} {X : XT} (hX : Cx l K 2 2 0 0 X prog_15_method_120_code "SeriesArchiveModel" none [] L_Mo_expect) (s1 : Int32) (s2 : Int32) (M : Mm) : VV l K 2 2 0 0 rvU X (fn_Mo_expect_39 s1 s2 M) 0 0 M 39 [] [.int s2, .int s1, .ref (kA K 32)] := by
  unfold fn_Mo_expect_39
  refine V_iadd hX 21 40 rfl rfl ?_
  refine V_putI hX 22 43 32 fp_Mo_72 (by decide) rfl rfl (by decide) (ent_32 K _) (Nat.le_of_ble_eq_true rfl) (ent_32 K _) (fun M40 hM40 => ?_)
  exact V_vret hX 23 rfl (Nat.le_of_ble_eq_true rfl) (Nat.le_of_ble_eq_true rfl) rfl
set_option maxRecDepth 20000 in
theorem bt_Mo_expect_18 {l : Launch} {K : KT} {X : XT} (hX : Cx l K 2 2 0 0 X prog_15_method_120_code "SeriesArchiveModel" none [] L_Mo_expect) (s1 : Int32) (s2 : Int32) (M : Mm) : VV l K 2 2 0 0 rvU X (fn_Mo_expect_18 s1 s2 M) 0 0 M 18 [(0, .ref (kA K 32))] [.int s2, .int s1, .ref (kA K 32)] := by
  unfold fn_Mo_expect_18
  refine V_ior hX 10 19 rfl rfl ?_
  refine VV_grd (fun hz1 => ?_)
  refine V_putZ hX 11 22 32 fp_Mo_78 hz1 (by decide) rfl rfl (by decide) (ent_32 K _) (Nat.le_of_ble_eq_true rfl) (ent_32 K _) (fun M19 hM19 => ?_)
  refine V_aload_n hX (j := 0) (hj := rfl) 12 23 rfl rfl ?_
  refine V_dup hX (hc := rfl) 13 24 rfl rfl ?_
  refine V_get hX 14 27 32 (.int (M19 32 20)) fl_Mo_72 rfl rfl (by decide) (ent_32 K _) rfl ?_
  refine V_aload_n hX (j := 0) (hj := rfl) 15 28 rfl rfl ?_
  refine V_get hX 16 31 32 (.int (M19 32 22)) fl_Mo_78 rfl rfl (by decide) (ent_32 K _) rfl ?_
  refine V_if_eq hX 17 34 38 rfl rfl (by decide) (fun c31 => ?_) (fun c31 => ?_)
  · refine V_iconst hX (v := 1) (hv := by decide) 20 39 rfl rfl ?_
    refine VV_sub [] rfl ?_
    exact bt_Mo_expect_39 hX (M19 32 20) 1 M19
  · refine V_iconst hX (v := 0) (hv := by decide) 18 35 rfl rfl ?_
    refine V_goto hX 19 39 rfl (by decide) ?_
    refine VV_sub [] rfl ?_
    exact bt_Mo_expect_39 hX (M19 32 20) 0 M19
set_option maxRecDepth 20000 in
theorem ct_Mo_expect {l : Launch} (hl : l.stackTraces = false) (K : KT) (v1 : Int32) (M : Mm) : CTp l K y_Mo_expect (Cond.code y_Mo_expect prog_15_method_120_code 2 none) rvU 2 0 0 [.ref (kA K 32), .int v1] M (fn_Mo_expect v1 M) := by
  refine CTp_of (L := L_Mo_expect) (lc := [(0, .ref (kA K 32)), (1, .int v1)]) (by decide +kernel) dec_Mo_expect hl rfl (Nat.le_of_ble_eq_true rfl) (fun X hX => ?_)
  unfold fn_Mo_expect
  refine V_aload_n hX (j := 0) (hj := rfl) 0 1 rfl rfl ?_
  refine V_dup hX (hc := rfl) 1 2 rfl rfl ?_
  refine V_get hX 2 5 32 (.int (M 32 22)) fl_Mo_78 rfl rfl (by decide) (ent_32 K _) rfl ?_
  refine V_aload_n hX (j := 0) (hj := rfl) 3 6 rfl rfl ?_
  refine V_callI hX 9 0 0 rfl rfl rfl (Nat.le_of_ble_eq_true rfl) (Nat.le_of_ble_eq_true rfl) (VR_V hX 4 (ct_Mo_mark (cx_t hX) K M) my_Mo_mark mi_Mo_mark ms_Mo_mark ml_Mo_285 (Nat.le_of_ble_eq_true rfl) (Nat.le_of_ble_eq_true rfl) (by decide) (ent_32 K _) rfl rfl rfl (Nat.le_of_ble_eq_true rfl) rfl (Nat.le_of_ble_eq_true rfl) (Nat.le_of_ble_eq_true rfl)) (fun r6 M6 => ?_)
  refine V_iload_n hX (j := 1) (hj := rfl) 5 10 rfl rfl ?_
  refine V_icmp_eq hX 6 13 17 rfl rfl (by decide) (fun c10 => ?_) (fun c10 => ?_)
  · refine V_iconst hX (v := 0) (hv := by decide) 9 18 rfl rfl ?_
    refine VV_sub [0] rfl ?_
    exact bt_Mo_expect_18 hX (M 32 22) 0 M6
  · refine V_iconst hX (v := 1) (hv := by decide) 7 14 rfl rfl ?_
    refine V_goto hX 8 18 rfl (by decide) ?_
    refine VV_sub [0] rfl ?_
    exact bt_Mo_expect_18 hX (M 32 22) 1 M6
set_option maxRecDepth 20000 in
theorem bt_Mo_digits_32 {l : Launch} {K : KT} {X : XT} (hX : Cx l K 2 4 0 0 X prog_15_method_121_code "SeriesArchiveModel" (some .int) [] L_Mo_digits) (v1 : Int32) : ∀ (n : Nat) (v2 : Int32) (v3 : Int32) (M : Mm), VV l K 2 4 0 0 rvI X (fn_Mo_digits_32 v1 n v2 v3 M) 0 0 M 32 [(0, .ref (kA K 32)), (1, .int v1), (2, .int v2), (3, .int v3)] [] := by
  intro n
  induction n with
  | zero => intro v2 v3 M; exact VV_none
  | succ n ih =>
    intro v2 v3 M
    rw [fn_Mo_digits_32]
    refine V_iload_n hX (j := 3) (hj := rfl) 18 33 rfl rfl ?_
    refine V_iload_n hX (j := 1) (hj := rfl) 19 34 rfl rfl ?_
    refine V_icmp_ge hX 20 37 85 rfl rfl (by decide) (fun c34 => ?_) (fun c34 => ?_)
    · refine V_iload_n hX (j := 2) (hj := rfl) 47 86 rfl rfl ?_
      exact V_iret hX 48 rfl (Nat.le_of_ble_eq_true rfl) (Nat.le_of_ble_eq_true rfl) rfl
    · refine V_aload_n hX (j := 0) (hj := rfl) 21 38 rfl rfl ?_
      refine V_callI hX 41 0 0 rfl rfl rfl (Nat.le_of_ble_eq_true rfl) (Nat.le_of_ble_eq_true rfl) (VR_V hX 22 (ct_Mo_mark (cx_t hX) K M) my_Mo_mark mi_Mo_mark ms_Mo_mark ml_Mo_285 (Nat.le_of_ble_eq_true rfl) (Nat.le_of_ble_eq_true rfl) (by decide) (ent_32 K _) rfl rfl rfl (Nat.le_of_ble_eq_true rfl) rfl (Nat.le_of_ble_eq_true rfl) (Nat.le_of_ble_eq_true rfl)) (fun r38 M38 => ?_)
      refine V_bipush hX (v := 48) (hv := by decide) 23 43 rfl rfl ?_
      refine V_bipush hX (v := 57) (hv := by decide) 24 45 rfl rfl ?_
      refine V_callI hX 48 0 0 rfl rfl rfl (Nat.le_of_ble_eq_true rfl) (Nat.le_of_ble_eq_true rfl) (VR_S hX 25 (ct_Mo_in (cx_t hX) K r38 48 57 M38) my_Mo_in mt_Mo_in ml_Mo_85 (Nat.le_of_ble_eq_true rfl) (Nat.le_of_ble_eq_true rfl) rfl rfl (Nat.le_of_ble_eq_true rfl) rfl (Nat.le_of_ble_eq_true rfl) (Nat.le_of_ble_eq_true rfl)) (fun r45 M45 => ?_)
      refine V_if_eq hX 26 51 85 rfl rfl (by decide) (fun c48 => ?_) (fun c48 => ?_)
      · refine V_iload_n hX (j := 2) (hj := rfl) 47 86 rfl rfl ?_
        exact V_iret hX 48 rfl (Nat.le_of_ble_eq_true rfl) (Nat.le_of_ble_eq_true rfl) rfl
      · refine V_bipush hX (v := 10) (hv := by decide) 27 53 rfl rfl ?_
        refine V_iload_n hX (j := 2) (hj := rfl) 28 54 rfl rfl ?_
        refine V_imul hX 29 55 rfl rfl ?_
        refine V_aload_n hX (j := 0) (hj := rfl) 30 56 rfl rfl ?_
        refine V_get hX 31 59 32 (.ref (kA K 40)) fl_Mo_51 rfl rfl (by decide) (ent_32 K _) rfl ?_
        refine V_aload_n hX (j := 0) (hj := rfl) 32 60 rfl rfl ?_
        refine V_get hX 33 63 32 (.int (M45 32 20)) fl_Mo_72 rfl rfl (by decide) (ent_32 K _) rfl ?_
        refine V_iald hX 34 64 40 60 (by decide) rfl rfl rfl (fun g63 => ?_)
        refine V_iadd hX 35 65 rfl rfl ?_
        refine V_bipush hX (v := 48) (hv := by decide) 36 67 rfl rfl ?_
        refine V_isub hX 37 68 rfl rfl ?_
        refine VV_li (fun x2_68 hx2_68 => ?_)
        refine V_istore_n hX 38 69 [(2, .int x2_68), (0, .ref (kA K 32)), (1, .int v1), (3, .int v3)] rfl rfl (Nat.le_of_ble_eq_true rfl) rfl ?_
        refine V_aload_n hX (j := 1) (hj := rfl) 39 70 rfl rfl ?_
        refine V_dup hX (hc := rfl) 40 71 rfl rfl ?_
        refine V_get hX 41 74 32 (.int (M45 32 20)) fl_Mo_72 rfl rfl (by decide) (ent_32 K _) rfl ?_
        refine V_iconst hX (v := 1) (hv := by decide) 42 75 rfl rfl ?_
        refine V_iadd hX 43 76 rfl rfl ?_
        refine V_putI hX 44 79 32 fp_Mo_72 (by decide) rfl rfl (by decide) (ent_32 K _) (Nat.le_of_ble_eq_true rfl) (ent_32 K _) (fun M76 hM76 => ?_)
        refine V_iincL hX 45 82 3 rfl rfl rfl rfl (Nat.le_of_ble_eq_true rfl) (fun x3_79 hx3_79 => ?_)
        refine VV_lc [(3, .int x3_79), (2, .int x2_68), (0, .ref (kA K 32)), (1, .int v1)] rfl ?_
        refine V_goto hX 46 32 rfl (by decide) ?_
        refine VV_sub [2, 3, 1, 0] rfl ?_
        exact ih x2_68 x3_79 M76
set_option maxRecDepth 20000 in
theorem bt_Mo_digits_24 {l : Launch} {K : KT} {X : XT} (hX : Cx l K 2 4 0 0 X prog_15_method_121_code "SeriesArchiveModel" (some .int) [] L_Mo_digits) (v1 : Int32) (s1 : Int32) (s2 : Int32) (M : Mm) : VV l K 2 4 0 0 rvI X (fn_Mo_digits_24 v1 s1 s2 M) 0 0 M 24 [(0, .ref (kA K 32)), (1, .int v1)] [.int s2, .int s1, .ref (kA K 32)] := by
  unfold fn_Mo_digits_24
  refine V_ior hX 12 25 rfl rfl ?_
  refine VV_grd (fun hz1 => ?_)
  refine V_putZ hX 13 28 32 fp_Mo_78 hz1 (by decide) rfl rfl (by decide) (ent_32 K _) (Nat.le_of_ble_eq_true rfl) (ent_32 K _) (fun M25 hM25 => ?_)
  refine V_iconst hX (v := 0) (hv := by decide) 14 29 rfl rfl ?_
  refine V_istore_n hX 15 30 [(2, .int 0), (0, .ref (kA K 32)), (1, .int v1)] rfl rfl (Nat.le_of_ble_eq_true rfl) rfl ?_
  refine V_iconst hX (v := 0) (hv := by decide) 16 31 rfl rfl ?_
  refine V_istore_n hX 17 32 [(3, .int 0), (2, .int 0), (0, .ref (kA K 32)), (1, .int v1)] rfl rfl (Nat.le_of_ble_eq_true rfl) rfl ?_
  refine VV_sub [2, 3, 1, 0] rfl ?_
  exact bt_Mo_digits_32 hX v1 fuel0 0 0 M25
set_option maxRecDepth 20000 in
theorem ct_Mo_digits {l : Launch} (hl : l.stackTraces = false) (K : KT) (v1 : Int32) (M : Mm) : CTp l K y_Mo_digits (Cond.code y_Mo_digits prog_15_method_121_code 4 (some .int)) rvI 2 0 0 [.ref (kA K 32), .int v1] M (fn_Mo_digits v1 M) := by
  refine CTp_of (L := L_Mo_digits) (lc := [(0, .ref (kA K 32)), (1, .int v1)]) (by decide +kernel) dec_Mo_digits hl rfl (Nat.le_of_ble_eq_true rfl) (fun X hX => ?_)
  unfold fn_Mo_digits
  refine V_aload_n hX (j := 0) (hj := rfl) 0 1 rfl rfl ?_
  refine V_dup hX (hc := rfl) 1 2 rfl rfl ?_
  refine V_get hX 2 5 32 (.int (M 32 22)) fl_Mo_78 rfl rfl (by decide) (ent_32 K _) rfl ?_
  refine V_aload_n hX (j := 0) (hj := rfl) 3 6 rfl rfl ?_
  refine V_callI hX 9 0 0 rfl rfl rfl (Nat.le_of_ble_eq_true rfl) (Nat.le_of_ble_eq_true rfl) (VR_V hX 4 (ct_Mo_mark (cx_t hX) K M) my_Mo_mark mi_Mo_mark ms_Mo_mark ml_Mo_285 (Nat.le_of_ble_eq_true rfl) (Nat.le_of_ble_eq_true rfl) (by decide) (ent_32 K _) rfl rfl rfl (Nat.le_of_ble_eq_true rfl) rfl (Nat.le_of_ble_eq_true rfl) (Nat.le_of_ble_eq_true rfl)) (fun r6 M6 => ?_)
  refine V_bipush hX (v := 48) (hv := by decide) 5 11 rfl rfl ?_
  refine V_bipush hX (v := 57) (hv := by decide) 6 13 rfl rfl ?_
  refine V_callI hX 16 0 0 rfl rfl rfl (Nat.le_of_ble_eq_true rfl) (Nat.le_of_ble_eq_true rfl) (VR_S hX 7 (ct_Mo_in (cx_t hX) K r6 48 57 M6) my_Mo_in mt_Mo_in ml_Mo_85 (Nat.le_of_ble_eq_true rfl) (Nat.le_of_ble_eq_true rfl) rfl rfl (Nat.le_of_ble_eq_true rfl) rfl (Nat.le_of_ble_eq_true rfl) (Nat.le_of_ble_eq_true rfl)) (fun r13 M13 => ?_)
  refine V_if_ne hX 8 19 23 rfl rfl (by decide) (fun c16 => ?_) (fun c16 => ?_)
  · refine V_iconst hX (v := 0) (hv := by decide) 11 24 rfl rfl ?_
    exact bt_Mo_digits_24 hX v1 (M 32 22) 0 M13
  · refine V_iconst hX (v := 1) (hv := by decide) 9 20 rfl rfl ?_
    refine V_goto hX 10 24 rfl (by decide) ?_
    exact bt_Mo_digits_24 hX v1 (M 32 22) 1 M13
set_option maxRecDepth 20000 in
theorem ct_Mo_digitsBehind {l : Launch} (hl : l.stackTraces = false) (K : KT) (v1 : Int32) (v2 : Int32) (M : Mm) : CTp l K y_Mo_digitsBehind (Cond.code y_Mo_digitsBehind prog_15_method_122_code 3 (some .int)) rvI 3 0 0 [.ref (kA K 32), .int v1, .int v2] M (fn_Mo_digitsBehind v1 v2 M) := by
  refine CTp_of (L := L_Mo_digitsBehind) (lc := [(0, .ref (kA K 32)), (1, .int v1), (2, .int v2)]) (by decide +kernel) dec_Mo_digitsBehind hl rfl (Nat.le_of_ble_eq_true rfl) (fun X hX => ?_)
  unfold fn_Mo_digitsBehind
  refine V_aload_n hX (j := 0) (hj := rfl) 0 1 rfl rfl ?_
  refine V_iload_n hX (j := 1) (hj := rfl) 1 2 rfl rfl ?_
  refine V_callU hX 5 0 0 rfl rfl rfl (Nat.le_of_ble_eq_true rfl) (Nat.le_of_ble_eq_true rfl) (VR_V hX 2 (ct_Mo_expect (cx_t hX) K v1 M) my_Mo_expect mi_Mo_expect ms_Mo_expect ml_Mo_288 (Nat.le_of_ble_eq_true rfl) (Nat.le_of_ble_eq_true rfl) (by decide) (ent_32 K _) rfl rfl rfl (Nat.le_of_ble_eq_true rfl) rfl (Nat.le_of_ble_eq_true rfl) (Nat.le_of_ble_eq_true rfl)) (fun r2 M2 => ?_)
  refine V_aload_n hX (j := 0) (hj := rfl) 3 6 rfl rfl ?_
  refine V_iload_n hX (j := 2) (hj := rfl) 4 7 rfl rfl ?_
  refine V_callI hX 10 0 0 rfl rfl rfl (Nat.le_of_ble_eq_true rfl) (Nat.le_of_ble_eq_true rfl) (VR_V hX 5 (ct_Mo_digits (cx_t hX) K v2 M2) my_Mo_digits mi_Mo_digits ms_Mo_digits ml_Mo_291 (Nat.le_of_ble_eq_true rfl) (Nat.le_of_ble_eq_true rfl) (by decide) (ent_32 K _) rfl rfl rfl (Nat.le_of_ble_eq_true rfl) rfl (Nat.le_of_ble_eq_true rfl) (Nat.le_of_ble_eq_true rfl)) (fun r7 M7 => ?_)
  exact V_iret hX 6 rfl (Nat.le_of_ble_eq_true rfl) (Nat.le_of_ble_eq_true rfl) rfl
set_option maxRecDepth 20000 in
theorem bt_Mo_numberBehind_34 {l : Launch} {K : KT} {X : XT} (hX : Cx l K 3 4 0 0 X prog_15_method_123_code "SeriesArchiveModel" (some .int) [] L_Mo_numberBehind) (v2 : Int32) (s1 : Int32) (s2 : Int32) (M : Mm) : VV l K 3 4 0 0 rvI X (fn_Mo_numberBehind_34 v2 s1 s2 M) 0 0 M 34 [(0, .ref (kA K 32)), (2, .int v2)] [.int s2, .int s1, .ref (kA K 32)] := by
  unfold fn_Mo_numberBehind_34
  refine V_iadd hX 19 35 rfl rfl ?_
  refine V_putI hX 20 38 32 fp_Mo_72 (by decide) rfl rfl (by decide) (ent_32 K _) (Nat.le_of_ble_eq_true rfl) (ent_32 K _) (fun M35 hM35 => ?_)
  refine V_aload_n hX (j := 0) (hj := rfl) 21 39 rfl rfl ?_
  refine V_iconst hX (v := 2) (hv := by decide) 22 40 rfl rfl ?_
  refine V_callI hX 43 0 0 rfl rfl rfl (Nat.le_of_ble_eq_true rfl) (Nat.le_of_ble_eq_true rfl) (VR_V hX 23 (ct_Mo_digits (cx_t hX) K 2 M35) my_Mo_digits mi_Mo_digits ms_Mo_digits ml_Mo_291 (Nat.le_of_ble_eq_true rfl) (Nat.le_of_ble_eq_true rfl) (by decide) (ent_32 K _) rfl rfl rfl (Nat.le_of_ble_eq_true rfl) rfl (Nat.le_of_ble_eq_true rfl) (Nat.le_of_ble_eq_true rfl)) (fun r40 M40 => ?_)
  refine V_istore_n hX 24 44 [(3, .int r40), (0, .ref (kA K 32)), (2, .int v2)] rfl rfl (Nat.le_of_ble_eq_true rfl) rfl ?_
  refine V_iload_n hX (j := 2) (hj := rfl) 25 45 rfl rfl ?_
  refine V_if_eq hX 26 48 53 rfl rfl (by decide) (fun c45 => ?_) (fun c45 => ?_)
  · refine V_iload_n hX (j := 0) (hj := rfl) 30 54 rfl rfl ?_
    exact V_iret hX 31 rfl (Nat.le_of_ble_eq_true rfl) (Nat.le_of_ble_eq_true rfl) rfl
  · refine V_iload_n hX (j := 0) (hj := rfl) 27 49 rfl rfl ?_
    refine V_ineg hX 28 50 rfl rfl ?_
    refine V_goto hX 29 54 rfl (by decide) ?_
    exact V_iret hX 31 rfl (Nat.le_of_ble_eq_true rfl) (Nat.le_of_ble_eq_true rfl) rfl
set_option maxRecDepth 20000 in
theorem bt_Mo_numberBehind_19 {l : Launch} {K : KT} {X : XT} (hX : Cx l K 3 4 0 0 X prog_15_method_123_code "SeriesArchiveModel" (some .int) [] L_Mo_numberBehind) (s0 : Int32) (M : Mm) : VV l K 3 4 0 0 rvI X (fn_Mo_numberBehind_19 s0 M) 0 0 M 19 [(0, .ref (kA K 32))] [.int s0] := by
  unfold fn_Mo_numberBehind_19
  refine V_istore_n hX 10 20 [(2, .int s0), (0, .ref (kA K 32))] rfl rfl (Nat.le_of_ble_eq_true rfl) rfl ?_
  refine V_aload_n hX (j := 1) (hj := rfl) 11 21 rfl rfl ?_
  refine V_dup hX (hc := rfl) 12 22 rfl rfl ?_
  refine V_get hX 13 25 32 (.int (M 32 20)) fl_Mo_72 rfl rfl (by decide) (ent_32 K _) rfl ?_
  refine V_iload_n hX (j := 0) (hj := rfl) 14 26 rfl rfl ?_
  refine V_if_eq hX 15 29 33 rfl rfl (by decide) (fun c26 => ?_) (fun c26 => ?_)
  · refine V_iconst hX (v := 0) (hv := by decide) 18 34 rfl rfl ?_
    refine VV_sub [1, 0] rfl ?_
    exact bt_Mo_numberBehind_34 hX s0 (M 32 20) 0 M
  · refine V_iconst hX (v := 1) (hv := by decide) 16 30 rfl rfl ?_
    refine V_goto hX 17 34 rfl (by decide) ?_
    refine VV_sub [1, 0] rfl ?_
    exact bt_Mo_numberBehind_34 hX s0 (M 32 20) 1 M
set_option maxRecDepth 20000 in
theorem ct_Mo_numberBehind {l : Launch} (hl : l.stackTraces = false) (K : KT) (v1 : Int32) (M : Mm) : CTp l K y_Mo_numberBehind (Cond.code y_Mo_numberBehind prog_15_method_123_code 4 (some .int)) rvI 3 0 0 [.ref (kA K 32), .int v1] M (fn_Mo_numberBehind v1 M) := by
  refine CTp_of (L := L_Mo_numberBehind) (lc := [(0, .ref (kA K 32)), (1, .int v1)]) (by decide +kernel) dec_Mo_numberBehind hl rfl (Nat.le_of_ble_eq_true rfl) (fun X hX => ?_)
  unfold fn_Mo_numberBehind
  refine V_aload_n hX (j := 0) (hj := rfl) 0 1 rfl rfl ?_
  refine V_iload_n hX (j := 1) (hj := rfl) 1 2 rfl rfl ?_
  refine V_callU hX 5 0 0 rfl rfl rfl (Nat.le_of_ble_eq_true rfl) (Nat.le_of_ble_eq_true rfl) (VR_V hX 2 (ct_Mo_expect (cx_t hX) K v1 M) my_Mo_expect mi_Mo_expect ms_Mo_expect ml_Mo_288 (Nat.le_of_ble_eq_true rfl) (Nat.le_of_ble_eq_true rfl) (by decide) (ent_32 K _) rfl rfl rfl (Nat.le_of_ble_eq_true rfl) rfl (Nat.le_of_ble_eq_true rfl) (Nat.le_of_ble_eq_true rfl)) (fun r2 M2 => ?_)
  refine V_aload_n hX (j := 0) (hj := rfl) 3 6 rfl rfl ?_
  refine V_callI hX 9 0 0 rfl rfl rfl (Nat.le_of_ble_eq_true rfl) (Nat.le_of_ble_eq_true rfl) (VR_V hX 4 (ct_Mo_mark (cx_t hX) K M2) my_Mo_mark mi_Mo_mark ms_Mo_mark ml_Mo_285 (Nat.le_of_ble_eq_true rfl) (Nat.le_of_ble_eq_true rfl) (by decide) (ent_32 K _) rfl rfl rfl (Nat.le_of_ble_eq_true rfl) rfl (Nat.le_of_ble_eq_true rfl) (Nat.le_of_ble_eq_true rfl)) (fun r6 M6 => ?_)
  refine V_bipush hX (v := 45) (hv := by decide) 5 11 rfl rfl ?_
  refine V_icmp_ne hX 6 14 18 rfl rfl (by decide) (fun c11 => ?_) (fun c11 => ?_)
  · refine V_iconst hX (v := 0) (hv := by decide) 9 19 rfl rfl ?_
    refine VV_sub [0] rfl ?_
    exact bt_Mo_numberBehind_19 hX 0 M6
  · refine V_iconst hX (v := 1) (hv := by decide) 7 15 rfl rfl ?_
    refine V_goto hX 8 19 rfl (by decide) ?_
    refine VV_sub [0] rfl ?_
    exact bt_Mo_numberBehind_19 hX 1 M6
set_option maxRecDepth 20000 in
theorem ct_Mo_pick {l : Launch} (hl : l.stackTraces = false) (K : KT) (v0 : Int32) (v1 : Int32) (v2 : Int32) (v3 : Int32) (v4 : Int32) (v5 : Int32) (v6 : Int32) (M : Mm) : CTp l K y_Mo_pick (Cond.code y_Mo_pick prog_15_method_124_code 7 (some .int)) rvI 1 0 0 [.int v0, .int v1, .int v2, .int v3, .int v4, .int v5, .int v6] M (fn_Mo_pick v0 v1 v2 v3 v4 v5 v6 M) := by
  refine CTp_of (L := L_Mo_pick) (lc := [(0, .int v0), (1, .int v1), (2, .int v2), (3, .int v3), (4, .int v4), (5, .int v5), (6, .int v6)]) (by decide +kernel) dec_Mo_pick hl rfl (Nat.le_of_ble_eq_true rfl) (fun X hX => ?_)
  unfold fn_Mo_pick
  refine V_iload_n hX (j := 0) (hj := rfl) 0 1 rfl rfl ?_
  refine VV_ite (fun e1_0 => ?_) (fun n1_0 => ?_)
  · refine V_tabIn hX 1 40 0 e1_0 (by decide) rfl (by decide) (by decide) rfl (by decide) ?_
    refine V_iload_n hX (j := 1) (hj := rfl) 2 41 rfl rfl ?_
    exact V_iret hX 3 rfl (Nat.le_of_ble_eq_true rfl) (Nat.le_of_ble_eq_true rfl) rfl
  refine VV_ite (fun e1_1 => ?_) (fun n1_1 => ?_)
  · refine V_tabIn hX 1 42 1 e1_1 (by decide) rfl (by decide) (by decide) rfl (by decide) ?_
    refine V_iload_n hX (j := 2) (hj := rfl) 4 43 rfl rfl ?_
    exact V_iret hX 5 rfl (Nat.le_of_ble_eq_true rfl) (Nat.le_of_ble_eq_true rfl) rfl
  refine VV_ite (fun e1_2 => ?_) (fun n1_2 => ?_)
  · refine V_tabIn hX 1 44 2 e1_2 (by decide) rfl (by decide) (by decide) rfl (by decide) ?_
    refine V_iload_n hX (j := 3) (hj := rfl) 6 45 rfl rfl ?_
    exact V_iret hX 7 rfl (Nat.le_of_ble_eq_true rfl) (Nat.le_of_ble_eq_true rfl) rfl
  refine VV_ite (fun e1_3 => ?_) (fun n1_3 => ?_)
  · refine V_tabIn hX 1 46 3 e1_3 (by decide) rfl (by decide) (by decide) rfl (by decide) ?_
    refine V_iload hX (j := 4) (hj := rfl) 8 48 rfl rfl ?_
    exact V_iret hX 9 rfl (Nat.le_of_ble_eq_true rfl) (Nat.le_of_ble_eq_true rfl) rfl
  refine VV_ite (fun e1_4 => ?_) (fun n1_4 => ?_)
  · refine V_tabIn hX 1 49 4 e1_4 (by decide) rfl (by decide) (by decide) rfl (by decide) ?_
    refine V_iload hX (j := 5) (hj := rfl) 10 51 rfl rfl ?_
    exact V_iret hX 11 rfl (Nat.le_of_ble_eq_true rfl) (Nat.le_of_ble_eq_true rfl) rfl
  refine VV_ite (fun e1_5 => ?_) (fun n1_5 => ?_)
  · refine V_tabIn hX 1 52 5 e1_5 (by decide) rfl (by decide) (by decide) rfl (by decide) ?_
    refine V_iload hX (j := 6) (hj := rfl) 12 54 rfl rfl ?_
    exact V_iret hX 13 rfl (Nat.le_of_ble_eq_true rfl) (Nat.le_of_ble_eq_true rfl) rfl
  refine V_tabOut hX 1 55 rfl (by have a0 := zz_ne (0) (by decide) n1_0; have a1 := zz_ne (1) (by decide) n1_1; have a2 := zz_ne (2) (by decide) n1_2; have a3 := zz_ne (3) (by decide) n1_3; have a4 := zz_ne (4) (by decide) n1_4; have a5 := zz_ne (5) (by decide) n1_5; omega) (by decide) ?_
  refine V_iconst hX (v := 0) (hv := by decide) 14 56 rfl rfl ?_
  exact V_iret hX 15 rfl (Nat.le_of_ble_eq_true rfl) (Nat.le_of_ble_eq_true rfl) rfl
