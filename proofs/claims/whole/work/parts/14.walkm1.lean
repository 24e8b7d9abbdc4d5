set_option maxRecDepth 20000 in
theorem bt_Mo_highest_11 {l : Launch} {K : KT} {X : XT} (hX : Cx l K 2 6 0 0 X prog_15_method_55_code "SeriesArchiveModel" (some .int) [] L_Mo_highest) (v1 : Int32) (v3 : Int32) : ∀ (n : Nat) (v4 : Int32) (v5 : Int32) (M : Mm), VV l K 2 6 0 0 rvI X (fn_Mo_highest_11 v1 v3 n v4 v5 M) 0 0 M 11 [(0, .ref (kA K 32)), (1, .int v1), (3, .int v3), (4, .int v4), (5, .int v5)] [] := by
  intro n
  induction n with
  | zero => intro v4 v5 M; exact VV_none
  | succ n ih =>
    intro v4 v5 M
    rw [fn_Mo_highest_11]
    refine V_iload hX (j := 4) (hj := rfl) 7 13 rfl rfl ?_
    refine V_iload_n hX (j := 2) (hj := rfl) 8 14 rfl rfl ?_
    refine V_icmp_gt hX 9 17 37 rfl rfl (by decide) (fun c14 => ?_) (fun c14 => ?_)
    · refine V_iload hX (j := 3) (hj := rfl) 19 39 rfl rfl ?_
      exact V_iret hX 20 rfl (Nat.le_of_ble_eq_true rfl) (Nat.le_of_ble_eq_true rfl) rfl
    · refine V_iload hX (j := 3) (hj := rfl) 10 19 rfl rfl ?_
      refine V_aload_n hX (j := 0) (hj := rfl) 11 20 rfl rfl ?_
      refine V_iload_n hX (j := 1) (hj := rfl) 12 21 rfl rfl ?_
      refine V_iload hX (j := 4) (hj := rfl) 13 23 rfl rfl ?_
      refine V_callI hX 26 0 0 rfl rfl rfl (Nat.le_of_ble_eq_true rfl) (Nat.le_of_ble_eq_true rfl) (VR_V hX 14 (ct_Mo_at (cx_t hX) K v1 v5 M) my_Mo_at mi_Mo_at ms_Mo_at ml_Mo_124 (Nat.le_of_ble_eq_true rfl) (Nat.le_of_ble_eq_true rfl) (by decide) (ent_32 K _) rfl rfl rfl (Nat.le_of_ble_eq_true rfl) rfl (Nat.le_of_ble_eq_true rfl) (Nat.le_of_ble_eq_true rfl)) (fun r23 M23 => ?_)
      refine V_callI hX 29 0 0 rfl rfl rfl (Nat.le_of_ble_eq_true rfl) (Nat.le_of_ble_eq_true rfl) (VR_S hX 15 (ct_Mo_more (cx_t hX) K v4 r23 M23) my_Mo_more mt_Mo_more ml_Mo_162 (Nat.le_of_ble_eq_true rfl) (Nat.le_of_ble_eq_true rfl) rfl rfl (Nat.le_of_ble_eq_true rfl) rfl (Nat.le_of_ble_eq_true rfl) (Nat.le_of_ble_eq_true rfl)) (fun r26 M26 => ?_)
      refine V_istore hX 16 31 [(4, .int r26), (0, .ref (kA K 32)), (1, .int v1), (3, .int v3), (5, .int v5)] rfl rfl (Nat.le_of_ble_eq_true rfl) rfl ?_
      refine V_iincL hX 17 34 4 rfl rfl rfl rfl (Nat.le_of_ble_eq_true rfl) (fun x5_31 hx5_31 => ?_)
      refine VV_lc [(5, .int x5_31), (4, .int r26), (0, .ref (kA K 32)), (1, .int v1), (3, .int v3)] rfl ?_
      refine V_goto hX 18 11 rfl (by decide) ?_
      refine VV_sub [2, 3, 4, 1, 0] rfl ?_
      exact ih r26 x5_31 M26
set_option maxRecDepth 20000 in
theorem ct_Mo_highest {l : Launch} (hl : l.stackTraces = false) (K : KT) (v1 : Int32) (v2 : Int32) (v3 : Int32) (M : Mm) : CTp l K y_Mo_highest (Cond.code y_Mo_highest prog_15_method_55_code 6 (some .int)) rvI 2 0 0 [.ref (kA K 32), .int v1, .int v2, .int v3] M (fn_Mo_highest v1 v2 v3 M) := by
  refine CTp_of (L := L_Mo_highest) (lc := [(0, .ref (kA K 32)), (1, .int v1), (2, .int v2), (3, .int v3)]) (by decide +kernel) dec_Mo_highest hl rfl (Nat.le_of_ble_eq_true rfl) (fun X hX => ?_)
  unfold fn_Mo_highest
  refine V_aload_n hX (j := 0) (hj := rfl) 0 1 rfl rfl ?_
  refine V_iload_n hX (j := 1) (hj := rfl) 1 2 rfl rfl ?_
  refine V_iload_n hX (j := 2) (hj := rfl) 2 3 rfl rfl ?_
  refine V_callI hX 6 0 0 rfl rfl rfl (Nat.le_of_ble_eq_true rfl) (Nat.le_of_ble_eq_true rfl) (VR_V hX 3 (ct_Mo_at (cx_t hX) K v1 v2 M) my_Mo_at mi_Mo_at ms_Mo_at ml_Mo_124 (Nat.le_of_ble_eq_true rfl) (Nat.le_of_ble_eq_true rfl) (by decide) (ent_32 K _) rfl rfl rfl (Nat.le_of_ble_eq_true rfl) rfl (Nat.le_of_ble_eq_true rfl) (Nat.le_of_ble_eq_true rfl)) (fun r3 M3 => ?_)
  refine V_istore hX 4 8 [(4, .int r3), (0, .ref (kA K 32)), (1, .int v1), (2, .int v2), (3, .int v3)] rfl rfl (Nat.le_of_ble_eq_true rfl) rfl ?_
  refine V_iload_n hX (j := 3) (hj := rfl) 5 9 rfl rfl ?_
  refine V_istore hX 6 11 [(5, .int v2), (4, .int r3), (0, .ref (kA K 32)), (1, .int v1), (2, .int v2), (3, .int v3)] rfl rfl (Nat.le_of_ble_eq_true rfl) rfl ?_
  refine VV_sub [2, 3, 5, 1, 0] rfl ?_
  exact bt_Mo_highest_11 hX v1 v3 fuel0 r3 v2 M3
set_option maxRecDepth 20000 in
theorem ct_Mo_minimum {l : Launch} (hl : l.stackTraces = false) (K : KT) (v1 : Int32) (v2 : Int32) (v3 : Int32) (M : Mm) : CTp l K y_Mo_minimum (Cond.code y_Mo_minimum prog_15_method_56_code 4 (some .int)) rvI 5 0 0 [.ref (kA K 32), .int v1, .int v2, .int v3] M (fn_Mo_minimum v1 v2 v3 M) := by
  refine CTp_of (L := L_Mo_minimum) (lc := [(0, .ref (kA K 32)), (1, .int v1), (2, .int v2), (3, .int v3)]) (by decide +kernel) dec_Mo_minimum hl rfl (Nat.le_of_ble_eq_true rfl) (fun X hX => ?_)
  unfold fn_Mo_minimum
  refine V_aload_n hX (j := 0) (hj := rfl) 0 1 rfl rfl ?_
  refine V_aload_n hX (j := 0) (hj := rfl) 1 2 rfl rfl ?_
  refine V_iload_n hX (j := 1) (hj := rfl) 2 3 rfl rfl ?_
  refine V_iload_n hX (j := 2) (hj := rfl) 3 4 rfl rfl ?_
  refine V_iload_n hX (j := 3) (hj := rfl) 4 5 rfl rfl ?_
  refine V_callI hX 8 0 0 rfl rfl rfl (Nat.le_of_ble_eq_true rfl) (Nat.le_of_ble_eq_true rfl) (VR_V hX 5 (ct_Mo_isRange (cx_t hX) K v1 v2 v3 M) my_Mo_isRange mi_Mo_isRange ms_Mo_isRange ml_Mo_193 (Nat.le_of_ble_eq_true rfl) (Nat.le_of_ble_eq_true rfl) (by decide) (ent_32 K _) rfl rfl rfl (Nat.le_of_ble_eq_true rfl) rfl (Nat.le_of_ble_eq_true rfl) (Nat.le_of_ble_eq_true rfl)) (fun r5 M5 => ?_)
  refine V_callI hX 11 0 0 rfl rfl rfl (Nat.le_of_ble_eq_true rfl) (Nat.le_of_ble_eq_true rfl) (VR_V hX 6 (ct_Mo_checked (cx_t hX) K r5 M5) my_Mo_checked mi_Mo_checked ms_Mo_checked ml_Mo_189 (Nat.le_of_ble_eq_true rfl) (Nat.le_of_ble_eq_true rfl) (by decide) (ent_32 K _) rfl rfl rfl (Nat.le_of_ble_eq_true rfl) rfl (Nat.le_of_ble_eq_true rfl) (Nat.le_of_ble_eq_true rfl)) (fun r8 M8 => ?_)
  refine V_if_le hX 7 14 18 rfl rfl (by decide) (fun c11 => ?_) (fun c11 => ?_)
  · refine V_aload_n hX (j := 0) (hj := rfl) 10 19 rfl rfl ?_
    refine V_iload_n hX (j := 1) (hj := rfl) 11 20 rfl rfl ?_
    refine V_iload_n hX (j := 2) (hj := rfl) 12 21 rfl rfl ?_
    refine V_iload_n hX (j := 3) (hj := rfl) 13 22 rfl rfl ?_
    refine V_callI hX 25 0 0 rfl rfl rfl (Nat.le_of_ble_eq_true rfl) (Nat.le_of_ble_eq_true rfl) (VR_V hX 14 (ct_Mo_lowest (cx_t hX) K v1 v2 v3 M8) my_Mo_lowest mi_Mo_lowest ms_Mo_lowest ml_Mo_199 (Nat.le_of_ble_eq_true rfl) (Nat.le_of_ble_eq_true rfl) (by decide) (ent_32 K _) rfl rfl rfl (Nat.le_of_ble_eq_true rfl) rfl (Nat.le_of_ble_eq_true rfl) (Nat.le_of_ble_eq_true rfl)) (fun r22 M22 => ?_)
    exact V_iret hX 15 rfl (Nat.le_of_ble_eq_true rfl) (Nat.le_of_ble_eq_true rfl) rfl
  · refine V_iconst hX (v := 0) (hv := by decide) 8 15 rfl rfl ?_
    refine V_goto hX 9 25 rfl (by decide) ?_
    exact V_iret hX 15 rfl (Nat.le_of_ble_eq_true rfl) (Nat.le_of_ble_eq_true rfl) rfl
set_option maxRecDepth 20000 in
theorem ct_Mo_maximum {l : Launch} (hl : l.stackTraces = false) (K : KT) (v1 : Int32) (v2 : Int32) (v3 : Int32) (M : Mm) : CTp l K y_Mo_maximum (Cond.code y_Mo_maximum prog_15_method_57_code 4 (some .int)) rvI 5 0 0 [.ref (kA K 32), .int v1, .int v2, .int v3] M (fn_Mo_maximum v1 v2 v3 M) := by
  refine CTp_of (L := L_Mo_maximum) (lc := [(0, .ref (kA K 32)), (1, .int v1), (2, .int v2), (3, .int v3)]) (by decide +kernel) dec_Mo_maximum hl rfl (Nat.le_of_ble_eq_true rfl) (fun X hX => ?_)
  unfold fn_Mo_maximum
  refine V_aload_n hX (j := 0) (hj := rfl) 0 1 rfl rfl ?_
  refine V_aload_n hX (j := 0) (hj := rfl) 1 2 rfl rfl ?_
  refine V_iload_n hX (j := 1) (hj := rfl) 2 3 rfl rfl ?_
  refine V_iload_n hX (j := 2) (hj := rfl) 3 4 rfl rfl ?_
  refine V_iload_n hX (j := 3) (hj := rfl) 4 5 rfl rfl ?_
  refine V_callI hX 8 0 0 rfl rfl rfl (Nat.le_of_ble_eq_true rfl) (Nat.le_of_ble_eq_true rfl) (VR_V hX 5 (ct_Mo_isRange (cx_t hX) K v1 v2 v3 M) my_Mo_isRange mi_Mo_isRange ms_Mo_isRange ml_Mo_193 (Nat.le_of_ble_eq_true rfl) (Nat.le_of_ble_eq_true rfl) (by decide) (ent_32 K _) rfl rfl rfl (Nat.le_of_ble_eq_true rfl) rfl (Nat.le_of_ble_eq_true rfl) (Nat.le_of_ble_eq_true rfl)) (fun r5 M5 => ?_)
  refine V_callI hX 11 0 0 rfl rfl rfl (Nat.le_of_ble_eq_true rfl) (Nat.le_of_ble_eq_true rfl) (VR_V hX 6 (ct_Mo_checked (cx_t hX) K r5 M5) my_Mo_checked mi_Mo_checked ms_Mo_checked ml_Mo_189 (Nat.le_of_ble_eq_true rfl) (Nat.le_of_ble_eq_true rfl) (by decide) (ent_32 K _) rfl rfl rfl (Nat.le_of_ble_eq_true rfl) rfl (Nat.le_of_ble_eq_true rfl) (Nat.le_of_ble_eq_true rfl)) (fun r8 M8 => ?_)
  refine V_if_le hX 7 14 18 rfl rfl (by decide) (fun c11 => ?_) (fun c11 => ?_)
  · refine V_aload_n hX (j := 0) (hj := rfl) 10 19 rfl rfl ?_
    refine V_iload_n hX (j := 1) (hj := rfl) 11 20 rfl rfl ?_
    refine V_iload_n hX (j := 2) (hj := rfl) 12 21 rfl rfl ?_
    refine V_iload_n hX (j := 3) (hj := rfl) 13 22 rfl rfl ?_
    refine V_callI hX 25 0 0 rfl rfl rfl (Nat.le_of_ble_eq_true rfl) (Nat.le_of_ble_eq_true rfl) (VR_V hX 14 (ct_Mo_highest (cx_t hX) K v1 v2 v3 M8) my_Mo_highest mi_Mo_highest ms_Mo_highest ml_Mo_202 (Nat.le_of_ble_eq_true rfl) (Nat.le_of_ble_eq_true rfl) (by decide) (ent_32 K _) rfl rfl rfl (Nat.le_of_ble_eq_true rfl) rfl (Nat.le_of_ble_eq_true rfl) (Nat.le_of_ble_eq_true rfl)) (fun r22 M22 => ?_)
    exact V_iret hX 15 rfl (Nat.le_of_ble_eq_true rfl) (Nat.le_of_ble_eq_true rfl) rfl
  · refine V_iconst hX (v := 0) (hv := by decide) 8 15 rfl rfl ?_
    refine V_goto hX 9 25 rfl (by decide) ?_
    exact V_iret hX 15 rfl (Nat.le_of_ble_eq_true rfl) (Nat.le_of_ble_eq_true rfl) rfl
set_option maxRecDepth 20000 in
theorem bt_Mo_countAbove_45 {l : Launch} {K : KT} {X : XT} (hX : Cx l K 3 5 0 0 X prog_15_method_58_code "SeriesArchiveModel" (some .int) [] L_Mo_countAbove) (k18 : Int32 → Int32 → Mm → Rs Int32) (v1 : Int32) (v2 : Int32) (v4 : Int32) (hk18 : ∀ (v3 : Int32) (v4 : Int32) M, VV l K 3 5 0 0 rvI X (k18 v3 v4 M) 0 0 M 18 [(0, .ref (kA K 32)), (1, .int v1), (2, .int v2), (3, .int v3), (4, .int v4)] []) (s0 : Int32) (s1 : Int32) (M : Mm) : VV l K 3 5 0 0 rvI X (fn_Mo_countAbove_45 k18 v1 v2 v4 s0 s1 M) 0 0 M 45 [(0, .ref (kA K 32)), (1, .int v1), (2, .int v2), (4, .int v4)] [.int s1, .int s0] := by
  unfold fn_Mo_countAbove_45
  refine V_iadd hX 26 46 rfl rfl ?_
  refine VV_li (fun x3_46 hx3_46 => ?_)
  refine V_istore_n hX 27 47 [(3, .int x3_46), (0, .ref (kA K 32)), (1, .int v1), (2, .int v2), (4, .int v4)] rfl rfl (Nat.le_of_ble_eq_true rfl) rfl ?_
  refine V_iincL hX 28 50 4 rfl rfl rfl rfl (Nat.le_of_ble_eq_true rfl) (fun x4_47 hx4_47 => ?_)
  refine VV_lc [(4, .int x4_47), (3, .int x3_46), (0, .ref (kA K 32)), (1, .int v1), (2, .int v2)] rfl ?_
  refine V_goto hX 29 18 rfl (by decide) ?_
  refine VV_sub [2, 3, 4, 1, 0] rfl ?_
  exact hk18 x3_46 x4_47 M
set_option maxRecDepth 20000 in
theorem bt_Mo_countAbove_18 {l : Launch} {K : KT} {X : XT} (hX : Cx l K 3 5 0 0 X prog_15_method_58_code "SeriesArchiveModel" (some .int) [] L_Mo_countAbove) (v1 : Int32) (v2 : Int32) : ∀ (n : Nat) (v3 : Int32) (v4 : Int32) (M : Mm), VV l K 3 5 0 0 rvI X (fn_Mo_countAbove_18 v1 v2 n v3 v4 M) 0 0 M 18 [(0, .ref (kA K 32)), (1, .int v1), (2, .int v2), (3, .int v3), (4, .int v4)] [] := by
  intro n
  induction n with
  | zero => intro v3 v4 M; exact VV_none
  | succ n ih =>
    intro v3 v4 M
    rw [fn_Mo_countAbove_18]
    refine V_iload hX (j := 4) (hj := rfl) 11 20 rfl rfl ?_
    refine V_aload_n hX (j := 0) (hj := rfl) 12 21 rfl rfl ?_
    refine V_iload_n hX (j := 1) (hj := rfl) 13 22 rfl rfl ?_
    refine V_callI hX 25 0 0 rfl rfl rfl (Nat.le_of_ble_eq_true rfl) (Nat.le_of_ble_eq_true rfl) (VR_V hX 14 (ct_Mo_many (cx_t hX) K v1 M) my_Mo_many mi_Mo_many ms_Mo_many ml_Mo_93 (Nat.le_of_ble_eq_true rfl) (Nat.le_of_ble_eq_true rfl) (by decide) (ent_32 K _) rfl rfl rfl (Nat.le_of_ble_eq_true rfl) rfl (Nat.le_of_ble_eq_true rfl) (Nat.le_of_ble_eq_true rfl)) (fun r22 M22 => ?_)
    refine V_icmp_ge hX 15 28 53 rfl rfl (by decide) (fun c25 => ?_) (fun c25 => ?_)
    · refine V_iload_n hX (j := 3) (hj := rfl) 30 54 rfl rfl ?_
      exact V_iret hX 31 rfl (Nat.le_of_ble_eq_true rfl) (Nat.le_of_ble_eq_true rfl) rfl
    · refine V_iload_n hX (j := 3) (hj := rfl) 16 29 rfl rfl ?_
      refine V_aload_n hX (j := 0) (hj := rfl) 17 30 rfl rfl ?_
      refine V_iload_n hX (j := 1) (hj := rfl) 18 31 rfl rfl ?_
      refine V_iload hX (j := 4) (hj := rfl) 19 33 rfl rfl ?_
      refine V_callI hX 36 0 0 rfl rfl rfl (Nat.le_of_ble_eq_true rfl) (Nat.le_of_ble_eq_true rfl) (VR_V hX 20 (ct_Mo_at (cx_t hX) K v1 v4 M22) my_Mo_at mi_Mo_at ms_Mo_at ml_Mo_124 (Nat.le_of_ble_eq_true rfl) (Nat.le_of_ble_eq_true rfl) (by decide) (ent_32 K _) rfl rfl rfl (Nat.le_of_ble_eq_true rfl) rfl (Nat.le_of_ble_eq_true rfl) (Nat.le_of_ble_eq_true rfl)) (fun r33 M33 => ?_)
      refine V_iload_n hX (j := 2) (hj := rfl) 21 37 rfl rfl ?_
      refine V_icmp_le hX 22 40 44 rfl rfl (by decide) (fun c37 => ?_) (fun c37 => ?_)
      · refine V_iconst hX (v := 0) (hv := by decide) 25 45 rfl rfl ?_
        refine VV_sub [0, 1, 2, 4] rfl ?_
        exact bt_Mo_countAbove_45 hX (fn_Mo_countAbove_18 v1 v2 n) v1 v2 v4 ih v3 0 M33
      · refine V_iconst hX (v := 1) (hv := by decide) 23 41 rfl rfl ?_
        refine V_goto hX 24 45 rfl (by decide) ?_
        refine VV_sub [0, 1, 2, 4] rfl ?_
        exact bt_Mo_countAbove_45 hX (fn_Mo_countAbove_18 v1 v2 n) v1 v2 v4 ih v3 1 M33
set_option maxRecDepth 20000 in
theorem ct_Mo_countAbove {l : Launch} (hl : l.stackTraces = false) (K : KT) (v1 : Int32) (v2 : Int32) (M : Mm) : CTp l K y_Mo_countAbove (Cond.code y_Mo_countAbove prog_15_method_58_code 5 (some .int)) rvI 3 0 0 [.ref (kA K 32), .int v1, .int v2] M (fn_Mo_countAbove v1 v2 M) := by
  refine CTp_of (L := L_Mo_countAbove) (lc := [(0, .ref (kA K 32)), (1, .int v1), (2, .int v2)]) (by decide +kernel) dec_Mo_countAbove hl rfl (Nat.le_of_ble_eq_true rfl) (fun X hX => ?_)
  unfold fn_Mo_countAbove
  refine V_aload_n hX (j := 0) (hj := rfl) 0 1 rfl rfl ?_
  refine V_iload_n hX (j := 1) (hj := rfl) 1 2 rfl rfl ?_
  refine V_callI hX 5 0 0 rfl rfl rfl (Nat.le_of_ble_eq_true rfl) (Nat.le_of_ble_eq_true rfl) (VR_S hX 2 (ct_Mo_isSlot (cx_t hX) K v1 M) my_Mo_isSlot mt_Mo_isSlot ml_Mo_89 (Nat.le_of_ble_eq_true rfl) (Nat.le_of_ble_eq_true rfl) rfl rfl (Nat.le_of_ble_eq_true rfl) rfl (Nat.le_of_ble_eq_true rfl) (Nat.le_of_ble_eq_true rfl)) (fun r2 M2 => ?_)
  refine V_callI hX 8 0 0 rfl rfl rfl (Nat.le_of_ble_eq_true rfl) (Nat.le_of_ble_eq_true rfl) (VR_V hX 3 (ct_Mo_checked (cx_t hX) K r2 M2) my_Mo_checked mi_Mo_checked ms_Mo_checked ml_Mo_189 (Nat.le_of_ble_eq_true rfl) (Nat.le_of_ble_eq_true rfl) (by decide) (ent_32 K _) rfl rfl rfl (Nat.le_of_ble_eq_true rfl) rfl (Nat.le_of_ble_eq_true rfl) (Nat.le_of_ble_eq_true rfl)) (fun r5 M5 => ?_)
  refine V_if_le hX 4 11 13 rfl rfl (by decide) (fun c8 => ?_) (fun c8 => ?_)
  · refine V_iconst hX (v := 0) (hv := by decide) 7 14 rfl rfl ?_
    refine V_istore_n hX 8 15 [(3, .int 0), (0, .ref (kA K 32)), (1, .int v1), (2, .int v2)] rfl rfl (Nat.le_of_ble_eq_true rfl) rfl ?_
    refine V_iconst hX (v := 0) (hv := by decide) 9 16 rfl rfl ?_
    refine V_istore hX 10 18 [(4, .int 0), (3, .int 0), (0, .ref (kA K 32)), (1, .int v1), (2, .int v2)] rfl rfl (Nat.le_of_ble_eq_true rfl) rfl ?_
    refine VV_sub [2, 3, 4, 1, 0] rfl ?_
    exact bt_Mo_countAbove_18 hX v1 v2 fuel0 0 0 M5
  · refine V_iconst hX (v := 0) (hv := by decide) 5 12 rfl rfl ?_
    exact V_iret hX 6 rfl (Nat.le_of_ble_eq_true rfl) (Nat.le_of_ble_eq_true rfl) rfl
set_option maxRecDepth 20000 in
theorem bt_Mo_valueByRank_116 {l : Launch} {K : KT} {X : XT} (hX : Cx l K 3 6 0 0 X prog_15_method_59_code "SeriesArchiveModel" (some .int) [] L_Mo_valueByRank) (k46 : Int32 → Mm → Rs Int32) (k61 : Int32 → Int32 → Mm → Rs Int32) (v1 : Int32) (v2 : Int32) (v3 : Int32) (v5 : Int32) (hk46 : ∀ (v3 : Int32) M, VV l K 3 6 0 0 rvI X (k46 v3 M) 0 0 M 46 [(0, .ref (kA K 32)), (1, .int v1), (2, .int v2), (3, .int v3)] []) (hk61 : ∀ (v4 : Int32) (v5 : Int32) M, VV l K 3 6 0 0 rvI X (k61 v4 v5 M) 0 0 M 61 [(0, .ref (kA K 32)), (1, .int v1), (2, .int v2), (3, .int v3), (4, .int v4), (5, .int v5)] []) (s0 : Int32) (s1 : Int32) (M : Mm) : VV l K 3 6 0 0 rvI X (fn_Mo_valueByRank_116 k46 k61 v1 v2 v3 v5 s0 s1 M) 0 0 M 116 [(0, .ref (kA K 32)), (1, .int v1), (2, .int v2), (3, .int v3), (5, .int v5)] [.int s1, .int s0] := by
  unfold fn_Mo_valueByRank_116
  refine V_iadd hX 65 117 rfl rfl ?_
  refine VV_li (fun x4_117 hx4_117 => ?_)
  refine V_istore hX 66 119 [(4, .int x4_117), (0, .ref (kA K 32)), (1, .int v1), (2, .int v2), (3, .int v3), (5, .int v5)] rfl rfl (Nat.le_of_ble_eq_true rfl) rfl ?_
  refine V_iincL hX 67 122 5 rfl rfl rfl rfl (Nat.le_of_ble_eq_true rfl) (fun x5_119 hx5_119 => ?_)
  refine VV_lc [(5, .int x5_119), (4, .int x4_117), (0, .ref (kA K 32)), (1, .int v1), (2, .int v2), (3, .int v3)] rfl ?_
  refine V_goto hX 68 61 rfl (by decide) ?_
  refine VV_sub [2, 3, 4, 5, 1, 0] rfl ?_
  exact hk61 x4_117 x5_119 M
set_option maxRecDepth 20000 in
theorem bt_Mo_valueByRank_111 {l : Launch} {K : KT} {X : XT} (hX : Cx l K 3 6 0 0 X prog_15_method_59_code "SeriesArchiveModel" (some .int) [] L_Mo_valueByRank) (k46 : Int32 → Mm → Rs Int32) (k61 : Int32 → Int32 → Mm → Rs Int32) (v1 : Int32) (v2 : Int32) (v3 : Int32) (v5 : Int32) (hk46 : ∀ (v3 : Int32) M, VV l K 3 6 0 0 rvI X (k46 v3 M) 0 0 M 46 [(0, .ref (kA K 32)), (1, .int v1), (2, .int v2), (3, .int v3)] []) (hk61 : ∀ (v4 : Int32) (v5 : Int32) M, VV l K 3 6 0 0 rvI X (k61 v4 v5 M) 0 0 M 61 [(0, .ref (kA K 32)), (1, .int v1), (2, .int v2), (3, .int v3), (4, .int v4), (5, .int v5)] []) (s0 : Int32) (M : Mm) : VV l K 3 6 0 0 rvI X (fn_Mo_valueByRank_111 k46 k61 v1 v2 v3 v5 s0 M) 0 0 M 111 [(0, .ref (kA K 32)), (1, .int v1), (2, .int v2), (3, .int v3), (5, .int v5)] [.int s0] := by
  unfold fn_Mo_valueByRank_111
  refine V_iconst hX (v := 1) (hv := by decide) 62 112 rfl rfl ?_
  refine V_goto hX 63 116 rfl (by decide) ?_
  exact bt_Mo_valueByRank_116 hX k46 k61 v1 v2 v3 v5 hk46 hk61 s0 1 M
set_option maxRecDepth 20000 in
theorem bt_Mo_valueByRank_115 {l : Launch} {K : KT} {X : XT} (hX : Cx l K 3 6 0 0 X prog_15_method_59_code "SeriesArchiveModel" (some .int) [] L_Mo_valueByRank) (k46 : Int32 → Mm → Rs Int32) (k61 : Int32 → Int32 → Mm → Rs Int32) (v1 : Int32) (v2 : Int32) (v3 : Int32) (v5 : Int32) (hk46 : ∀ (v3 : Int32) M, VV l K 3 6 0 0 rvI X (k46 v3 M) 0 0 M 46 [(0, .ref (kA K 32)), (1, .int v1), (2, .int v2), (3, .int v3)] []) (hk61 : ∀ (v4 : Int32) (v5 : Int32) M, VV l K 3 6 0 0 rvI X (k61 v4 v5 M) 0 0 M 61 [(0, .ref (kA K 32)), (1, .int v1), (2, .int v2), (3, .int v3), (4, .int v4), (5, .int v5)] []) (s0 : Int32) (M : Mm) : VV l K 3 6 0 0 rvI X (fn_Mo_valueByRank_115 k46 k61 v1 v2 v3 v5 s0 M) 0 0 M 115 [(0, .ref (kA K 32)), (1, .int v1), (2, .int v2), (3, .int v3), (5, .int v5)] [.int s0] := by
  unfold fn_Mo_valueByRank_115
  refine V_iconst hX (v := 0) (hv := by decide) 64 116 rfl rfl ?_
  exact bt_Mo_valueByRank_116 hX k46 k61 v1 v2 v3 v5 hk46 hk61 s0 0 M
set_option maxRecDepth 20000 in
theorem bt_Mo_valueByRank_131 {l : Launch} {K : KT} {X : XT} (hX : Cx l K 3 6 0 0 X prog_15_method_59_code "SeriesArchiveModel" (some .int) [] L_Mo_valueByRank) (v1 : Int32) (v3 : Int32) (M : Mm) : VV l K 3 6 0 0 rvI X (fn_Mo_valueByRank_131 v1 v3 M) 0 0 M 131 [(0, .ref (kA K 32)), (1, .int v1), (3, .int v3)] [] := by
  unfold fn_Mo_valueByRank_131
  refine V_aload_n hX (j := 0) (hj := rfl) 72 132 rfl rfl ?_
  refine V_iload_n hX (j := 1) (hj := rfl) 73 133 rfl rfl ?_
  refine V_iload_n hX (j := 2) (hj := rfl) 74 134 rfl rfl ?_
  refine V_callI hX 137 0 0 rfl rfl rfl (Nat.le_of_ble_eq_true rfl) (Nat.le_of_ble_eq_true rfl) (VR_V hX 75 (ct_Mo_at (cx_t hX) K v1 v3 M) my_Mo_at mi_Mo_at ms_Mo_at ml_Mo_124 (Nat.le_of_ble_eq_true rfl) (Nat.le_of_ble_eq_true rfl) (by decide) (ent_32 K _) rfl rfl rfl (Nat.le_of_ble_eq_true rfl) rfl (Nat.le_of_ble_eq_true rfl) (Nat.le_of_ble_eq_true rfl)) (fun r134 M134 => ?_)
  exact V_iret hX 76 rfl (Nat.le_of_ble_eq_true rfl) (Nat.le_of_ble_eq_true rfl) rfl
set_option maxRecDepth 20000 in
theorem bt_Mo_valueByRank_125 {l : Launch} {K : KT} {X : XT} (hX : Cx l K 3 6 0 0 X prog_15_method_59_code "SeriesArchiveModel" (some .int) [] L_Mo_valueByRank) (k46 : Int32 → Mm → Rs Int32) (v1 : Int32) (v2 : Int32) (v3 : Int32) (v4 : Int32) (hk46 : ∀ (v3 : Int32) M, VV l K 3 6 0 0 rvI X (k46 v3 M) 0 0 M 46 [(0, .ref (kA K 32)), (1, .int v1), (2, .int v2), (3, .int v3)] []) (M : Mm) : VV l K 3 6 0 0 rvI X (fn_Mo_valueByRank_125 k46 v1 v2 v3 v4 M) 0 0 M 125 [(0, .ref (kA K 32)), (1, .int v1), (2, .int v2), (3, .int v3), (4, .int v4)] [] := by
  unfold fn_Mo_valueByRank_125
  refine V_iload hX (j := 4) (hj := rfl) 69 127 rfl rfl ?_
  refine V_iload_n hX (j := 2) (hj := rfl) 70 128 rfl rfl ?_
  refine V_icmp_ne hX 71 131 138 rfl rfl (by decide) (fun c128 => ?_) (fun c128 => ?_)
  · refine V_iincL hX 77 141 3 rfl rfl rfl rfl (Nat.le_of_ble_eq_true rfl) (fun x3_138 hx3_138 => ?_)
    refine VV_lc [(3, .int x3_138), (0, .ref (kA K 32)), (1, .int v1), (2, .int v2), (4, .int v4)] rfl ?_
    refine V_goto hX 78 46 rfl (by decide) ?_
    refine VV_sub [1, 2, 3, 0] rfl ?_
    exact hk46 x3_138 M
  · refine VV_sub [0, 1, 3] rfl ?_
    exact bt_Mo_valueByRank_131 hX v1 v3 M
set_option maxRecDepth 20000 in
theorem bt_Mo_valueByRank_61 {l : Launch} {K : KT} {X : XT} (hX : Cx l K 3 6 0 0 X prog_15_method_59_code "SeriesArchiveModel" (some .int) [] L_Mo_valueByRank) (k46 : Int32 → Mm → Rs Int32) (v1 : Int32) (v2 : Int32) (v3 : Int32) (hk46 : ∀ (v3 : Int32) M, VV l K 3 6 0 0 rvI X (k46 v3 M) 0 0 M 46 [(0, .ref (kA K 32)), (1, .int v1), (2, .int v2), (3, .int v3)] []) : ∀ (n : Nat) (v4 : Int32) (v5 : Int32) (M : Mm), VV l K 3 6 0 0 rvI X (fn_Mo_valueByRank_61 k46 v1 v2 v3 n v4 v5 M) 0 0 M 61 [(0, .ref (kA K 32)), (1, .int v1), (2, .int v2), (3, .int v3), (4, .int v4), (5, .int v5)] [] := by
  intro n
  induction n with
  | zero => intro v4 v5 M; exact VV_none
  | succ n ih =>
    intro v4 v5 M
    rw [fn_Mo_valueByRank_61]
    refine V_iload hX (j := 5) (hj := rfl) 35 63 rfl rfl ?_
    refine V_aload_n hX (j := 0) (hj := rfl) 36 64 rfl rfl ?_
    refine V_iload_n hX (j := 1) (hj := rfl) 37 65 rfl rfl ?_
    refine V_callI hX 68 0 0 rfl rfl rfl (Nat.le_of_ble_eq_true rfl) (Nat.le_of_ble_eq_true rfl) (VR_V hX 38 (ct_Mo_many (cx_t hX) K v1 M) my_Mo_many mi_Mo_many ms_Mo_many ml_Mo_93 (Nat.le_of_ble_eq_true rfl) (Nat.le_of_ble_eq_true rfl) (by decide) (ent_32 K _) rfl rfl rfl (Nat.le_of_ble_eq_true rfl) rfl (Nat.le_of_ble_eq_true rfl) (Nat.le_of_ble_eq_true rfl)) (fun r65 M65 => ?_)
    refine V_icmp_ge hX 39 71 125 rfl rfl (by decide) (fun c68 => ?_) (fun c68 => ?_)
    · refine VV_sub [0, 1, 2, 3, 4] rfl ?_
      exact bt_Mo_valueByRank_125 hX k46 v1 v2 v3 v4 hk46 M65
    · refine V_iload hX (j := 4) (hj := rfl) 40 73 rfl rfl ?_
      refine V_aload_n hX (j := 0) (hj := rfl) 41 74 rfl rfl ?_
      refine V_iload_n hX (j := 1) (hj := rfl) 42 75 rfl rfl ?_
      refine V_iload hX (j := 5) (hj := rfl) 43 77 rfl rfl ?_
      refine V_callI hX 80 0 0 rfl rfl rfl (Nat.le_of_ble_eq_true rfl) (Nat.le_of_ble_eq_true rfl) (VR_V hX 44 (ct_Mo_at (cx_t hX) K v1 v5 M65) my_Mo_at mi_Mo_at ms_Mo_at ml_Mo_124 (Nat.le_of_ble_eq_true rfl) (Nat.le_of_ble_eq_true rfl) (by decide) (ent_32 K _) rfl rfl rfl (Nat.le_of_ble_eq_true rfl) rfl (Nat.le_of_ble_eq_true rfl) (Nat.le_of_ble_eq_true rfl)) (fun r77 M77 => ?_)
      refine V_aload_n hX (j := 0) (hj := rfl) 45 81 rfl rfl ?_
      refine V_iload_n hX (j := 1) (hj := rfl) 46 82 rfl rfl ?_
      refine V_iload_n hX (j := 3) (hj := rfl) 47 83 rfl rfl ?_
      refine V_callI hX 86 0 0 rfl rfl rfl (Nat.le_of_ble_eq_true rfl) (Nat.le_of_ble_eq_true rfl) (VR_V hX 48 (ct_Mo_at (cx_t hX) K v1 v3 M77) my_Mo_at mi_Mo_at ms_Mo_at ml_Mo_124 (Nat.le_of_ble_eq_true rfl) (Nat.le_of_ble_eq_true rfl) (by decide) (ent_32 K _) rfl rfl rfl (Nat.le_of_ble_eq_true rfl) rfl (Nat.le_of_ble_eq_true rfl) (Nat.le_of_ble_eq_true rfl)) (fun r83 M83 => ?_)
      refine V_icmp_lt hX 49 89 111 rfl rfl (by decide) (fun c86 => ?_) (fun c86 => ?_)
      · refine VV_sub [0, 1, 2, 3, 5] rfl ?_
        exact bt_Mo_valueByRank_111 hX k46 (fn_Mo_valueByRank_61 k46 v1 v2 v3 n) v1 v2 v3 v5 hk46 ih v4 M83
      · refine V_aload_n hX (j := 0) (hj := rfl) 50 90 rfl rfl ?_
        refine V_iload_n hX (j := 1) (hj := rfl) 51 91 rfl rfl ?_
        refine V_iload hX (j := 5) (hj := rfl) 52 93 rfl rfl ?_
        refine V_callI hX 96 0 0 rfl rfl rfl (Nat.le_of_ble_eq_true rfl) (Nat.le_of_ble_eq_true rfl) (VR_V hX 53 (ct_Mo_at (cx_t hX) K v1 v5 M83) my_Mo_at mi_Mo_at ms_Mo_at ml_Mo_124 (Nat.le_of_ble_eq_true rfl) (Nat.le_of_ble_eq_true rfl) (by decide) (ent_32 K _) rfl rfl rfl (Nat.le_of_ble_eq_true rfl) rfl (Nat.le_of_ble_eq_true rfl) (Nat.le_of_ble_eq_true rfl)) (fun r93 M93 => ?_)
        refine V_aload_n hX (j := 0) (hj := rfl) 54 97 rfl rfl ?_
        refine V_iload_n hX (j := 1) (hj := rfl) 55 98 rfl rfl ?_
        refine V_iload_n hX (j := 3) (hj := rfl) 56 99 rfl rfl ?_
        refine V_callI hX 102 0 0 rfl rfl rfl (Nat.le_of_ble_eq_true rfl) (Nat.le_of_ble_eq_true rfl) (VR_V hX 57 (ct_Mo_at (cx_t hX) K v1 v3 M93) my_Mo_at mi_Mo_at ms_Mo_at ml_Mo_124 (Nat.le_of_ble_eq_true rfl) (Nat.le_of_ble_eq_true rfl) (by decide) (ent_32 K _) rfl rfl rfl (Nat.le_of_ble_eq_true rfl) rfl (Nat.le_of_ble_eq_true rfl) (Nat.le_of_ble_eq_true rfl)) (fun r99 M99 => ?_)
        refine V_icmp_ne hX 58 105 115 rfl rfl (by decide) (fun c102 => ?_) (fun c102 => ?_)
        · refine VV_sub [0, 1, 2, 3, 5] rfl ?_
          exact bt_Mo_valueByRank_115 hX k46 (fn_Mo_valueByRank_61 k46 v1 v2 v3 n) v1 v2 v3 v5 hk46 ih v4 M99
        · refine V_iload hX (j := 5) (hj := rfl) 59 107 rfl rfl ?_
          refine V_iload_n hX (j := 3) (hj := rfl) 60 108 rfl rfl ?_
          refine V_icmp_ge hX 61 111 115 rfl rfl (by decide) (fun c108 => ?_) (fun c108 => ?_)
          · refine VV_sub [0, 1, 2, 3, 5] rfl ?_
            exact bt_Mo_valueByRank_115 hX k46 (fn_Mo_valueByRank_61 k46 v1 v2 v3 n) v1 v2 v3 v5 hk46 ih v4 M99
          · refine VV_sub [0, 1, 2, 3, 5] rfl ?_
            exact bt_Mo_valueByRank_111 hX k46 (fn_Mo_valueByRank_61 k46 v1 v2 v3 n) v1 v2 v3 v5 hk46 ih v4 M99
set_option maxRecDepth 20000 in
theorem bt_Mo_valueByRank_46 {l : Launch} {K : KT} {X : XT} (hX : Cx l K 3 6 0 0 X prog_15_method_59_code "SeriesArchiveModel" (some .int) [] L_Mo_valueByRank) (v1 : Int32) (v2 : Int32) : ∀ (n : Nat) (v3 : Int32) (M : Mm), VV l K 3 6 0 0 rvI X (fn_Mo_valueByRank_46 v1 v2 n v3 M) 0 0 M 46 [(0, .ref (kA K 32)), (1, .int v1), (2, .int v2), (3, .int v3)] [] := by
  intro n
  induction n with
  | zero => intro v3 M; exact VV_none
  | succ n ih =>
    intro v3 M
    rw [fn_Mo_valueByRank_46]
    refine V_iload_n hX (j := 3) (hj := rfl) 26 47 rfl rfl ?_
    refine V_aload_n hX (j := 0) (hj := rfl) 27 48 rfl rfl ?_
    refine V_iload_n hX (j := 1) (hj := rfl) 28 49 rfl rfl ?_
    refine V_callI hX 52 0 0 rfl rfl rfl (Nat.le_of_ble_eq_true rfl) (Nat.le_of_ble_eq_true rfl) (VR_V hX 29 (ct_Mo_many (cx_t hX) K v1 M) my_Mo_many mi_Mo_many ms_Mo_many ml_Mo_93 (Nat.le_of_ble_eq_true rfl) (Nat.le_of_ble_eq_true rfl) (by decide) (ent_32 K _) rfl rfl rfl (Nat.le_of_ble_eq_true rfl) rfl (Nat.le_of_ble_eq_true rfl) (Nat.le_of_ble_eq_true rfl)) (fun r49 M49 => ?_)
    refine V_icmp_ge hX 30 55 144 rfl rfl (by decide) (fun c52 => ?_) (fun c52 => ?_)
    · refine V_iconst hX (v := 0) (hv := by decide) 79 145 rfl rfl ?_
      exact V_iret hX 80 rfl (Nat.le_of_ble_eq_true rfl) (Nat.le_of_ble_eq_true rfl) rfl
    · refine V_iconst hX (v := 0) (hv := by decide) 31 56 rfl rfl ?_
      refine V_istore hX 32 58 [(4, .int 0), (0, .ref (kA K 32)), (1, .int v1), (2, .int v2), (3, .int v3)] rfl rfl (Nat.le_of_ble_eq_true rfl) rfl ?_
      refine V_iconst hX (v := 0) (hv := by decide) 33 59 rfl rfl ?_
      refine V_istore hX 34 61 [(5, .int 0), (4, .int 0), (0, .ref (kA K 32)), (1, .int v1), (2, .int v2), (3, .int v3)] rfl rfl (Nat.le_of_ble_eq_true rfl) rfl ?_
      refine VV_sub [2, 3, 4, 5, 1, 0] rfl ?_
      exact bt_Mo_valueByRank_61 hX (fn_Mo_valueByRank_46 v1 v2 n) v1 v2 v3 ih fuel0 0 0 M49
set_option maxRecDepth 20000 in
theorem bt_Mo_valueByRank_32 {l : Launch} {K : KT} {X : XT} (hX : Cx l K 3 6 0 0 X prog_15_method_59_code "SeriesArchiveModel" (some .int) [] L_Mo_valueByRank) (v1 : Int32) (v2 : Int32) (s1 : Int32) (M : Mm) : VV l K 3 6 0 0 rvI X (fn_Mo_valueByRank_32 v1 v2 s1 M) 0 0 M 32 [(0, .ref (kA K 32)), (1, .int v1), (2, .int v2)] [.int s1, .ref (kA K 32)] := by
  unfold fn_Mo_valueByRank_32
  refine V_putI hX 18 35 32 fp_Mo_28 (by decide) rfl rfl (by decide) (ent_32 K _) (Nat.le_of_ble_eq_true rfl) (ent_32 K _) (fun M32 hM32 => ?_)
  refine V_aload_n hX (j := 0) (hj := rfl) 19 36 rfl rfl ?_
  refine V_get hX 20 39 32 (.int (M32 32 6)) fl_Mo_28 rfl rfl (by decide) (ent_32 K _) rfl ?_
  refine V_if_le hX 21 42 44 rfl rfl (by decide) (fun c39 => ?_) (fun c39 => ?_)
  · refine V_iconst hX (v := 0) (hv := by decide) 24 45 rfl rfl ?_
    refine V_istore_n hX 25 46 [(3, .int 0), (0, .ref (kA K 32)), (1, .int v1), (2, .int v2)] rfl rfl (Nat.le_of_ble_eq_true rfl) rfl ?_
    refine VV_sub [1, 2, 3, 0] rfl ?_
    exact bt_Mo_valueByRank_46 hX v1 v2 fuel0 0 M32
  · refine V_iconst hX (v := 0) (hv := by decide) 22 43 rfl rfl ?_
    exact V_iret hX 23 rfl (Nat.le_of_ble_eq_true rfl) (Nat.le_of_ble_eq_true rfl) rfl
set_option maxRecDepth 20000 in
theorem ct_Mo_valueByRank {l : Launch} (hl : l.stackTraces = false) (K : KT) (v1 : Int32) (v2 : Int32) (M : Mm) : CTp l K y_Mo_valueByRank (Cond.code y_Mo_valueByRank prog_15_method_59_code 6 (some .int)) rvI 3 0 0 [.ref (kA K 32), .int v1, .int v2] M (fn_Mo_valueByRank v1 v2 M) := by
  refine CTp_of (L := L_Mo_valueByRank) (lc := [(0, .ref (kA K 32)), (1, .int v1), (2, .int v2)]) (by decide +kernel) dec_Mo_valueByRank hl rfl (Nat.le_of_ble_eq_true rfl) (fun X hX => ?_)
  unfold fn_Mo_valueByRank
  refine V_aload_n hX (j := 0) (hj := rfl) 0 1 rfl rfl ?_
  refine V_iload_n hX (j := 1) (hj := rfl) 1 2 rfl rfl ?_
  refine V_callI hX 5 0 0 rfl rfl rfl (Nat.le_of_ble_eq_true rfl) (Nat.le_of_ble_eq_true rfl) (VR_S hX 2 (ct_Mo_isSlot (cx_t hX) K v1 M) my_Mo_isSlot mt_Mo_isSlot ml_Mo_89 (Nat.le_of_ble_eq_true rfl) (Nat.le_of_ble_eq_true rfl) rfl rfl (Nat.le_of_ble_eq_true rfl) rfl (Nat.le_of_ble_eq_true rfl) (Nat.le_of_ble_eq_true rfl)) (fun r2 M2 => ?_)
  refine V_if_ne hX 3 8 12 rfl rfl (by decide) (fun c5 => ?_) (fun c5 => ?_)
  · refine V_iload_n hX (j := 2) (hj := rfl) 6 13 rfl rfl ?_
    refine V_iconst hX (v := 0) (hv := by decide) 7 14 rfl rfl ?_
    refine V_aload_n hX (j := 0) (hj := rfl) 8 15 rfl rfl ?_
    refine V_iload_n hX (j := 1) (hj := rfl) 9 16 rfl rfl ?_
    refine V_callI hX 19 0 0 rfl rfl rfl (Nat.le_of_ble_eq_true rfl) (Nat.le_of_ble_eq_true rfl) (VR_V hX 10 (ct_Mo_many (cx_t hX) K v1 M2) my_Mo_many mi_Mo_many ms_Mo_many ml_Mo_93 (Nat.le_of_ble_eq_true rfl) (Nat.le_of_ble_eq_true rfl) (by decide) (ent_32 K _) rfl rfl rfl (Nat.le_of_ble_eq_true rfl) rfl (Nat.le_of_ble_eq_true rfl) (Nat.le_of_ble_eq_true rfl)) (fun r16 M16 => ?_)
    refine V_iconst hX (v := 1) (hv := by decide) 11 20 rfl rfl ?_
    refine V_isub hX 12 21 rfl rfl ?_
    refine V_callI hX 24 0 0 rfl rfl rfl (Nat.le_of_ble_eq_true rfl) (Nat.le_of_ble_eq_true rfl) (VR_S hX 13 (ct_Mo_in (cx_t hX) K v2 0 (r16 - 1) M16) my_Mo_in mt_Mo_in ml_Mo_85 (Nat.le_of_ble_eq_true rfl) (Nat.le_of_ble_eq_true rfl) rfl rfl (Nat.le_of_ble_eq_true rfl) rfl (Nat.le_of_ble_eq_true rfl) (Nat.le_of_ble_eq_true rfl)) (fun r21 M21 => ?_)
    refine V_if_ne hX 14 27 31 rfl rfl (by decide) (fun c24 => ?_) (fun c24 => ?_)
    · refine V_iconst hX (v := 0) (hv := by decide) 17 32 rfl rfl ?_
      exact bt_Mo_valueByRank_32 hX v1 v2 0 M21
    · refine V_iconst hX (v := 2) (hv := by decide) 15 28 rfl rfl ?_
      refine V_goto hX 16 32 rfl (by decide) ?_
      exact bt_Mo_valueByRank_32 hX v1 v2 2 M21
  · refine V_iconst hX (v := 1) (hv := by decide) 4 9 rfl rfl ?_
    refine V_goto hX 5 32 rfl (by decide) ?_
    exact bt_Mo_valueByRank_32 hX v1 v2 1 M2
set_option maxRecDepth 20000 in
theorem bt_Mo_mean_25 {l : Launch} {K : KT} {X : XT} (hX : Cx l K 3 2 0 0 X prog_15_method_60_code "SeriesArchiveModel" (some .double) [] L_Mo_mean) (v1 : Int32) (s1 : Int32) (M : Mm) : VV l K 3 2 0 0 rvD X (fn_Mo_mean_25 v1 s1 M) 0 0 M 25 [(0, .ref (kA K 32)), (1, .int v1)] [.int s1, .ref (kA K 32)] := by
  unfold fn_Mo_mean_25
  refine V_putI hX 13 28 32 fp_Mo_28 (by decide) rfl rfl (by decide) (ent_32 K _) (Nat.le_of_ble_eq_true rfl) (ent_32 K _) (fun M25 hM25 => ?_)
  refine V_aload_n hX (j := 0) (hj := rfl) 14 29 rfl rfl ?_
  refine V_get hX 15 32 32 (.int (M25 32 6)) fl_Mo_28 rfl rfl (by decide) (ent_32 K _) rfl ?_
  refine V_if_le hX 16 35 39 rfl rfl (by decide) (fun c32 => ?_) (fun c32 => ?_)
  · refine V_aload_n hX (j := 0) (hj := rfl) 19 40 rfl rfl ?_
    refine V_iload_n hX (j := 1) (hj := rfl) 20 41 rfl rfl ?_
    refine V_iconst hX (v := 0) (hv := by decide) 21 42 rfl rfl ?_
    refine V_aload_n hX (j := 0) (hj := rfl) 22 43 rfl rfl ?_
    refine V_iload_n hX (j := 1) (hj := rfl) 23 44 rfl rfl ?_
    refine V_callI hX 47 0 0 rfl rfl rfl (Nat.le_of_ble_eq_true rfl) (Nat.le_of_ble_eq_true rfl) (VR_V hX 24 (ct_Mo_many (cx_t hX) K v1 M25) my_Mo_many mi_Mo_many ms_Mo_many ml_Mo_93 (Nat.le_of_ble_eq_true rfl) (Nat.le_of_ble_eq_true rfl) (by decide) (ent_32 K _) rfl rfl rfl (Nat.le_of_ble_eq_true rfl) rfl (Nat.le_of_ble_eq_true rfl) (Nat.le_of_ble_eq_true rfl)) (fun r44 M44 => ?_)
    refine V_iconst hX (v := 1) (hv := by decide) 25 48 rfl rfl ?_
    refine V_isub hX 26 49 rfl rfl ?_
    refine V_callI hX 52 0 0 rfl rfl rfl (Nat.le_of_ble_eq_true rfl) (Nat.le_of_ble_eq_true rfl) (VR_V hX 27 (ct_Mo_total (cx_t hX) K v1 0 (r44 - 1) M44) my_Mo_total mi_Mo_total ms_Mo_total ml_Mo_153 (Nat.le_of_ble_eq_true rfl) (Nat.le_of_ble_eq_true rfl) (by decide) (ent_32 K _) rfl rfl rfl (Nat.le_of_ble_eq_true rfl) rfl (Nat.le_of_ble_eq_true rfl) (Nat.le_of_ble_eq_true rfl)) (fun r49 M49 => ?_)
    refine V_i2d hX 28 53 rfl rfl ?_
    refine V_aload_n hX (j := 0) (hj := rfl) 29 54 rfl rfl ?_
    refine V_iload_n hX (j := 1) (hj := rfl) 30 55 rfl rfl ?_
    refine V_callI hX 58 0 0 rfl rfl rfl (Nat.le_of_ble_eq_true rfl) (Nat.le_of_ble_eq_true rfl) (VR_V hX 31 (ct_Mo_many (cx_t hX) K v1 M49) my_Mo_many mi_Mo_many ms_Mo_many ml_Mo_93 (Nat.le_of_ble_eq_true rfl) (Nat.le_of_ble_eq_true rfl) (by decide) (ent_32 K _) rfl rfl rfl (Nat.le_of_ble_eq_true rfl) rfl (Nat.le_of_ble_eq_true rfl) (Nat.le_of_ble_eq_true rfl)) (fun r55 M55 => ?_)
    refine V_i2d hX 32 59 rfl rfl ?_
    refine VV_grd (fun hz1 => ?_)
    refine V_ddiv hX (hne := hz1) 33 60 rfl rfl ?_
    exact V_dret hX 34 rfl (Nat.le_of_ble_eq_true rfl) (Nat.le_of_ble_eq_true rfl) rfl
  · refine V_dconst0 hX 17 36 rfl rfl ?_
    refine V_goto hX 18 60 rfl (by decide) ?_
    exact V_dret hX 34 rfl (Nat.le_of_ble_eq_true rfl) (Nat.le_of_ble_eq_true rfl) rfl
set_option maxRecDepth 20000 in
theorem ct_Mo_mean {l : Launch} (hl : l.stackTraces = false) (K : KT) (v1 : Int32) (M : Mm) : CTp l K y_Mo_mean (Cond.code y_Mo_mean prog_15_method_60_code 2 (some .double)) rvD 3 0 0 [.ref (kA K 32), .int v1] M (fn_Mo_mean v1 M) := by
  refine CTp_of (L := L_Mo_mean) (lc := [(0, .ref (kA K 32)), (1, .int v1)]) (by decide +kernel) dec_Mo_mean hl rfl (Nat.le_of_ble_eq_true rfl) (fun X hX => ?_)
  unfold fn_Mo_mean
  refine V_aload_n hX (j := 0) (hj := rfl) 0 1 rfl rfl ?_
  refine V_iload_n hX (j := 1) (hj := rfl) 1 2 rfl rfl ?_
  refine V_callI hX 5 0 0 rfl rfl rfl (Nat.le_of_ble_eq_true rfl) (Nat.le_of_ble_eq_true rfl) (VR_S hX 2 (ct_Mo_isSlot (cx_t hX) K v1 M) my_Mo_isSlot mt_Mo_isSlot ml_Mo_89 (Nat.le_of_ble_eq_true rfl) (Nat.le_of_ble_eq_true rfl) rfl rfl (Nat.le_of_ble_eq_true rfl) rfl (Nat.le_of_ble_eq_true rfl) (Nat.le_of_ble_eq_true rfl)) (fun r2 M2 => ?_)
  refine V_if_ne hX 3 8 12 rfl rfl (by decide) (fun c5 => ?_) (fun c5 => ?_)
  · refine V_aload_n hX (j := 0) (hj := rfl) 6 13 rfl rfl ?_
    refine V_iload_n hX (j := 1) (hj := rfl) 7 14 rfl rfl ?_
    refine V_callI hX 17 0 0 rfl rfl rfl (Nat.le_of_ble_eq_true rfl) (Nat.le_of_ble_eq_true rfl) (VR_V hX 8 (ct_Mo_many (cx_t hX) K v1 M2) my_Mo_many mi_Mo_many ms_Mo_many ml_Mo_93 (Nat.le_of_ble_eq_true rfl) (Nat.le_of_ble_eq_true rfl) (by decide) (ent_32 K _) rfl rfl rfl (Nat.le_of_ble_eq_true rfl) rfl (Nat.le_of_ble_eq_true rfl) (Nat.le_of_ble_eq_true rfl)) (fun r14 M14 => ?_)
    refine V_if_ne hX 9 20 24 rfl rfl (by decide) (fun c17 => ?_) (fun c17 => ?_)
    · refine V_iconst hX (v := 0) (hv := by decide) 12 25 rfl rfl ?_
      exact bt_Mo_mean_25 hX v1 0 M14
    · refine V_iconst hX (v := 2) (hv := by decide) 10 21 rfl rfl ?_
      refine V_goto hX 11 25 rfl (by decide) ?_
      exact bt_Mo_mean_25 hX v1 2 M14
  · refine V_iconst hX (v := 1) (hv := by decide) 4 9 rfl rfl ?_
    refine V_goto hX 5 25 rfl (by decide) ?_
    exact bt_Mo_mean_25 hX v1 1 M2
set_option maxRecDepth 20000 in
theorem bt_Mo_window_43 {l : Launch} {K : KT} {X : XT} (hX : Cx l K 4 4 0 0 X prog_15_method_61_code "SeriesArchiveModel" (some .int) [] L_Mo_window) (v1 : Int32) (v2 : Int32) (v3 : Int32) (s1 : Int32) (M : Mm) : VV l K 4 4 0 0 rvI X (fn_Mo_window_43 v1 v2 v3 s1 M) 0 0 M 43 [(0, .ref (kA K 32)), (1, .int v1), (2, .int v2), (3, .int v3)] [.int s1, .ref (kA K 32)] := by
  unfold fn_Mo_window_43
  refine V_putI hX 25 46 32 fp_Mo_28 (by decide) rfl rfl (by decide) (ent_32 K _) (Nat.le_of_ble_eq_true rfl) (ent_32 K _) (fun M43 hM43 => ?_)
  refine V_aload_n hX (j := 0) (hj := rfl) 26 47 rfl rfl ?_
  refine V_get hX 27 50 32 (.int (M43 32 6)) fl_Mo_28 rfl rfl (by decide) (ent_32 K _) rfl ?_
  refine V_if_le hX 28 53 57 rfl rfl (by decide) (fun c50 => ?_) (fun c50 => ?_)
  · refine V_aload_n hX (j := 0) (hj := rfl) 31 58 rfl rfl ?_
    refine V_iload_n hX (j := 1) (hj := rfl) 32 59 rfl rfl ?_
    refine V_iload_n hX (j := 3) (hj := rfl) 33 60 rfl rfl ?_
    refine V_iload_n hX (j := 2) (hj := rfl) 34 61 rfl rfl ?_
    refine V_isub hX 35 62 rfl rfl ?_
    refine V_iconst hX (v := 1) (hv := by decide) 36 63 rfl rfl ?_
    refine V_iadd hX 37 64 rfl rfl ?_
    refine V_iload_n hX (j := 3) (hj := rfl) 38 65 rfl rfl ?_
    refine V_callI hX 68 0 0 rfl rfl rfl (Nat.le_of_ble_eq_true rfl) (Nat.le_of_ble_eq_true rfl) (VR_V hX 39 (ct_Mo_highest (cx_t hX) K v1 ((v3 - v2) + 1) v3 M43) my_Mo_highest mi_Mo_highest ms_Mo_highest ml_Mo_202 (Nat.le_of_ble_eq_true rfl) (Nat.le_of_ble_eq_true rfl) (by decide) (ent_32 K _) rfl rfl rfl (Nat.le_of_ble_eq_true rfl) rfl (Nat.le_of_ble_eq_true rfl) (Nat.le_of_ble_eq_true rfl)) (fun r65 M65 => ?_)
    exact V_iret hX 40 rfl (Nat.le_of_ble_eq_true rfl) (Nat.le_of_ble_eq_true rfl) rfl
  · refine V_iconst hX (v := 0) (hv := by decide) 29 54 rfl rfl ?_
    refine V_goto hX 30 68 rfl (by decide) ?_
    exact V_iret hX 40 rfl (Nat.le_of_ble_eq_true rfl) (Nat.le_of_ble_eq_true rfl) rfl
set_option maxRecDepth 20000 in
theorem ct_Mo_window {l : Launch} (hl : l.stackTraces = false) (K : KT) (v1 : Int32) (v2 : Int32) (v3 : Int32) (M : Mm) : CTp l K y_Mo_window (Cond.code y_Mo_window prog_15_method_61_code 4 (some .int)) rvI 4 0 0 [.ref (kA K 32), .int v1, .int v2, .int v3] M (fn_Mo_window v1 v2 v3 M) := by
  refine CTp_of (L := L_Mo_window) (lc := [(0, .ref (kA K 32)), (1, .int v1), (2, .int v2), (3, .int v3)]) (by decide +kernel) dec_Mo_window hl rfl (Nat.le_of_ble_eq_true rfl) (fun X hX => ?_)
  unfold fn_Mo_window
  refine V_aload_n hX (j := 0) (hj := rfl) 0 1 rfl rfl ?_
  refine V_aload_n hX (j := 0) (hj := rfl) 1 2 rfl rfl ?_
  refine V_iload_n hX (j := 1) (hj := rfl) 2 3 rfl rfl ?_
  refine V_iload_n hX (j := 3) (hj := rfl) 3 4 rfl rfl ?_
  refine V_callI hX 7 0 0 rfl rfl rfl (Nat.le_of_ble_eq_true rfl) (Nat.le_of_ble_eq_true rfl) (VR_V hX 4 (ct_Mo_isIndex (cx_t hX) K v1 v3 M) my_Mo_isIndex mi_Mo_isIndex ms_Mo_isIndex ml_Mo_120 (Nat.le_of_ble_eq_true rfl) (Nat.le_of_ble_eq_true rfl) (by decide) (ent_32 K _) rfl rfl rfl (Nat.le_of_ble_eq_true rfl) rfl (Nat.le_of_ble_eq_true rfl) (Nat.le_of_ble_eq_true rfl)) (fun r4 M4 => ?_)
  refine V_if_ne hX 5 10 14 rfl rfl (by decide) (fun c7 => ?_) (fun c7 => ?_)
  · refine V_iload_n hX (j := 2) (hj := rfl) 8 15 rfl rfl ?_
    refine V_iconst hX (v := 1) (hv := by decide) 9 16 rfl rfl ?_
    refine V_aload_n hX (j := 0) (hj := rfl) 10 17 rfl rfl ?_
    refine V_iload_n hX (j := 1) (hj := rfl) 11 18 rfl rfl ?_
    refine V_callI hX 21 0 0 rfl rfl rfl (Nat.le_of_ble_eq_true rfl) (Nat.le_of_ble_eq_true rfl) (VR_V hX 12 (ct_Mo_many (cx_t hX) K v1 M4) my_Mo_many mi_Mo_many ms_Mo_many ml_Mo_93 (Nat.le_of_ble_eq_true rfl) (Nat.le_of_ble_eq_true rfl) (by decide) (ent_32 K _) rfl rfl rfl (Nat.le_of_ble_eq_true rfl) rfl (Nat.le_of_ble_eq_true rfl) (Nat.le_of_ble_eq_true rfl)) (fun r18 M18 => ?_)
    refine V_callI hX 24 0 0 rfl rfl rfl (Nat.le_of_ble_eq_true rfl) (Nat.le_of_ble_eq_true rfl) (VR_S hX 13 (ct_Mo_in (cx_t hX) K v2 1 r18 M18) my_Mo_in mt_Mo_in ml_Mo_85 (Nat.le_of_ble_eq_true rfl) (Nat.le_of_ble_eq_true rfl) rfl rfl (Nat.le_of_ble_eq_true rfl) rfl (Nat.le_of_ble_eq_true rfl) (Nat.le_of_ble_eq_true rfl)) (fun r21 M21 => ?_)
    refine V_if_ne hX 14 27 31 rfl rfl (by decide) (fun c24 => ?_) (fun c24 => ?_)
    · refine V_iload_n hX (j := 3) (hj := rfl) 17 32 rfl rfl ?_
      refine V_iload_n hX (j := 2) (hj := rfl) 18 33 rfl rfl ?_
      refine V_iconst hX (v := 1) (hv := by decide) 19 34 rfl rfl ?_
      refine V_isub hX 20 35 rfl rfl ?_
      refine V_icmp_ge hX 21 38 42 rfl rfl (by decide) (fun c35 => ?_) (fun c35 => ?_)
      · refine V_iconst hX (v := 0) (hv := by decide) 24 43 rfl rfl ?_
        exact bt_Mo_window_43 hX v1 v2 v3 0 M21
      · refine V_iconst hX (v := 3) (hv := by decide) 22 39 rfl rfl ?_
        refine V_goto hX 23 43 rfl (by decide) ?_
        exact bt_Mo_window_43 hX v1 v2 v3 3 M21
    · refine V_iconst hX (v := 2) (hv := by decide) 15 28 rfl rfl ?_
      refine V_goto hX 16 43 rfl (by decide) ?_
      exact bt_Mo_window_43 hX v1 v2 v3 2 M21
  · refine V_iconst hX (v := 1) (hv := by decide) 6 11 rfl rfl ?_
    refine V_goto hX 7 43 rfl (by decide) ?_
    exact bt_Mo_window_43 hX v1 v2 v3 1 M4
set_option maxRecDepth 20000 in
theorem ct_Mo_windowMaximum {l : Launch} (hl : l.stackTraces = false) (K : KT) (v1 : Int32) (v2 : Int32) (v3 : Int32) (M : Mm) : CTp l K y_Mo_windowMaximum (Cond.code y_Mo_windowMaximum prog_15_method_62_code 4 (some .int)) rvI 5 0 0 [.ref (kA K 32), .int v1, .int v2, .int v3] M (fn_Mo_windowMaximum v1 v2 v3 M) := by
  refine CTp_of (L := L_Mo_windowMaximum) (lc := [(0, .ref (kA K 32)), (1, .int v1), (2, .int v2), (3, .int v3)]) (by decide +kernel) dec_Mo_windowMaximum hl rfl (Nat.le_of_ble_eq_true rfl) (fun X hX => ?_)
  unfold fn_Mo_windowMaximum
  refine V_aload_n hX (j := 0) (hj := rfl) 0 1 rfl rfl ?_
  refine V_iload_n hX (j := 1) (hj := rfl) 1 2 rfl rfl ?_
  refine V_iload_n hX (j := 2) (hj := rfl) 2 3 rfl rfl ?_
  refine V_iload_n hX (j := 3) (hj := rfl) 3 4 rfl rfl ?_
  refine V_callI hX 7 0 0 rfl rfl rfl (Nat.le_of_ble_eq_true rfl) (Nat.le_of_ble_eq_true rfl) (VR_V hX 4 (ct_Mo_window (cx_t hX) K v1 v2 v3 M) my_Mo_window mi_Mo_window ms_Mo_window ml_Mo_205 (Nat.le_of_ble_eq_true rfl) (Nat.le_of_ble_eq_true rfl) (by decide) (ent_32 K _) rfl rfl rfl (Nat.le_of_ble_eq_true rfl) rfl (Nat.le_of_ble_eq_true rfl) (Nat.le_of_ble_eq_true rfl)) (fun r4 M4 => ?_)
  exact V_iret hX 5 rfl (Nat.le_of_ble_eq_true rfl) (Nat.le_of_ble_eq_true rfl) rfl
set_option maxRecDepth 20000 in
theorem ct_Mo_windowMaximumByScan {l : Launch} (hl : l.stackTraces = false) (K : KT) (v1 : Int32) (v2 : Int32) (v3 : Int32) (M : Mm) : CTp l K y_Mo_windowMaximumByScan (Cond.code y_Mo_windowMaximumByScan prog_15_method_63_code 4 (some .int)) rvI 5 0 0 [.ref (kA K 32), .int v1, .int v2, .int v3] M (fn_Mo_windowMaximumByScan v1 v2 v3 M) := by
  refine CTp_of (L := L_Mo_windowMaximumByScan) (lc := [(0, .ref (kA K 32)), (1, .int v1), (2, .int v2), (3, .int v3)]) (by decide +kernel) dec_Mo_windowMaximumByScan hl rfl (Nat.le_of_ble_eq_true rfl) (fun X hX => ?_)
  unfold fn_Mo_windowMaximumByScan
  refine V_aload_n hX (j := 0) (hj := rfl) 0 1 rfl rfl ?_
  refine V_iload_n hX (j := 1) (hj := rfl) 1 2 rfl rfl ?_
  refine V_iload_n hX (j := 2) (hj := rfl) 2 3 rfl rfl ?_
  refine V_iload_n hX (j := 3) (hj := rfl) 3 4 rfl rfl ?_
  refine V_callI hX 7 0 0 rfl rfl rfl (Nat.le_of_ble_eq_true rfl) (Nat.le_of_ble_eq_true rfl) (VR_V hX 4 (ct_Mo_window (cx_t hX) K v1 v2 v3 M) my_Mo_window mi_Mo_window ms_Mo_window ml_Mo_205 (Nat.le_of_ble_eq_true rfl) (Nat.le_of_ble_eq_true rfl) (by decide) (ent_32 K _) rfl rfl rfl (Nat.le_of_ble_eq_true rfl) rfl (Nat.le_of_ble_eq_true rfl) (Nat.le_of_ble_eq_true rfl)) (fun r4 M4 => ?_)
  exact V_iret hX 5 rfl (Nat.le_of_ble_eq_true rfl) (Nat.le_of_ble_eq_true rfl) rfl
set_option maxRecDepth 20000 in
theorem bt_Mo_later_51 {l : Launch} {K : KT} {X : XT} (hX : Cx l K 4 4 0 0 X prog_15_method_64_code "SeriesArchiveModel" (some .int) [] L_Mo_later) (M : Mm) : VV l K 4 4 0 0 rvI X (fn_Mo_later_51 M) 0 0 M 51 [(0, .ref (kA K 32))] [] := by
  unfold fn_Mo_later_51
  refine V_aload_n hX (j := 0) (hj := rfl) 31 52 rfl rfl ?_
  refine V_iconst hX (v := 2) (hv := by decide) 32 53 rfl rfl ?_
  refine V_callI hX 56 0 0 rfl rfl rfl (Nat.le_of_ble_eq_true rfl) (Nat.le_of_ble_eq_true rfl) (VR_V hX 33 (ct_Mo_fail (cx_t hX) K 2 M) my_Mo_fail mi_Mo_fail ms_Mo_fail ml_Mo_111 (Nat.le_of_ble_eq_true rfl) (Nat.le_of_ble_eq_true rfl) (by decide) (ent_32 K _) rfl rfl rfl (Nat.le_of_ble_eq_true rfl) rfl (Nat.le_of_ble_eq_true rfl) (Nat.le_of_ble_eq_true rfl)) (fun r53 M53 => ?_)
  exact V_iret hX 34 rfl (Nat.le_of_ble_eq_true rfl) (Nat.le_of_ble_eq_true rfl) rfl
set_option maxRecDepth 20000 in
theorem bt_Mo_later_19 {l : Launch} {K : KT} {X : XT} (hX : Cx l K 4 4 0 0 X prog_15_method_64_code "SeriesArchiveModel" (some .int) [] L_Mo_later) (v1 : Int32) (v2 : Int32) : ∀ (n : Nat) (v3 : Int32) (M : Mm), VV l K 4 4 0 0 rvI X (fn_Mo_later_19 v1 v2 n v3 M) 0 0 M 19 [(0, .ref (kA K 32)), (1, .int v1), (2, .int v2), (3, .int v3)] [] := by
  intro n
  induction n with
  | zero => intro v3 M; exact VV_none
  | succ n ih =>
    intro v3 M
    rw [fn_Mo_later_19]
    refine V_iload_n hX (j := 3) (hj := rfl) 13 20 rfl rfl ?_
    refine V_aload_n hX (j := 0) (hj := rfl) 14 21 rfl rfl ?_
    refine V_iload_n hX (j := 1) (hj := rfl) 15 22 rfl rfl ?_
    refine V_callI hX 25 0 0 rfl rfl rfl (Nat.le_of_ble_eq_true rfl) (Nat.le_of_ble_eq_true rfl) (VR_V hX 16 (ct_Mo_many (cx_t hX) K v1 M) my_Mo_many mi_Mo_many ms_Mo_many ml_Mo_93 (Nat.le_of_ble_eq_true rfl) (Nat.le_of_ble_eq_true rfl) (by decide) (ent_32 K _) rfl rfl rfl (Nat.le_of_ble_eq_true rfl) rfl (Nat.le_of_ble_eq_true rfl) (Nat.le_of_ble_eq_true rfl)) (fun r22 M22 => ?_)
    refine V_icmp_ge hX 17 28 51 rfl rfl (by decide) (fun c25 => ?_) (fun c25 => ?_)
    · refine VV_sub [0] rfl ?_
      exact bt_Mo_later_51 hX M22
    · refine V_aload_n hX (j := 0) (hj := rfl) 18 29 rfl rfl ?_
      refine V_iload_n hX (j := 1) (hj := rfl) 19 30 rfl rfl ?_
      refine V_iload_n hX (j := 3) (hj := rfl) 20 31 rfl rfl ?_
      refine V_callI hX 34 0 0 rfl rfl rfl (Nat.le_of_ble_eq_true rfl) (Nat.le_of_ble_eq_true rfl) (VR_V hX 21 (ct_Mo_at (cx_t hX) K v1 v3 M22) my_Mo_at mi_Mo_at ms_Mo_at ml_Mo_124 (Nat.le_of_ble_eq_true rfl) (Nat.le_of_ble_eq_true rfl) (by decide) (ent_32 K _) rfl rfl rfl (Nat.le_of_ble_eq_true rfl) rfl (Nat.le_of_ble_eq_true rfl) (Nat.le_of_ble_eq_true rfl)) (fun r31 M31 => ?_)
      refine V_aload_n hX (j := 0) (hj := rfl) 22 35 rfl rfl ?_
      refine V_iload_n hX (j := 1) (hj := rfl) 23 36 rfl rfl ?_
      refine V_iload_n hX (j := 2) (hj := rfl) 24 37 rfl rfl ?_
      refine V_callI hX 40 0 0 rfl rfl rfl (Nat.le_of_ble_eq_true rfl) (Nat.le_of_ble_eq_true rfl) (VR_V hX 25 (ct_Mo_at (cx_t hX) K v1 v2 M31) my_Mo_at mi_Mo_at ms_Mo_at ml_Mo_124 (Nat.le_of_ble_eq_true rfl) (Nat.le_of_ble_eq_true rfl) (by decide) (ent_32 K _) rfl rfl rfl (Nat.le_of_ble_eq_true rfl) rfl (Nat.le_of_ble_eq_true rfl) (Nat.le_of_ble_eq_true rfl)) (fun r37 M37 => ?_)
      refine V_icmp_le hX 26 43 45 rfl rfl (by decide) (fun c40 => ?_) (fun c40 => ?_)
      · refine V_iincL hX 29 48 3 rfl rfl rfl rfl (Nat.le_of_ble_eq_true rfl) (fun x3_45 hx3_45 => ?_)
        refine VV_lc [(3, .int x3_45), (0, .ref (kA K 32)), (1, .int v1), (2, .int v2)] rfl ?_
        refine V_goto hX 30 19 rfl (by decide) ?_
        refine VV_sub [1, 2, 3, 0] rfl ?_
        exact ih x3_45 M37
      · refine V_iload_n hX (j := 3) (hj := rfl) 27 44 rfl rfl ?_
        exact V_iret hX 28 rfl (Nat.le_of_ble_eq_true rfl) (Nat.le_of_ble_eq_true rfl) rfl
set_option maxRecDepth 20000 in
theorem ct_Mo_later {l : Launch} (hl : l.stackTraces = false) (K : KT) (v1 : Int32) (v2 : Int32) (M : Mm) : CTp l K y_Mo_later (Cond.code y_Mo_later prog_15_method_64_code 4 (some .int)) rvI 4 0 0 [.ref (kA K 32), .int v1, .int v2] M (fn_Mo_later v1 v2 M) := by
  refine CTp_of (L := L_Mo_later) (lc := [(0, .ref (kA K 32)), (1, .int v1), (2, .int v2)]) (by decide +kernel) dec_Mo_later hl rfl (Nat.le_of_ble_eq_true rfl) (fun X hX => ?_)
  unfold fn_Mo_later
  refine V_aload_n hX (j := 0) (hj := rfl) 0 1 rfl rfl ?_
  refine V_aload_n hX (j := 0) (hj := rfl) 1 2 rfl rfl ?_
  refine V_iload_n hX (j := 1) (hj := rfl) 2 3 rfl rfl ?_
  refine V_iload_n hX (j := 2) (hj := rfl) 3 4 rfl rfl ?_
  refine V_callI hX 7 0 0 rfl rfl rfl (Nat.le_of_ble_eq_true rfl) (Nat.le_of_ble_eq_true rfl) (VR_V hX 4 (ct_Mo_isIndex (cx_t hX) K v1 v2 M) my_Mo_isIndex mi_Mo_isIndex ms_Mo_isIndex ml_Mo_120 (Nat.le_of_ble_eq_true rfl) (Nat.le_of_ble_eq_true rfl) (by decide) (ent_32 K _) rfl rfl rfl (Nat.le_of_ble_eq_true rfl) rfl (Nat.le_of_ble_eq_true rfl) (Nat.le_of_ble_eq_true rfl)) (fun r4 M4 => ?_)
  refine V_callI hX 10 0 0 rfl rfl rfl (Nat.le_of_ble_eq_true rfl) (Nat.le_of_ble_eq_true rfl) (VR_V hX 5 (ct_Mo_checked (cx_t hX) K r4 M4) my_Mo_checked mi_Mo_checked ms_Mo_checked ml_Mo_189 (Nat.le_of_ble_eq_true rfl) (Nat.le_of_ble_eq_true rfl) (by decide) (ent_32 K _) rfl rfl rfl (Nat.le_of_ble_eq_true rfl) rfl (Nat.le_of_ble_eq_true rfl) (Nat.le_of_ble_eq_true rfl)) (fun r7 M7 => ?_)
  refine V_if_le hX 6 13 15 rfl rfl (by decide) (fun c10 => ?_) (fun c10 => ?_)
  · refine V_iload_n hX (j := 2) (hj := rfl) 9 16 rfl rfl ?_
    refine V_iconst hX (v := 1) (hv := by decide) 10 17 rfl rfl ?_
    refine V_iadd hX 11 18 rfl rfl ?_
    refine VV_li (fun x3_18 hx3_18 => ?_)
    refine V_istore_n hX 12 19 [(3, .int x3_18), (0, .ref (kA K 32)), (1, .int v1), (2, .int v2)] rfl rfl (Nat.le_of_ble_eq_true rfl) rfl ?_
    refine VV_sub [1, 2, 3, 0] rfl ?_
    exact bt_Mo_later_19 hX v1 v2 fuel0 x3_18 M7
  · refine V_iconst hX (v := 0) (hv := by decide) 7 14 rfl rfl ?_
    exact V_iret hX 8 rfl (Nat.le_of_ble_eq_true rfl) (Nat.le_of_ble_eq_true rfl) rfl
set_option maxRecDepth 20000 in
theorem ct_Mo_nextGreater {l : Launch} (hl : l.stackTraces = false) (K : KT) (v1 : Int32) (v2 : Int32) (M : Mm) : CTp l K y_Mo_nextGreater (Cond.code y_Mo_nextGreater prog_15_method_65_code 3 (some .int)) rvI 5 0 0 [.ref (kA K 32), .int v1, .int v2] M (fn_Mo_nextGreater v1 v2 M) := by
  refine CTp_of (L := L_Mo_nextGreater) (lc := [(0, .ref (kA K 32)), (1, .int v1), (2, .int v2)]) (by decide +kernel) dec_Mo_nextGreater hl rfl (Nat.le_of_ble_eq_true rfl) (fun X hX => ?_)
  unfold fn_Mo_nextGreater
  refine V_aload_n hX (j := 0) (hj := rfl) 0 1 rfl rfl ?_
  refine V_iload_n hX (j := 1) (hj := rfl) 1 2 rfl rfl ?_
  refine V_iload_n hX (j := 2) (hj := rfl) 2 3 rfl rfl ?_
  refine V_callI hX 6 0 0 rfl rfl rfl (Nat.le_of_ble_eq_true rfl) (Nat.le_of_ble_eq_true rfl) (VR_V hX 3 (ct_Mo_later (cx_t hX) K v1 v2 M) my_Mo_later mi_Mo_later ms_Mo_later ml_Mo_208 (Nat.le_of_ble_eq_true rfl) (Nat.le_of_ble_eq_true rfl) (by decide) (ent_32 K _) rfl rfl rfl (Nat.le_of_ble_eq_true rfl) rfl (Nat.le_of_ble_eq_true rfl) (Nat.le_of_ble_eq_true rfl)) (fun r3 M3 => ?_)
  exact V_iret hX 4 rfl (Nat.le_of_ble_eq_true rfl) (Nat.le_of_ble_eq_true rfl) rfl
set_option maxRecDepth 20000 in
theorem ct_Mo_nextGreaterByScan {l : Launch} (hl : l.stackTraces = false) (K : KT) (v1 : Int32) (v2 : Int32) (M : Mm) : CTp l K y_Mo_nextGreaterByScan (Cond.code y_Mo_nextGreaterByScan prog_15_method_66_code 3 (some .int)) rvI 5 0 0 [.ref (kA K 32), .int v1, .int v2] M (fn_Mo_nextGreaterByScan v1 v2 M) := by
  refine CTp_of (L := L_Mo_nextGreaterByScan) (lc := [(0, .ref (kA K 32)), (1, .int v1), (2, .int v2)]) (by decide +kernel) dec_Mo_nextGreaterByScan hl rfl (Nat.le_of_ble_eq_true rfl) (fun X hX => ?_)
  unfold fn_Mo_nextGreaterByScan
  refine V_aload_n hX (j := 0) (hj := rfl) 0 1 rfl rfl ?_
  refine V_iload_n hX (j := 1) (hj := rfl) 1 2 rfl rfl ?_
  refine V_iload_n hX (j := 2) (hj := rfl) 2 3 rfl rfl ?_
  refine V_callI hX 6 0 0 rfl rfl rfl (Nat.le_of_ble_eq_true rfl) (Nat.le_of_ble_eq_true rfl) (VR_V hX 3 (ct_Mo_later (cx_t hX) K v1 v2 M) my_Mo_later mi_Mo_later ms_Mo_later ml_Mo_208 (Nat.le_of_ble_eq_true rfl) (Nat.le_of_ble_eq_true rfl) (by decide) (ent_32 K _) rfl rfl rfl (Nat.le_of_ble_eq_true rfl) rfl (Nat.le_of_ble_eq_true rfl) (Nat.le_of_ble_eq_true rfl)) (fun r3 M3 => ?_)
  exact V_iret hX 4 rfl (Nat.le_of_ble_eq_true rfl) (Nat.le_of_ble_eq_true rfl) rfl
set_option maxRecDepth 20000 in
theorem bt_Mo_peaks_59 {l : Launch} {K : KT} {X : XT} (hX : Cx l K 2 4 0 0 X prog_15_method_67_code "SeriesArchiveModel" (some .boolean) [] L_Mo_peaks) (M : Mm) : VV l K 2 4 0 0 rvI X (fn_Mo_peaks_59 M) 0 0 M 59 [] [] := by
  unfold fn_Mo_peaks_59
  refine V_iconst hX (v := 1) (hv := by decide) 37 60 rfl rfl ?_
  refine V_goto hX 38 64 rfl (by decide) ?_
  exact V_zret hX 40 rfl rfl (Nat.le_of_ble_eq_true rfl) (Nat.le_of_ble_eq_true rfl) rfl
set_option maxRecDepth 20000 in
theorem bt_Mo_peaks_26 {l : Launch} {K : KT} {X : XT} (hX : Cx l K 2 4 0 0 X prog_15_method_67_code "SeriesArchiveModel" (some .boolean) [] L_Mo_peaks) (v1 : Int32) (v2 : Int32) (s0 : Int32) (M : Mm) : VV l K 2 4 0 0 rvI X (fn_Mo_peaks_26 v1 v2 s0 M) 0 0 M 26 [(0, .ref (kA K 32)), (1, .int v1), (2, .int v2)] [.int s0] := by
  unfold fn_Mo_peaks_26
  refine V_istore_n hX 16 27 [(3, .int s0), (0, .ref (kA K 32)), (1, .int v1), (2, .int v2)] rfl rfl (Nat.le_of_ble_eq_true rfl) rfl ?_
  refine V_iload_n hX (j := 0) (hj := rfl) 17 28 rfl rfl ?_
  refine V_if_eq hX 18 31 63 rfl rfl (by decide) (fun c28 => ?_) (fun c28 => ?_)
  · refine V_iconst hX (v := 0) (hv := by decide) 39 64 rfl rfl ?_
    exact V_zret hX 40 rfl rfl (Nat.le_of_ble_eq_true rfl) (Nat.le_of_ble_eq_true rfl) rfl
  · refine V_iload_n hX (j := 3) (hj := rfl) 19 32 rfl rfl ?_
    refine V_aload_n hX (j := 1) (hj := rfl) 20 33 rfl rfl ?_
    refine V_iload_n hX (j := 2) (hj := rfl) 21 34 rfl rfl ?_
    refine V_callI hX 37 0 0 rfl rfl rfl (Nat.le_of_ble_eq_true rfl) (Nat.le_of_ble_eq_true rfl) (VR_V hX 22 (ct_Mo_many (cx_t hX) K v1 M) my_Mo_many mi_Mo_many ms_Mo_many ml_Mo_93 (Nat.le_of_ble_eq_true rfl) (Nat.le_of_ble_eq_true rfl) (by decide) (ent_32 K _) rfl rfl rfl (Nat.le_of_ble_eq_true rfl) rfl (Nat.le_of_ble_eq_true rfl) (Nat.le_of_ble_eq_true rfl)) (fun r34 M34 => ?_)
    refine V_iconst hX (v := 1) (hv := by decide) 23 38 rfl rfl ?_
    refine V_isub hX 24 39 rfl rfl ?_
    refine V_icmp_eq hX 25 42 59 rfl rfl (by decide) (fun c39 => ?_) (fun c39 => ?_)
    · refine VV_sub [] rfl ?_
      exact bt_Mo_peaks_59 hX M34
    · refine V_aload_n hX (j := 1) (hj := rfl) 26 43 rfl rfl ?_
      refine V_iload_n hX (j := 2) (hj := rfl) 27 44 rfl rfl ?_
      refine V_iload_n hX (j := 3) (hj := rfl) 28 45 rfl rfl ?_
      refine V_iconst hX (v := 1) (hv := by decide) 29 46 rfl rfl ?_
      refine V_iadd hX 30 47 rfl rfl ?_
      refine V_callI hX 50 0 0 rfl rfl rfl (Nat.le_of_ble_eq_true rfl) (Nat.le_of_ble_eq_true rfl) (VR_V hX 31 (ct_Mo_at (cx_t hX) K v1 (v2 + 1) M34) my_Mo_at mi_Mo_at ms_Mo_at ml_Mo_124 (Nat.le_of_ble_eq_true rfl) (Nat.le_of_ble_eq_true rfl) (by decide) (ent_32 K _) rfl rfl rfl (Nat.le_of_ble_eq_true rfl) rfl (Nat.le_of_ble_eq_true rfl) (Nat.le_of_ble_eq_true rfl)) (fun r47 M47 => ?_)
      refine V_aload_n hX (j := 1) (hj := rfl) 32 51 rfl rfl ?_
      refine V_iload_n hX (j := 2) (hj := rfl) 33 52 rfl rfl ?_
      refine V_iload_n hX (j := 3) (hj := rfl) 34 53 rfl rfl ?_
      refine V_callI hX 56 0 0 rfl rfl rfl (Nat.le_of_ble_eq_true rfl) (Nat.le_of_ble_eq_true rfl) (VR_V hX 35 (ct_Mo_at (cx_t hX) K v1 v2 M47) my_Mo_at mi_Mo_at ms_Mo_at ml_Mo_124 (Nat.le_of_ble_eq_true rfl) (Nat.le_of_ble_eq_true rfl) (by decide) (ent_32 K _) rfl rfl rfl (Nat.le_of_ble_eq_true rfl) rfl (Nat.le_of_ble_eq_true rfl) (Nat.le_of_ble_eq_true rfl)) (fun r53 M53 => ?_)
      refine V_icmp_ge hX 36 59 63 rfl rfl (by decide) (fun c56 => ?_) (fun c56 => ?_)
      · refine V_iconst hX (v := 0) (hv := by decide) 39 64 rfl rfl ?_
        exact V_zret hX 40 rfl rfl (Nat.le_of_ble_eq_true rfl) (Nat.le_of_ble_eq_true rfl) rfl
      · refine VV_sub [] rfl ?_
        exact bt_Mo_peaks_59 hX M53
set_option maxRecDepth 20000 in
theorem bt_Mo_peaks_21 {l : Launch} {K : KT} {X : XT} (hX : Cx l K 2 4 0 0 X prog_15_method_67_code "SeriesArchiveModel" (some .boolean) [] L_Mo_peaks) (v1 : Int32) (v2 : Int32) (M : Mm) : VV l K 2 4 0 0 rvI X (fn_Mo_peaks_21 v1 v2 M) 0 0 M 21 [(0, .ref (kA K 32)), (1, .int v1), (2, .int v2)] [] := by
  unfold fn_Mo_peaks_21
  refine V_iconst hX (v := 1) (hv := by decide) 13 22 rfl rfl ?_
  refine V_goto hX 14 26 rfl (by decide) ?_
  exact bt_Mo_peaks_26 hX v1 v2 1 M
set_option maxRecDepth 20000 in
theorem ct_Mo_peaks {l : Launch} (hl : l.stackTraces = false) (K : KT) (v1 : Int32) (v2 : Int32) (M : Mm) : CTp l K y_Mo_peaks (Cond.code y_Mo_peaks prog_15_method_67_code 4 (some .boolean)) rvI 2 0 0 [.ref (kA K 32), .int v1, .int v2] M (fn_Mo_peaks v1 v2 M) := by
  refine CTp_of (L := L_Mo_peaks) (lc := [(0, .ref (kA K 32)), (1, .int v1), (2, .int v2)]) (by decide +kernel) dec_Mo_peaks hl rfl (Nat.le_of_ble_eq_true rfl) (fun X hX => ?_)
  unfold fn_Mo_peaks
  refine V_iload_n hX (j := 2) (hj := rfl) 0 1 rfl rfl ?_
  refine V_if_eq hX 1 4 21 rfl rfl (by decide) (fun c1 => ?_) (fun c1 => ?_)
  · exact bt_Mo_peaks_21 hX v1 v2 M
  · refine V_aload_n hX (j := 0) (hj := rfl) 2 5 rfl rfl ?_
    refine V_iload_n hX (j := 1) (hj := rfl) 3 6 rfl rfl ?_
    refine V_iload_n hX (j := 2) (hj := rfl) 4 7 rfl rfl ?_
    refine V_iconst hX (v := 1) (hv := by decide) 5 8 rfl rfl ?_
    refine V_isub hX 6 9 rfl rfl ?_
    refine V_callI hX 12 0 0 rfl rfl rfl (Nat.le_of_ble_eq_true rfl) (Nat.le_of_ble_eq_true rfl) (VR_V hX 7 (ct_Mo_at (cx_t hX) K v1 (v2 - 1) M) my_Mo_at mi_Mo_at ms_Mo_at ml_Mo_124 (Nat.le_of_ble_eq_true rfl) (Nat.le_of_ble_eq_true rfl) (by decide) (ent_32 K _) rfl rfl rfl (Nat.le_of_ble_eq_true rfl) rfl (Nat.le_of_ble_eq_true rfl) (Nat.le_of_ble_eq_true rfl)) (fun r9 M9 => ?_)
    refine V_aload_n hX (j := 0) (hj := rfl) 8 13 rfl rfl ?_
    refine V_iload_n hX (j := 1) (hj := rfl) 9 14 rfl rfl ?_
    refine V_iload_n hX (j := 2) (hj := rfl) 10 15 rfl rfl ?_
    refine V_callI hX 18 0 0 rfl rfl rfl (Nat.le_of_ble_eq_true rfl) (Nat.le_of_ble_eq_true rfl) (VR_V hX 11 (ct_Mo_at (cx_t hX) K v1 v2 M9) my_Mo_at mi_Mo_at ms_Mo_at ml_Mo_124 (Nat.le_of_ble_eq_true rfl) (Nat.le_of_ble_eq_true rfl) (by decide) (ent_32 K _) rfl rfl rfl (Nat.le_of_ble_eq_true rfl) rfl (Nat.le_of_ble_eq_true rfl) (Nat.le_of_ble_eq_true rfl)) (fun r15 M15 => ?_)
    refine V_icmp_ge hX 12 21 25 rfl rfl (by decide) (fun c18 => ?_) (fun c18 => ?_)
    · refine V_iconst hX (v := 0) (hv := by decide) 15 26 rfl rfl ?_
      exact bt_Mo_peaks_26 hX v1 v2 0 M15
    · exact bt_Mo_peaks_21 hX v1 v2 M15
set_option maxRecDepth 20000 in
theorem bt_Mo_peakCount_41 {l : Launch} {K : KT} {X : XT} (hX : Cx l K 3 4 0 0 X prog_15_method_68_code "SeriesArchiveModel" (some .int) [] L_Mo_peakCount) (k17 : Int32 → Int32 → Mm → Rs Int32) (v1 : Int32) (v3 : Int32) (hk17 : ∀ (v2 : Int32) (v3 : Int32) M, VV l K 3 4 0 0 rvI X (k17 v2 v3 M) 0 0 M 17 [(0, .ref (kA K 32)), (1, .int v1), (2, .int v2), (3, .int v3)] []) (s0 : Int32) (s1 : Int32) (M : Mm) : VV l K 3 4 0 0 rvI X (fn_Mo_peakCount_41 k17 v1 v3 s0 s1 M) 0 0 M 41 [(0, .ref (kA K 32)), (1, .int v1), (3, .int v3)] [.int s1, .int s0] := by
  unfold fn_Mo_peakCount_41
  refine V_iadd hX 25 42 rfl rfl ?_
  refine VV_li (fun x2_42 hx2_42 => ?_)
  refine V_istore_n hX 26 43 [(2, .int x2_42), (0, .ref (kA K 32)), (1, .int v1), (3, .int v3)] rfl rfl (Nat.le_of_ble_eq_true rfl) rfl ?_
  refine V_iincL hX 27 46 3 rfl rfl rfl rfl (Nat.le_of_ble_eq_true rfl) (fun x3_43 hx3_43 => ?_)
  refine VV_lc [(3, .int x3_43), (2, .int x2_42), (0, .ref (kA K 32)), (1, .int v1)] rfl ?_
  refine V_goto hX 28 17 rfl (by decide) ?_
  refine VV_sub [2, 3, 1, 0] rfl ?_
  exact hk17 x2_42 x3_43 M
set_option maxRecDepth 20000 in
theorem bt_Mo_peakCount_17 {l : Launch} {K : KT} {X : XT} (hX : Cx l K 3 4 0 0 X prog_15_method_68_code "SeriesArchiveModel" (some .int) [] L_Mo_peakCount) (v1 : Int32) : ∀ (n : Nat) (v2 : Int32) (v3 : Int32) (M : Mm), VV l K 3 4 0 0 rvI X (fn_Mo_peakCount_17 v1 n v2 v3 M) 0 0 M 17 [(0, .ref (kA K 32)), (1, .int v1), (2, .int v2), (3, .int v3)] [] := by
  intro n
  induction n with
  | zero => intro v2 v3 M; exact VV_none
  | succ n ih =>
    intro v2 v3 M
    rw [fn_Mo_peakCount_17]
    refine V_iload_n hX (j := 3) (hj := rfl) 11 18 rfl rfl ?_
    refine V_aload_n hX (j := 0) (hj := rfl) 12 19 rfl rfl ?_
    refine V_iload_n hX (j := 1) (hj := rfl) 13 20 rfl rfl ?_
    refine V_callI hX 23 0 0 rfl rfl rfl (Nat.le_of_ble_eq_true rfl) (Nat.le_of_ble_eq_true rfl) (VR_V hX 14 (ct_Mo_many (cx_t hX) K v1 M) my_Mo_many mi_Mo_many ms_Mo_many ml_Mo_93 (Nat.le_of_ble_eq_true rfl) (Nat.le_of_ble_eq_true rfl) (by decide) (ent_32 K _) rfl rfl rfl (Nat.le_of_ble_eq_true rfl) rfl (Nat.le_of_ble_eq_true rfl) (Nat.le_of_ble_eq_true rfl)) (fun r20 M20 => ?_)
    refine V_icmp_ge hX 15 26 49 rfl rfl (by decide) (fun c23 => ?_) (fun c23 => ?_)
    · refine V_iload_n hX (j := 2) (hj := rfl) 29 50 rfl rfl ?_
      exact V_iret hX 30 rfl (Nat.le_of_ble_eq_true rfl) (Nat.le_of_ble_eq_true rfl) rfl
    · refine V_iload_n hX (j := 2) (hj := rfl) 16 27 rfl rfl ?_
      refine V_aload_n hX (j := 0) (hj := rfl) 17 28 rfl rfl ?_
      refine V_iload_n hX (j := 1) (hj := rfl) 18 29 rfl rfl ?_
      refine V_iload_n hX (j := 3) (hj := rfl) 19 30 rfl rfl ?_
      refine V_callI hX 33 0 0 rfl rfl rfl (Nat.le_of_ble_eq_true rfl) (Nat.le_of_ble_eq_true rfl) (VR_V hX 20 (ct_Mo_peaks (cx_t hX) K v1 v3 M20) my_Mo_peaks mi_Mo_peaks ms_Mo_peaks ml_Mo_211 (Nat.le_of_ble_eq_true rfl) (Nat.le_of_ble_eq_true rfl) (by decide) (ent_32 K _) rfl rfl rfl (Nat.le_of_ble_eq_true rfl) rfl (Nat.le_of_ble_eq_true rfl) (Nat.le_of_ble_eq_true rfl)) (fun r30 M30 => ?_)
      refine V_if_eq hX 21 36 40 rfl rfl (by decide) (fun c33 => ?_) (fun c33 => ?_)
      · refine V_iconst hX (v := 0) (hv := by decide) 24 41 rfl rfl ?_
        refine VV_sub [0, 1, 3] rfl ?_
        exact bt_Mo_peakCount_41 hX (fn_Mo_peakCount_17 v1 n) v1 v3 ih v2 0 M30
      · refine V_iconst hX (v := 1) (hv := by decide) 22 37 rfl rfl ?_
        refine V_goto hX 23 41 rfl (by decide) ?_
        refine VV_sub [0, 1, 3] rfl ?_
        exact bt_Mo_peakCount_41 hX (fn_Mo_peakCount_17 v1 n) v1 v3 ih v2 1 M30
set_option maxRecDepth 20000 in
theorem ct_Mo_peakCount {l : Launch} (hl : l.stackTraces = false) (K : KT) (v1 : Int32) (M : Mm) : CTp l K y_Mo_peakCount (Cond.code y_Mo_peakCount prog_15_method_68_code 4 (some .int)) rvI 3 0 0 [.ref (kA K 32), .int v1] M (fn_Mo_peakCount v1 M) := by
  refine CTp_of (L := L_Mo_peakCount) (lc := [(0, .ref (kA K 32)), (1, .int v1)]) (by decide +kernel) dec_Mo_peakCount hl rfl (Nat.le_of_ble_eq_true rfl) (fun X hX => ?_)
  unfold fn_Mo_peakCount
  refine V_aload_n hX (j := 0) (hj := rfl) 0 1 rfl rfl ?_
  refine V_iload_n hX (j := 1) (hj := rfl) 1 2 rfl rfl ?_
  refine V_callI hX 5 0 0 rfl rfl rfl (Nat.le_of_ble_eq_true rfl) (Nat.le_of_ble_eq_true rfl) (VR_S hX 2 (ct_Mo_isSlot (cx_t hX) K v1 M) my_Mo_isSlot mt_Mo_isSlot ml_Mo_89 (Nat.le_of_ble_eq_true rfl) (Nat.le_of_ble_eq_true rfl) rfl rfl (Nat.le_of_ble_eq_true rfl) rfl (Nat.le_of_ble_eq_true rfl) (Nat.le_of_ble_eq_true rfl)) (fun r2 M2 => ?_)
  refine V_callI hX 8 0 0 rfl rfl rfl (Nat.le_of_ble_eq_true rfl) (Nat.le_of_ble_eq_true rfl) (VR_V hX 3 (ct_Mo_checked (cx_t hX) K r2 M2) my_Mo_checked mi_Mo_checked ms_Mo_checked ml_Mo_189 (Nat.le_of_ble_eq_true rfl) (Nat.le_of_ble_eq_true rfl) (by decide) (ent_32 K _) rfl rfl rfl (Nat.le_of_ble_eq_true rfl) rfl (Nat.le_of_ble_eq_true rfl) (Nat.le_of_ble_eq_true rfl)) (fun r5 M5 => ?_)
  refine V_if_le hX 4 11 13 rfl rfl (by decide) (fun c8 => ?_) (fun c8 => ?_)
  · refine V_iconst hX (v := 0) (hv := by decide) 7 14 rfl rfl ?_
    refine V_istore_n hX 8 15 [(2, .int 0), (0, .ref (kA K 32)), (1, .int v1)] rfl rfl (Nat.le_of_ble_eq_true rfl) rfl ?_
    refine V_iconst hX (v := 0) (hv := by decide) 9 16 rfl rfl ?_
    refine V_istore_n hX 10 17 [(3, .int 0), (2, .int 0), (0, .ref (kA K 32)), (1, .int v1)] rfl rfl (Nat.le_of_ble_eq_true rfl) rfl ?_
    refine VV_sub [2, 3, 1, 0] rfl ?_
    exact bt_Mo_peakCount_17 hX v1 fuel0 0 0 M5
  · refine V_iconst hX (v := 0) (hv := by decide) 5 12 rfl rfl ?_
    exact V_iret hX 6 rfl (Nat.le_of_ble_eq_true rfl) (Nat.le_of_ble_eq_true rfl) rfl
set_option maxRecDepth 20000 in
theorem ct_Mo_isPeak {l : Launch} (hl : l.stackTraces = false) (K : KT) (v1 : Int32) (v2 : Int32) (M : Mm) : CTp l K y_Mo_isPeak (Cond.code y_Mo_isPeak prog_15_method_69_code 3 (some .boolean)) rvI 4 0 0 [.ref (kA K 32), .int v1, .int v2] M (fn_Mo_isPeak v1 v2 M) := by
  refine CTp_of (L := L_Mo_isPeak) (lc := [(0, .ref (kA K 32)), (1, .int v1), (2, .int v2)]) (by decide +kernel) dec_Mo_isPeak hl rfl (Nat.le_of_ble_eq_true rfl) (fun X hX => ?_)
  unfold fn_Mo_isPeak
  refine V_aload_n hX (j := 0) (hj := rfl) 0 1 rfl rfl ?_
  refine V_aload_n hX (j := 0) (hj := rfl) 1 2 rfl rfl ?_
  refine V_iload_n hX (j := 1) (hj := rfl) 2 3 rfl rfl ?_
  refine V_iload_n hX (j := 2) (hj := rfl) 3 4 rfl rfl ?_
  refine V_callI hX 7 0 0 rfl rfl rfl (Nat.le_of_ble_eq_true rfl) (Nat.le_of_ble_eq_true rfl) (VR_V hX 4 (ct_Mo_isIndex (cx_t hX) K v1 v2 M) my_Mo_isIndex mi_Mo_isIndex ms_Mo_isIndex ml_Mo_120 (Nat.le_of_ble_eq_true rfl) (Nat.le_of_ble_eq_true rfl) (by decide) (ent_32 K _) rfl rfl rfl (Nat.le_of_ble_eq_true rfl) rfl (Nat.le_of_ble_eq_true rfl) (Nat.le_of_ble_eq_true rfl)) (fun r4 M4 => ?_)
  refine V_callI hX 10 0 0 rfl rfl rfl (Nat.le_of_ble_eq_true rfl) (Nat.le_of_ble_eq_true rfl) (VR_V hX 5 (ct_Mo_checked (cx_t hX) K r4 M4) my_Mo_checked mi_Mo_checked ms_Mo_checked ml_Mo_189 (Nat.le_of_ble_eq_true rfl) (Nat.le_of_ble_eq_true rfl) (by decide) (ent_32 K _) rfl rfl rfl (Nat.le_of_ble_eq_true rfl) rfl (Nat.le_of_ble_eq_true rfl) (Nat.le_of_ble_eq_true rfl)) (fun r7 M7 => ?_)
  refine V_if_ne hX 6 13 26 rfl rfl (by decide) (fun c10 => ?_) (fun c10 => ?_)
  · refine V_iconst hX (v := 0) (hv := by decide) 14 27 rfl rfl ?_
    exact V_zret hX 15 rfl rfl (Nat.le_of_ble_eq_true rfl) (Nat.le_of_ble_eq_true rfl) rfl
  · refine V_aload_n hX (j := 0) (hj := rfl) 7 14 rfl rfl ?_
    refine V_iload_n hX (j := 1) (hj := rfl) 8 15 rfl rfl ?_
    refine V_iload_n hX (j := 2) (hj := rfl) 9 16 rfl rfl ?_
    refine V_callI hX 19 0 0 rfl rfl rfl (Nat.le_of_ble_eq_true rfl) (Nat.le_of_ble_eq_true rfl) (VR_V hX 10 (ct_Mo_peaks (cx_t hX) K v1 v2 M7) my_Mo_peaks mi_Mo_peaks ms_Mo_peaks ml_Mo_211 (Nat.le_of_ble_eq_true rfl) (Nat.le_of_ble_eq_true rfl) (by decide) (ent_32 K _) rfl rfl rfl (Nat.le_of_ble_eq_true rfl) rfl (Nat.le_of_ble_eq_true rfl) (Nat.le_of_ble_eq_true rfl)) (fun r16 M16 => ?_)
    refine V_if_eq hX 11 22 26 rfl rfl (by decide) (fun c19 => ?_) (fun c19 => ?_)
    · refine V_iconst hX (v := 0) (hv := by decide) 14 27 rfl rfl ?_
      exact V_zret hX 15 rfl rfl (Nat.le_of_ble_eq_true rfl) (Nat.le_of_ble_eq_true rfl) rfl
    · refine V_iconst hX (v := 1) (hv := by decide) 12 23 rfl rfl ?_
      refine V_goto hX 13 27 rfl (by decide) ?_
      exact V_zret hX 15 rfl rfl (Nat.le_of_ble_eq_true rfl) (Nat.le_of_ble_eq_true rfl) rfl
set_option maxRecDepth 20000 in
theorem bt_Mo_pit_63 {l : Launch} {K : KT} {X : XT} (hX : Cx l K 2 6 0 0 X prog_15_method_70_code "SeriesArchiveModel" (some .int) [] L_Mo_pit) (v4 : Int32) (M : Mm) : VV l K 2 6 0 0 rvI X (fn_Mo_pit_63 v4 M) 0 0 M 63 [(4, .int v4)] [] := by
  unfold fn_Mo_pit_63
  refine V_iload hX (j := 0) (hj := rfl) 34 65 rfl rfl ?_
  refine V_ldcI hX 35 67 co_Mo_214 rfl rfl ?_
  refine V_icmp_ne hX 36 70 75 rfl rfl (by decide) (fun c67 => ?_) (fun c67 => ?_)
  · refine V_iload hX (j := 0) (hj := rfl) 39 77 rfl rfl ?_
    exact V_iret hX 40 rfl (Nat.le_of_ble_eq_true rfl) (Nat.le_of_ble_eq_true rfl) rfl
  · refine V_ldcI hX 37 72 co_Mo_215 rfl rfl ?_
    refine V_goto hX 38 77 rfl (by decide) ?_
    exact V_iret hX 40 rfl (Nat.le_of_ble_eq_true rfl) (Nat.le_of_ble_eq_true rfl) rfl
set_option maxRecDepth 20000 in
theorem bt_Mo_pit_9 {l : Launch} {K : KT} {X : XT} (hX : Cx l K 2 6 0 0 X prog_15_method_70_code "SeriesArchiveModel" (some .int) [] L_Mo_pit) (v1 : Int32) (v2 : Int32) (v3 : Int32) : ∀ (n : Nat) (v4 : Int32) (v5 : Int32) (M : Mm), VV l K 2 6 0 0 rvI X (fn_Mo_pit_9 v1 v2 v3 n v4 v5 M) 0 0 M 9 [(0, .ref (kA K 32)), (1, .int v1), (2, .int v2), (3, .int v3), (4, .int v4), (5, .int v5)] [] := by
  intro n
  induction n with
  | zero => intro v4 v5 M; exact VV_none
  | succ n ih =>
    intro v4 v5 M
    rw [fn_Mo_pit_9]
    refine V_iload hX (j := 5) (hj := rfl) 6 11 rfl rfl ?_
    refine V_if_lt hX 7 14 63 rfl rfl (by decide) (fun c11 => ?_) (fun c11 => ?_)
    · refine VV_sub [4] rfl ?_
      exact bt_Mo_pit_63 hX v4 M
    · refine V_iload hX (j := 5) (hj := rfl) 8 16 rfl rfl ?_
      refine V_aload_n hX (j := 0) (hj := rfl) 9 17 rfl rfl ?_
      refine V_iload_n hX (j := 1) (hj := rfl) 10 18 rfl rfl ?_
      refine V_callI hX 21 0 0 rfl rfl rfl (Nat.le_of_ble_eq_true rfl) (Nat.le_of_ble_eq_true rfl) (VR_V hX 11 (ct_Mo_many (cx_t hX) K v1 M) my_Mo_many mi_Mo_many ms_Mo_many ml_Mo_93 (Nat.le_of_ble_eq_true rfl) (Nat.le_of_ble_eq_true rfl) (by decide) (ent_32 K _) rfl rfl rfl (Nat.le_of_ble_eq_true rfl) rfl (Nat.le_of_ble_eq_true rfl) (Nat.le_of_ble_eq_true rfl)) (fun r18 M18 => ?_)
      refine V_icmp_ge hX 12 24 63 rfl rfl (by decide) (fun c21 => ?_) (fun c21 => ?_)
      · refine VV_sub [4] rfl ?_
        exact bt_Mo_pit_63 hX v4 M18
      · refine V_aload_n hX (j := 0) (hj := rfl) 13 25 rfl rfl ?_
        refine V_iload_n hX (j := 1) (hj := rfl) 14 26 rfl rfl ?_
        refine V_iload hX (j := 5) (hj := rfl) 15 28 rfl rfl ?_
        refine V_callI hX 31 0 0 rfl rfl rfl (Nat.le_of_ble_eq_true rfl) (Nat.le_of_ble_eq_true rfl) (VR_V hX 16 (ct_Mo_at (cx_t hX) K v1 v5 M18) my_Mo_at mi_Mo_at ms_Mo_at ml_Mo_124 (Nat.le_of_ble_eq_true rfl) (Nat.le_of_ble_eq_true rfl) (by decide) (ent_32 K _) rfl rfl rfl (Nat.le_of_ble_eq_true rfl) rfl (Nat.le_of_ble_eq_true rfl) (Nat.le_of_ble_eq_true rfl)) (fun r28 M28 => ?_)
        refine V_aload_n hX (j := 0) (hj := rfl) 17 32 rfl rfl ?_
        refine V_iload_n hX (j := 1) (hj := rfl) 18 33 rfl rfl ?_
        refine V_iload_n hX (j := 2) (hj := rfl) 19 34 rfl rfl ?_
        refine V_callI hX 37 0 0 rfl rfl rfl (Nat.le_of_ble_eq_true rfl) (Nat.le_of_ble_eq_true rfl) (VR_V hX 20 (ct_Mo_at (cx_t hX) K v1 v2 M28) my_Mo_at mi_Mo_at ms_Mo_at ml_Mo_124 (Nat.le_of_ble_eq_true rfl) (Nat.le_of_ble_eq_true rfl) (by decide) (ent_32 K _) rfl rfl rfl (Nat.le_of_ble_eq_true rfl) rfl (Nat.le_of_ble_eq_true rfl) (Nat.le_of_ble_eq_true rfl)) (fun r34 M34 => ?_)
        refine V_icmp_gt hX 21 40 63 rfl rfl (by decide) (fun c37 => ?_) (fun c37 => ?_)
        · refine VV_sub [4] rfl ?_
          exact bt_Mo_pit_63 hX v4 M34
        · refine V_iload hX (j := 4) (hj := rfl) 22 42 rfl rfl ?_
          refine V_aload_n hX (j := 0) (hj := rfl) 23 43 rfl rfl ?_
          refine V_iload_n hX (j := 1) (hj := rfl) 24 44 rfl rfl ?_
          refine V_iload hX (j := 5) (hj := rfl) 25 46 rfl rfl ?_
          refine V_callI hX 49 0 0 rfl rfl rfl (Nat.le_of_ble_eq_true rfl) (Nat.le_of_ble_eq_true rfl) (VR_V hX 26 (ct_Mo_at (cx_t hX) K v1 v5 M34) my_Mo_at mi_Mo_at ms_Mo_at ml_Mo_124 (Nat.le_of_ble_eq_true rfl) (Nat.le_of_ble_eq_true rfl) (by decide) (ent_32 K _) rfl rfl rfl (Nat.le_of_ble_eq_true rfl) rfl (Nat.le_of_ble_eq_true rfl) (Nat.le_of_ble_eq_true rfl)) (fun r46 M46 => ?_)
          refine V_callI hX 52 0 0 rfl rfl rfl (Nat.le_of_ble_eq_true rfl) (Nat.le_of_ble_eq_true rfl) (VR_S hX 27 (ct_Mo_less (cx_t hX) K v4 r46 M46) my_Mo_less mt_Mo_less ml_Mo_165 (Nat.le_of_ble_eq_true rfl) (Nat.le_of_ble_eq_true rfl) rfl rfl (Nat.le_of_ble_eq_true rfl) rfl (Nat.le_of_ble_eq_true rfl) (Nat.le_of_ble_eq_true rfl)) (fun r49 M49 => ?_)
          refine V_istore hX 28 54 [(4, .int r49), (0, .ref (kA K 32)), (1, .int v1), (2, .int v2), (3, .int v3), (5, .int v5)] rfl rfl (Nat.le_of_ble_eq_true rfl) rfl ?_
          refine V_iload hX (j := 5) (hj := rfl) 29 56 rfl rfl ?_
          refine V_iload_n hX (j := 4) (hj := rfl) 30 57 rfl rfl ?_
          refine V_iadd hX 31 58 rfl rfl ?_
          refine VV_li (fun x5_58 hx5_58 => ?_)
          refine V_istore hX 32 60 [(5, .int x5_58), (4, .int r49), (0, .ref (kA K 32)), (1, .int v1), (2, .int v2), (3, .int v3)] rfl rfl (Nat.le_of_ble_eq_true rfl) rfl ?_
          refine V_goto hX 33 9 rfl (by decide) ?_
          refine VV_sub [2, 3, 4, 5, 1, 0] rfl ?_
          exact ih r49 x5_58 M49
set_option maxRecDepth 20000 in
theorem ct_Mo_pit {l : Launch} (hl : l.stackTraces = false) (K : KT) (v1 : Int32) (v2 : Int32) (v3 : Int32) (M : Mm) : CTp l K y_Mo_pit (Cond.code y_Mo_pit prog_15_method_70_code 6 (some .int)) rvI 2 0 0 [.ref (kA K 32), .int v1, .int v2, .int v3] M (fn_Mo_pit v1 v2 v3 M) := by
  refine CTp_of (L := L_Mo_pit) (lc := [(0, .ref (kA K 32)), (1, .int v1), (2, .int v2), (3, .int v3)]) (by decide +kernel) dec_Mo_pit hl rfl (Nat.le_of_ble_eq_true rfl) (fun X hX => ?_)
  unfold fn_Mo_pit
  refine V_ldcI hX 0 2 co_Mo_214 rfl rfl ?_
  refine V_istore hX 1 4 [(4, .int 1000000000), (0, .ref (kA K 32)), (1, .int v1), (2, .int v2), (3, .int v3)] rfl rfl (Nat.le_of_ble_eq_true rfl) rfl ?_
  refine V_iload_n hX (j := 3) (hj := rfl) 2 5 rfl rfl ?_
  refine V_iload_n hX (j := 4) (hj := rfl) 3 6 rfl rfl ?_
  refine V_iadd hX 4 7 rfl rfl ?_
  refine VV_li (fun x5_7 hx5_7 => ?_)
  refine V_istore hX 5 9 [(5, .int x5_7), (4, .int 1000000000), (0, .ref (kA K 32)), (1, .int v1), (2, .int v2), (3, .int v3)] rfl rfl (Nat.le_of_ble_eq_true rfl) rfl ?_
  refine VV_sub [2, 3, 4, 5, 1, 0] rfl ?_
  exact bt_Mo_pit_9 hX v1 v2 v3 fuel0 1000000000 x5_7 M
set_option maxRecDepth 20000 in
theorem ct_Mo_rise {l : Launch} (hl : l.stackTraces = false) (K : KT) (v1 : Int32) (v2 : Int32) (M : Mm) : CTp l K y_Mo_rise (Cond.code y_Mo_rise prog_15_method_71_code 3 (some .int)) rvI 3 0 0 [.ref (kA K 32), .int v1, .int v2] M (fn_Mo_rise v1 v2 M) := by
  refine CTp_of (L := L_Mo_rise) (lc := [(0, .ref (kA K 32)), (1, .int v1), (2, .int v2)]) (by decide +kernel) dec_Mo_rise hl rfl (Nat.le_of_ble_eq_true rfl) (fun X hX => ?_)
  unfold fn_Mo_rise
  refine V_aload_n hX (j := 0) (hj := rfl) 0 1 rfl rfl ?_
  refine V_iload_n hX (j := 1) (hj := rfl) 1 2 rfl rfl ?_
  refine V_callI hX 5 0 0 rfl rfl rfl (Nat.le_of_ble_eq_true rfl) (Nat.le_of_ble_eq_true rfl) (VR_V hX 2 (ct_Mo_many (cx_t hX) K v1 M) my_Mo_many mi_Mo_many ms_Mo_many ml_Mo_93 (Nat.le_of_ble_eq_true rfl) (Nat.le_of_ble_eq_true rfl) (by decide) (ent_32 K _) rfl rfl rfl (Nat.le_of_ble_eq_true rfl) rfl (Nat.le_of_ble_eq_true rfl) (Nat.le_of_ble_eq_true rfl)) (fun r2 M2 => ?_)
  refine V_iconst hX (v := 1) (hv := by decide) 3 6 rfl rfl ?_
  refine V_icmp_ne hX 4 9 11 rfl rfl (by decide) (fun c6 => ?_) (fun c6 => ?_)
  · refine V_aload_n hX (j := 0) (hj := rfl) 7 12 rfl rfl ?_
    refine V_iload_n hX (j := 1) (hj := rfl) 8 13 rfl rfl ?_
    refine V_iload_n hX (j := 2) (hj := rfl) 9 14 rfl rfl ?_
    refine V_callI hX 17 0 0 rfl rfl rfl (Nat.le_of_ble_eq_true rfl) (Nat.le_of_ble_eq_true rfl) (VR_V hX 10 (ct_Mo_at (cx_t hX) K v1 v2 M2) my_Mo_at mi_Mo_at ms_Mo_at ml_Mo_124 (Nat.le_of_ble_eq_true rfl) (Nat.le_of_ble_eq_true rfl) (by decide) (ent_32 K _) rfl rfl rfl (Nat.le_of_ble_eq_true rfl) rfl (Nat.le_of_ble_eq_true rfl) (Nat.le_of_ble_eq_true rfl)) (fun r14 M14 => ?_)
    refine V_aload_n hX (j := 0) (hj := rfl) 11 18 rfl rfl ?_
    refine V_iload_n hX (j := 1) (hj := rfl) 12 19 rfl rfl ?_
    refine V_iload_n hX (j := 2) (hj := rfl) 13 20 rfl rfl ?_
    refine V_iconst hX (v := (-1)) (hv := by decide) 14 21 rfl rfl ?_
    refine V_callI hX 24 0 0 rfl rfl rfl (Nat.le_of_ble_eq_true rfl) (Nat.le_of_ble_eq_true rfl) (VR_V hX 15 (ct_Mo_pit (cx_t hX) K v1 v2 (-1) M14) my_Mo_pit mi_Mo_pit ms_Mo_pit ml_Mo_216 (Nat.le_of_ble_eq_true rfl) (Nat.le_of_ble_eq_true rfl) (by decide) (ent_32 K _) rfl rfl rfl (Nat.le_of_ble_eq_true rfl) rfl (Nat.le_of_ble_eq_true rfl) (Nat.le_of_ble_eq_true rfl)) (fun r21 M21 => ?_)
    refine V_aload_n hX (j := 0) (hj := rfl) 16 25 rfl rfl ?_
    refine V_iload_n hX (j := 1) (hj := rfl) 17 26 rfl rfl ?_
    refine V_iload_n hX (j := 2) (hj := rfl) 18 27 rfl rfl ?_
    refine V_iconst hX (v := 1) (hv := by decide) 19 28 rfl rfl ?_
    refine V_callI hX 31 0 0 rfl rfl rfl (Nat.le_of_ble_eq_true rfl) (Nat.le_of_ble_eq_true rfl) (VR_V hX 20 (ct_Mo_pit (cx_t hX) K v1 v2 1 M21) my_Mo_pit mi_Mo_pit ms_Mo_pit ml_Mo_216 (Nat.le_of_ble_eq_true rfl) (Nat.le_of_ble_eq_true rfl) (by decide) (ent_32 K _) rfl rfl rfl (Nat.le_of_ble_eq_true rfl) rfl (Nat.le_of_ble_eq_true rfl) (Nat.le_of_ble_eq_true rfl)) (fun r28 M28 => ?_)
    refine V_callI hX 34 0 0 rfl rfl rfl (Nat.le_of_ble_eq_true rfl) (Nat.le_of_ble_eq_true rfl) (VR_S hX 21 (ct_Mo_more (cx_t hX) K r21 r28 M28) my_Mo_more mt_Mo_more ml_Mo_162 (Nat.le_of_ble_eq_true rfl) (Nat.le_of_ble_eq_true rfl) rfl rfl (Nat.le_of_ble_eq_true rfl) rfl (Nat.le_of_ble_eq_true rfl) (Nat.le_of_ble_eq_true rfl)) (fun r31 M31 => ?_)
    refine V_isub hX 22 35 rfl rfl ?_
    exact V_iret hX 23 rfl (Nat.le_of_ble_eq_true rfl) (Nat.le_of_ble_eq_true rfl) rfl
  · refine V_iconst hX (v := 0) (hv := by decide) 5 10 rfl rfl ?_
    exact V_iret hX 6 rfl (Nat.le_of_ble_eq_true rfl) (Nat.le_of_ble_eq_true rfl) rfl
set_option maxRecDepth 20000 in
theorem bt_Mo_standing_28 {l : Launch} {K : KT} {X : XT} (hX : Cx l K 4 3 0 0 X prog_15_method_72_code "SeriesArchiveModel" (some .int) [] L_Mo_standing) (v1 : Int32) (v2 : Int32) (s1 : Int32) (M : Mm) : VV l K 4 3 0 0 rvI X (fn_Mo_standing_28 v1 v2 s1 M) 0 0 M 28 [(0, .ref (kA K 32)), (1, .int v1), (2, .int v2)] [.int s1, .ref (kA K 32)] := by
  unfold fn_Mo_standing_28
  refine V_putI hX 16 31 32 fp_Mo_28 (by decide) rfl rfl (by decide) (ent_32 K _) (Nat.le_of_ble_eq_true rfl) (ent_32 K _) (fun M28 hM28 => ?_)
  refine V_aload_n hX (j := 0) (hj := rfl) 17 32 rfl rfl ?_
  refine V_get hX 18 35 32 (.int (M28 32 6)) fl_Mo_28 rfl rfl (by decide) (ent_32 K _) rfl ?_
  refine V_if_le hX 19 38 42 rfl rfl (by decide) (fun c35 => ?_) (fun c35 => ?_)
  · refine V_aload_n hX (j := 0) (hj := rfl) 22 43 rfl rfl ?_
    refine V_iload_n hX (j := 1) (hj := rfl) 23 44 rfl rfl ?_
    refine V_iload_n hX (j := 2) (hj := rfl) 24 45 rfl rfl ?_
    refine V_callI hX 48 0 0 rfl rfl rfl (Nat.le_of_ble_eq_true rfl) (Nat.le_of_ble_eq_true rfl) (VR_V hX 25 (ct_Mo_rise (cx_t hX) K v1 v2 M28) my_Mo_rise mi_Mo_rise ms_Mo_rise ml_Mo_219 (Nat.le_of_ble_eq_true rfl) (Nat.le_of_ble_eq_true rfl) (by decide) (ent_32 K _) rfl rfl rfl (Nat.le_of_ble_eq_true rfl) rfl (Nat.le_of_ble_eq_true rfl) (Nat.le_of_ble_eq_true rfl)) (fun r45 M45 => ?_)
    exact V_iret hX 26 rfl (Nat.le_of_ble_eq_true rfl) (Nat.le_of_ble_eq_true rfl) rfl
  · refine V_iconst hX (v := 0) (hv := by decide) 20 39 rfl rfl ?_
    refine V_goto hX 21 48 rfl (by decide) ?_
    exact V_iret hX 26 rfl (Nat.le_of_ble_eq_true rfl) (Nat.le_of_ble_eq_true rfl) rfl
set_option maxRecDepth 20000 in
theorem ct_Mo_standing {l : Launch} (hl : l.stackTraces = false) (K : KT) (v1 : Int32) (v2 : Int32) (M : Mm) : CTp l K y_Mo_standing (Cond.code y_Mo_standing prog_15_method_72_code 3 (some .int)) rvI 4 0 0 [.ref (kA K 32), .int v1, .int v2] M (fn_Mo_standing v1 v2 M) := by
  refine CTp_of (L := L_Mo_standing) (lc := [(0, .ref (kA K 32)), (1, .int v1), (2, .int v2)]) (by decide +kernel) dec_Mo_standing hl rfl (Nat.le_of_ble_eq_true rfl) (fun X hX => ?_)
  unfold fn_Mo_standing
  refine V_aload_n hX (j := 0) (hj := rfl) 0 1 rfl rfl ?_
  refine V_aload_n hX (j := 0) (hj := rfl) 1 2 rfl rfl ?_
  refine V_iload_n hX (j := 1) (hj := rfl) 2 3 rfl rfl ?_
  refine V_iload_n hX (j := 2) (hj := rfl) 3 4 rfl rfl ?_
  refine V_callI hX 7 0 0 rfl rfl rfl (Nat.le_of_ble_eq_true rfl) (Nat.le_of_ble_eq_true rfl) (VR_V hX 4 (ct_Mo_isIndex (cx_t hX) K v1 v2 M) my_Mo_isIndex mi_Mo_isIndex ms_Mo_isIndex ml_Mo_120 (Nat.le_of_ble_eq_true rfl) (Nat.le_of_ble_eq_true rfl) (by decide) (ent_32 K _) rfl rfl rfl (Nat.le_of_ble_eq_true rfl) rfl (Nat.le_of_ble_eq_true rfl) (Nat.le_of_ble_eq_true rfl)) (fun r4 M4 => ?_)
  refine V_if_ne hX 5 10 14 rfl rfl (by decide) (fun c7 => ?_) (fun c7 => ?_)
  · refine V_aload_n hX (j := 0) (hj := rfl) 8 15 rfl rfl ?_
    refine V_iload_n hX (j := 1) (hj := rfl) 9 16 rfl rfl ?_
    refine V_iload_n hX (j := 2) (hj := rfl) 10 17 rfl rfl ?_
    refine V_callI hX 20 0 0 rfl rfl rfl (Nat.le_of_ble_eq_true rfl) (Nat.le_of_ble_eq_true rfl) (VR_V hX 11 (ct_Mo_peaks (cx_t hX) K v1 v2 M4) my_Mo_peaks mi_Mo_peaks ms_Mo_peaks ml_Mo_211 (Nat.le_of_ble_eq_true rfl) (Nat.le_of_ble_eq_true rfl) (by decide) (ent_32 K _) rfl rfl rfl (Nat.le_of_ble_eq_true rfl) rfl (Nat.le_of_ble_eq_true rfl) (Nat.le_of_ble_eq_true rfl)) (fun r17 M17 => ?_)
    refine V_if_ne hX 12 23 27 rfl rfl (by decide) (fun c20 => ?_) (fun c20 => ?_)
    · refine V_iconst hX (v := 0) (hv := by decide) 15 28 rfl rfl ?_
      exact bt_Mo_standing_28 hX v1 v2 0 M17
    · refine V_iconst hX (v := 2) (hv := by decide) 13 24 rfl rfl ?_
      refine V_goto hX 14 28 rfl (by decide) ?_
      exact bt_Mo_standing_28 hX v1 v2 2 M17
  · refine V_iconst hX (v := 1) (hv := by decide) 6 11 rfl rfl ?_
    refine V_goto hX 7 28 rfl (by decide) ?_
    exact bt_Mo_standing_28 hX v1 v2 1 M4
set_option maxRecDepth 20000 in
theorem ct_Mo_prominence {l : Launch} (hl : l.stackTraces = false) (K : KT) (v1 : Int32) (v2 : Int32) (M : Mm) : CTp l K y_Mo_prominence (Cond.code y_Mo_prominence prog_15_method_73_code 3 (some .int)) rvI 5 0 0 [.ref (kA K 32), .int v1, .int v2] M (fn_Mo_prominence v1 v2 M) := by
  refine CTp_of (L := L_Mo_prominence) (lc := [(0, .ref (kA K 32)), (1, .int v1), (2, .int v2)]) (by decide +kernel) dec_Mo_prominence hl rfl (Nat.le_of_ble_eq_true rfl) (fun X hX => ?_)
  unfold fn_Mo_prominence
  refine V_aload_n hX (j := 0) (hj := rfl) 0 1 rfl rfl ?_
  refine V_iload_n hX (j := 1) (hj := rfl) 1 2 rfl rfl ?_
  refine V_iload_n hX (j := 2) (hj := rfl) 2 3 rfl rfl ?_
  refine V_callI hX 6 0 0 rfl rfl rfl (Nat.le_of_ble_eq_true rfl) (Nat.le_of_ble_eq_true rfl) (VR_V hX 3 (ct_Mo_standing (cx_t hX) K v1 v2 M) my_Mo_standing mi_Mo_standing ms_Mo_standing ml_Mo_222 (Nat.le_of_ble_eq_true rfl) (Nat.le_of_ble_eq_true rfl) (by decide) (ent_32 K _) rfl rfl rfl (Nat.le_of_ble_eq_true rfl) rfl (Nat.le_of_ble_eq_true rfl) (Nat.le_of_ble_eq_true rfl)) (fun r3 M3 => ?_)
  exact V_iret hX 4 rfl (Nat.le_of_ble_eq_true rfl) (Nat.le_of_ble_eq_true rfl) rfl
set_option maxRecDepth 20000 in
theorem ct_Mo_prominenceByLevels {l : Launch} (hl : l.stackTraces = false) (K : KT) (v1 : Int32) (v2 : Int32) (M : Mm) : CTp l K y_Mo_prominenceByLevels (Cond.code y_Mo_prominenceByLevels prog_15_method_74_code 3 (some .int)) rvI 5 0 0 [.ref (kA K 32), .int v1, .int v2] M (fn_Mo_prominenceByLevels v1 v2 M) := by
  refine CTp_of (L := L_Mo_prominenceByLevels) (lc := [(0, .ref (kA K 32)), (1, .int v1), (2, .int v2)]) (by decide +kernel) dec_Mo_prominenceByLevels hl rfl (Nat.le_of_ble_eq_true rfl) (fun X hX => ?_)
  unfold fn_Mo_prominenceByLevels
  refine V_aload_n hX (j := 0) (hj := rfl) 0 1 rfl rfl ?_
  refine V_iload_n hX (j := 1) (hj := rfl) 1 2 rfl rfl ?_
  refine V_iload_n hX (j := 2) (hj := rfl) 2 3 rfl rfl ?_
  refine V_callI hX 6 0 0 rfl rfl rfl (Nat.le_of_ble_eq_true rfl) (Nat.le_of_ble_eq_true rfl) (VR_V hX 3 (ct_Mo_standing (cx_t hX) K v1 v2 M) my_Mo_standing mi_Mo_standing ms_Mo_standing ml_Mo_222 (Nat.le_of_ble_eq_true rfl) (Nat.le_of_ble_eq_true rfl) (by decide) (ent_32 K _) rfl rfl rfl (Nat.le_of_ble_eq_true rfl) rfl (Nat.le_of_ble_eq_true rfl) (Nat.le_of_ble_eq_true rfl)) (fun r3 M3 => ?_)
  exact V_iret hX 4 rfl (Nat.le_of_ble_eq_true rfl) (Nat.le_of_ble_eq_true rfl) rfl
set_option maxRecDepth 20000 in
theorem bt_Mo_peakByProminence_124 {l : Launch} {K : KT} {X : XT} (hX : Cx l K 4 6 0 0 X prog_15_method_75_code "SeriesArchiveModel" (some .int) [] L_Mo_peakByProminence) (k15 : Int32 → Mm → Rs Int32) (v1 : Int32) (v2 : Int32) (v3 : Int32) (hk15 : ∀ (v3 : Int32) M, VV l K 4 6 0 0 rvI X (k15 v3 M) 0 0 M 15 [(0, .ref (kA K 32)), (1, .int v1), (2, .int v2), (3, .int v3)] []) (M : Mm) : VV l K 4 6 0 0 rvI X (fn_Mo_peakByProminence_124 k15 v1 v2 v3 M) 0 0 M 124 [(0, .ref (kA K 32)), (1, .int v1), (2, .int v2), (3, .int v3)] [] := by
  unfold fn_Mo_peakByProminence_124
  refine V_iincL hX 68 127 3 rfl rfl rfl rfl (Nat.le_of_ble_eq_true rfl) (fun x3_124 hx3_124 => ?_)
  refine VV_lc [(3, .int x3_124), (0, .ref (kA K 32)), (1, .int v1), (2, .int v2)] rfl ?_
  refine V_goto hX 69 15 rfl (by decide) ?_
  refine VV_sub [1, 2, 3, 0] rfl ?_
  exact hk15 x3_124 M
set_option maxRecDepth 20000 in
theorem bt_Mo_peakByProminence_107 {l : Launch} {K : KT} {X : XT} (hX : Cx l K 4 6 0 0 X prog_15_method_75_code "SeriesArchiveModel" (some .int) [] L_Mo_peakByProminence) (k15 : Int32 → Mm → Rs Int32) (k42 : Int32 → Int32 → Mm → Rs Int32) (v1 : Int32) (v2 : Int32) (v3 : Int32) (v5 : Int32) (hk15 : ∀ (v3 : Int32) M, VV l K 4 6 0 0 rvI X (k15 v3 M) 0 0 M 15 [(0, .ref (kA K 32)), (1, .int v1), (2, .int v2), (3, .int v3)] []) (hk42 : ∀ (v4 : Int32) (v5 : Int32) M, VV l K 4 6 0 0 rvI X (k42 v4 v5 M) 0 0 M 42 [(0, .ref (kA K 32)), (1, .int v1), (2, .int v2), (3, .int v3), (4, .int v4), (5, .int v5)] []) (s0 : Int32) (s1 : Int32) (M : Mm) : VV l K 4 6 0 0 rvI X (fn_Mo_peakByProminence_107 k15 k42 v1 v2 v3 v5 s0 s1 M) 0 0 M 107 [(0, .ref (kA K 32)), (1, .int v1), (2, .int v2), (3, .int v3), (5, .int v5)] [.int s1, .int s0] := by
  unfold fn_Mo_peakByProminence_107
  refine V_iadd hX 59 108 rfl rfl ?_
  refine VV_li (fun x4_108 hx4_108 => ?_)
  refine V_istore hX 60 110 [(4, .int x4_108), (0, .ref (kA K 32)), (1, .int v1), (2, .int v2), (3, .int v3), (5, .int v5)] rfl rfl (Nat.le_of_ble_eq_true rfl) rfl ?_
  refine V_iincL hX 61 113 5 rfl rfl rfl rfl (Nat.le_of_ble_eq_true rfl) (fun x5_110 hx5_110 => ?_)
  refine VV_lc [(5, .int x5_110), (4, .int x4_108), (0, .ref (kA K 32)), (1, .int v1), (2, .int v2), (3, .int v3)] rfl ?_
  refine V_goto hX 62 42 rfl (by decide) ?_
  refine VV_sub [2, 3, 4, 5, 1, 0] rfl ?_
  exact hk42 x4_108 x5_110 M
set_option maxRecDepth 20000 in
theorem bt_Mo_peakByProminence_102 {l : Launch} {K : KT} {X : XT} (hX : Cx l K 4 6 0 0 X prog_15_method_75_code "SeriesArchiveModel" (some .int) [] L_Mo_peakByProminence) (k15 : Int32 → Mm → Rs Int32) (k42 : Int32 → Int32 → Mm → Rs Int32) (v1 : Int32) (v2 : Int32) (v3 : Int32) (v5 : Int32) (hk15 : ∀ (v3 : Int32) M, VV l K 4 6 0 0 rvI X (k15 v3 M) 0 0 M 15 [(0, .ref (kA K 32)), (1, .int v1), (2, .int v2), (3, .int v3)] []) (hk42 : ∀ (v4 : Int32) (v5 : Int32) M, VV l K 4 6 0 0 rvI X (k42 v4 v5 M) 0 0 M 42 [(0, .ref (kA K 32)), (1, .int v1), (2, .int v2), (3, .int v3), (4, .int v4), (5, .int v5)] []) (s0 : Int32) (M : Mm) : VV l K 4 6 0 0 rvI X (fn_Mo_peakByProminence_102 k15 k42 v1 v2 v3 v5 s0 M) 0 0 M 102 [(0, .ref (kA K 32)), (1, .int v1), (2, .int v2), (3, .int v3), (5, .int v5)] [.int s0] := by
  unfold fn_Mo_peakByProminence_102
  refine V_iconst hX (v := 1) (hv := by decide) 56 103 rfl rfl ?_
  refine V_goto hX 57 107 rfl (by decide) ?_
  exact bt_Mo_peakByProminence_107 hX k15 k42 v1 v2 v3 v5 hk15 hk42 s0 1 M
set_option maxRecDepth 20000 in
theorem bt_Mo_peakByProminence_106 {l : Launch} {K : KT} {X : XT} (hX : Cx l K 4 6 0 0 X prog_15_method_75_code "SeriesArchiveModel" (some .int) [] L_Mo_peakByProminence) (k15 : Int32 → Mm → Rs Int32) (k42 : Int32 → Int32 → Mm → Rs Int32) (v1 : Int32) (v2 : Int32) (v3 : Int32) (v5 : Int32) (hk15 : ∀ (v3 : Int32) M, VV l K 4 6 0 0 rvI X (k15 v3 M) 0 0 M 15 [(0, .ref (kA K 32)), (1, .int v1), (2, .int v2), (3, .int v3)] []) (hk42 : ∀ (v4 : Int32) (v5 : Int32) M, VV l K 4 6 0 0 rvI X (k42 v4 v5 M) 0 0 M 42 [(0, .ref (kA K 32)), (1, .int v1), (2, .int v2), (3, .int v3), (4, .int v4), (5, .int v5)] []) (s0 : Int32) (M : Mm) : VV l K 4 6 0 0 rvI X (fn_Mo_peakByProminence_106 k15 k42 v1 v2 v3 v5 s0 M) 0 0 M 106 [(0, .ref (kA K 32)), (1, .int v1), (2, .int v2), (3, .int v3), (5, .int v5)] [.int s0] := by
  unfold fn_Mo_peakByProminence_106
  refine V_iconst hX (v := 0) (hv := by decide) 58 107 rfl rfl ?_
  exact bt_Mo_peakByProminence_107 hX k15 k42 v1 v2 v3 v5 hk15 hk42 s0 0 M
set_option maxRecDepth 20000 in
theorem bt_Mo_peakByProminence_116 {l : Launch} {K : KT} {X : XT} (hX : Cx l K 4 6 0 0 X prog_15_method_75_code "SeriesArchiveModel" (some .int) [] L_Mo_peakByProminence) (k15 : Int32 → Mm → Rs Int32) (v1 : Int32) (v2 : Int32) (v3 : Int32) (v4 : Int32) (hk15 : ∀ (v3 : Int32) M, VV l K 4 6 0 0 rvI X (k15 v3 M) 0 0 M 15 [(0, .ref (kA K 32)), (1, .int v1), (2, .int v2), (3, .int v3)] []) (M : Mm) : VV l K 4 6 0 0 rvI X (fn_Mo_peakByProminence_116 k15 v1 v2 v3 v4 M) 0 0 M 116 [(0, .ref (kA K 32)), (1, .int v1), (2, .int v2), (3, .int v3), (4, .int v4)] [] := by
  unfold fn_Mo_peakByProminence_116
  refine V_iload hX (j := 4) (hj := rfl) 63 118 rfl rfl ?_
  refine V_iload_n hX (j := 2) (hj := rfl) 64 119 rfl rfl ?_
  refine V_icmp_ne hX 65 122 124 rfl rfl (by decide) (fun c119 => ?_) (fun c119 => ?_)
  · refine VV_sub [0, 1, 2, 3] rfl ?_
    exact bt_Mo_peakByProminence_124 hX k15 v1 v2 v3 hk15 M
  · refine V_iload_n hX (j := 3) (hj := rfl) 66 123 rfl rfl ?_
    exact V_iret hX 67 rfl (Nat.le_of_ble_eq_true rfl) (Nat.le_of_ble_eq_true rfl) rfl
set_option maxRecDepth 20000 in
theorem bt_Mo_peakByProminence_42 {l : Launch} {K : KT} {X : XT} (hX : Cx l K 4 6 0 0 X prog_15_method_75_code "SeriesArchiveModel" (some .int) [] L_Mo_peakByProminence) (k15 : Int32 → Mm → Rs Int32) (v1 : Int32) (v2 : Int32) (v3 : Int32) (hk15 : ∀ (v3 : Int32) M, VV l K 4 6 0 0 rvI X (k15 v3 M) 0 0 M 15 [(0, .ref (kA K 32)), (1, .int v1), (2, .int v2), (3, .int v3)] []) : ∀ (n : Nat) (v4 : Int32) (v5 : Int32) (M : Mm), VV l K 4 6 0 0 rvI X (fn_Mo_peakByProminence_42 k15 v1 v2 v3 n v4 v5 M) 0 0 M 42 [(0, .ref (kA K 32)), (1, .int v1), (2, .int v2), (3, .int v3), (4, .int v4), (5, .int v5)] [] := by
  intro n
  induction n with
  | zero => intro v4 v5 M; exact VV_none
  | succ n ih =>
    intro v4 v5 M
    rw [fn_Mo_peakByProminence_42]
    refine V_iload hX (j := 5) (hj := rfl) 24 44 rfl rfl ?_
    refine V_aload_n hX (j := 0) (hj := rfl) 25 45 rfl rfl ?_
    refine V_iload_n hX (j := 1) (hj := rfl) 26 46 rfl rfl ?_
    refine V_callI hX 49 0 0 rfl rfl rfl (Nat.le_of_ble_eq_true rfl) (Nat.le_of_ble_eq_true rfl) (VR_V hX 27 (ct_Mo_many (cx_t hX) K v1 M) my_Mo_many mi_Mo_many ms_Mo_many ml_Mo_93 (Nat.le_of_ble_eq_true rfl) (Nat.le_of_ble_eq_true rfl) (by decide) (ent_32 K _) rfl rfl rfl (Nat.le_of_ble_eq_true rfl) rfl (Nat.le_of_ble_eq_true rfl) (Nat.le_of_ble_eq_true rfl)) (fun r46 M46 => ?_)
    refine V_icmp_ge hX 28 52 116 rfl rfl (by decide) (fun c49 => ?_) (fun c49 => ?_)
    · refine VV_sub [0, 1, 2, 3, 4] rfl ?_
      exact bt_Mo_peakByProminence_116 hX k15 v1 v2 v3 v4 hk15 M46
    · refine V_iload hX (j := 4) (hj := rfl) 29 54 rfl rfl ?_
      refine V_aload_n hX (j := 0) (hj := rfl) 30 55 rfl rfl ?_
      refine V_iload_n hX (j := 1) (hj := rfl) 31 56 rfl rfl ?_
      refine V_iload hX (j := 5) (hj := rfl) 32 58 rfl rfl ?_
      refine V_callI hX 61 0 0 rfl rfl rfl (Nat.le_of_ble_eq_true rfl) (Nat.le_of_ble_eq_true rfl) (VR_V hX 33 (ct_Mo_peaks (cx_t hX) K v1 v5 M46) my_Mo_peaks mi_Mo_peaks ms_Mo_peaks ml_Mo_211 (Nat.le_of_ble_eq_true rfl) (Nat.le_of_ble_eq_true rfl) (by decide) (ent_32 K _) rfl rfl rfl (Nat.le_of_ble_eq_true rfl) rfl (Nat.le_of_ble_eq_true rfl) (Nat.le_of_ble_eq_true rfl)) (fun r58 M58 => ?_)
      refine V_if_eq hX 34 64 106 rfl rfl (by decide) (fun c61 => ?_) (fun c61 => ?_)
      · refine VV_sub [0, 1, 2, 3, 5] rfl ?_
        exact bt_Mo_peakByProminence_106 hX k15 (fn_Mo_peakByProminence_42 k15 v1 v2 v3 n) v1 v2 v3 v5 hk15 ih v4 M58
      · refine V_aload_n hX (j := 0) (hj := rfl) 35 65 rfl rfl ?_
        refine V_iload_n hX (j := 1) (hj := rfl) 36 66 rfl rfl ?_
        refine V_iload hX (j := 5) (hj := rfl) 37 68 rfl rfl ?_
        refine V_callI hX 71 0 0 rfl rfl rfl (Nat.le_of_ble_eq_true rfl) (Nat.le_of_ble_eq_true rfl) (VR_V hX 38 (ct_Mo_rise (cx_t hX) K v1 v5 M58) my_Mo_rise mi_Mo_rise ms_Mo_rise ml_Mo_219 (Nat.le_of_ble_eq_true rfl) (Nat.le_of_ble_eq_true rfl) (by decide) (ent_32 K _) rfl rfl rfl (Nat.le_of_ble_eq_true rfl) rfl (Nat.le_of_ble_eq_true rfl) (Nat.le_of_ble_eq_true rfl)) (fun r68 M68 => ?_)
        refine V_aload_n hX (j := 0) (hj := rfl) 39 72 rfl rfl ?_
        refine V_iload_n hX (j := 1) (hj := rfl) 40 73 rfl rfl ?_
        refine V_iload_n hX (j := 3) (hj := rfl) 41 74 rfl rfl ?_
        refine V_callI hX 77 0 0 rfl rfl rfl (Nat.le_of_ble_eq_true rfl) (Nat.le_of_ble_eq_true rfl) (VR_V hX 42 (ct_Mo_rise (cx_t hX) K v1 v3 M68) my_Mo_rise mi_Mo_rise ms_Mo_rise ml_Mo_219 (Nat.le_of_ble_eq_true rfl) (Nat.le_of_ble_eq_true rfl) (by decide) (ent_32 K _) rfl rfl rfl (Nat.le_of_ble_eq_true rfl) rfl (Nat.le_of_ble_eq_true rfl) (Nat.le_of_ble_eq_true rfl)) (fun r74 M74 => ?_)
        refine V_icmp_gt hX 43 80 102 rfl rfl (by decide) (fun c77 => ?_) (fun c77 => ?_)
        · refine VV_sub [0, 1, 2, 3, 5] rfl ?_
          exact bt_Mo_peakByProminence_102 hX k15 (fn_Mo_peakByProminence_42 k15 v1 v2 v3 n) v1 v2 v3 v5 hk15 ih v4 M74
        · refine V_aload_n hX (j := 0) (hj := rfl) 44 81 rfl rfl ?_
          refine V_iload_n hX (j := 1) (hj := rfl) 45 82 rfl rfl ?_
          refine V_iload hX (j := 5) (hj := rfl) 46 84 rfl rfl ?_
          refine V_callI hX 87 0 0 rfl rfl rfl (Nat.le_of_ble_eq_true rfl) (Nat.le_of_ble_eq_true rfl) (VR_V hX 47 (ct_Mo_rise (cx_t hX) K v1 v5 M74) my_Mo_rise mi_Mo_rise ms_Mo_rise ml_Mo_219 (Nat.le_of_ble_eq_true rfl) (Nat.le_of_ble_eq_true rfl) (by decide) (ent_32 K _) rfl rfl rfl (Nat.le_of_ble_eq_true rfl) rfl (Nat.le_of_ble_eq_true rfl) (Nat.le_of_ble_eq_true rfl)) (fun r84 M84 => ?_)
          refine V_aload_n hX (j := 0) (hj := rfl) 48 88 rfl rfl ?_
          refine V_iload_n hX (j := 1) (hj := rfl) 49 89 rfl rfl ?_
          refine V_iload_n hX (j := 3) (hj := rfl) 50 90 rfl rfl ?_
          refine V_callI hX 93 0 0 rfl rfl rfl (Nat.le_of_ble_eq_true rfl) (Nat.le_of_ble_eq_true rfl) (VR_V hX 51 (ct_Mo_rise (cx_t hX) K v1 v3 M84) my_Mo_rise mi_Mo_rise ms_Mo_rise ml_Mo_219 (Nat.le_of_ble_eq_true rfl) (Nat.le_of_ble_eq_true rfl) (by decide) (ent_32 K _) rfl rfl rfl (Nat.le_of_ble_eq_true rfl) rfl (Nat.le_of_ble_eq_true rfl) (Nat.le_of_ble_eq_true rfl)) (fun r90 M90 => ?_)
          refine V_icmp_ne hX 52 96 106 rfl rfl (by decide) (fun c93 => ?_) (fun c93 => ?_)
          · refine VV_sub [0, 1, 2, 3, 5] rfl ?_
            exact bt_Mo_peakByProminence_106 hX k15 (fn_Mo_peakByProminence_42 k15 v1 v2 v3 n) v1 v2 v3 v5 hk15 ih v4 M90
          · refine V_iload hX (j := 5) (hj := rfl) 53 98 rfl rfl ?_
            refine V_iload_n hX (j := 3) (hj := rfl) 54 99 rfl rfl ?_
            refine V_icmp_ge hX 55 102 106 rfl rfl (by decide) (fun c99 => ?_) (fun c99 => ?_)
            · refine VV_sub [0, 1, 2, 3, 5] rfl ?_
              exact bt_Mo_peakByProminence_106 hX k15 (fn_Mo_peakByProminence_42 k15 v1 v2 v3 n) v1 v2 v3 v5 hk15 ih v4 M90
            · refine VV_sub [0, 1, 2, 3, 5] rfl ?_
              exact bt_Mo_peakByProminence_102 hX k15 (fn_Mo_peakByProminence_42 k15 v1 v2 v3 n) v1 v2 v3 v5 hk15 ih v4 M90
set_option maxRecDepth 20000 in
theorem bt_Mo_peakByProminence_130 {l : Launch} {K : KT} {X : XT} (hX : Cx l K 4 6 0 0 X prog_15_method_75_code "SeriesArchiveModel" (some .int) [] L_Mo_peakByProminence) (M : Mm) : VV l K 4 6 0 0 rvI X (fn_Mo_peakByProminence_130 M) 0 0 M 130 [(0, .ref (kA K 32))] [] := by
  unfold fn_Mo_peakByProminence_130
  refine V_aload_n hX (j := 0) (hj := rfl) 70 131 rfl rfl ?_
  refine V_iconst hX (v := 2) (hv := by decide) 71 132 rfl rfl ?_
  refine V_callI hX 135 0 0 rfl rfl rfl (Nat.le_of_ble_eq_true rfl) (Nat.le_of_ble_eq_true rfl) (VR_V hX 72 (ct_Mo_fail (cx_t hX) K 2 M) my_Mo_fail mi_Mo_fail ms_Mo_fail ml_Mo_111 (Nat.le_of_ble_eq_true rfl) (Nat.le_of_ble_eq_true rfl) (by decide) (ent_32 K _) rfl rfl rfl (Nat.le_of_ble_eq_true rfl) rfl (Nat.le_of_ble_eq_true rfl) (Nat.le_of_ble_eq_true rfl)) (fun r132 M132 => ?_)
  exact V_iret hX 73 rfl (Nat.le_of_ble_eq_true rfl) (Nat.le_of_ble_eq_true rfl) rfl
set_option maxRecDepth 20000 in
theorem bt_Mo_peakByProminence_15 {l : Launch} {K : KT} {X : XT} (hX : Cx l K 4 6 0 0 X prog_15_method_75_code "SeriesArchiveModel" (some .int) [] L_Mo_peakByProminence) (v1 : Int32) (v2 : Int32) : ∀ (n : Nat) (v3 : Int32) (M : Mm), VV l K 4 6 0 0 rvI X (fn_Mo_peakByProminence_15 v1 v2 n v3 M) 0 0 M 15 [(0, .ref (kA K 32)), (1, .int v1), (2, .int v2), (3, .int v3)] [] := by
  intro n
  induction n with
  | zero => intro v3 M; exact VV_none
  | succ n ih =>
    intro v3 M
    rw [fn_Mo_peakByProminence_15]
    refine V_iload_n hX (j := 3) (hj := rfl) 9 16 rfl rfl ?_
    refine V_aload_n hX (j := 0) (hj := rfl) 10 17 rfl rfl ?_
    refine V_iload_n hX (j := 1) (hj := rfl) 11 18 rfl rfl ?_
    refine V_callI hX 21 0 0 rfl rfl rfl (Nat.le_of_ble_eq_true rfl) (Nat.le_of_ble_eq_true rfl) (VR_V hX 12 (ct_Mo_many (cx_t hX) K v1 M) my_Mo_many mi_Mo_many ms_Mo_many ml_Mo_93 (Nat.le_of_ble_eq_true rfl) (Nat.le_of_ble_eq_true rfl) (by decide) (ent_32 K _) rfl rfl rfl (Nat.le_of_ble_eq_true rfl) rfl (Nat.le_of_ble_eq_true rfl) (Nat.le_of_ble_eq_true rfl)) (fun r18 M18 => ?_)
    refine V_icmp_ge hX 13 24 130 rfl rfl (by decide) (fun c21 => ?_) (fun c21 => ?_)
    · refine VV_sub [0] rfl ?_
      exact bt_Mo_peakByProminence_130 hX M18
    · refine V_aload_n hX (j := 0) (hj := rfl) 14 25 rfl rfl ?_
      refine V_iload_n hX (j := 1) (hj := rfl) 15 26 rfl rfl ?_
      refine V_iload_n hX (j := 3) (hj := rfl) 16 27 rfl rfl ?_
      refine V_callI hX 30 0 0 rfl rfl rfl (Nat.le_of_ble_eq_true rfl) (Nat.le_of_ble_eq_true rfl) (VR_V hX 17 (ct_Mo_peaks (cx_t hX) K v1 v3 M18) my_Mo_peaks mi_Mo_peaks ms_Mo_peaks ml_Mo_211 (Nat.le_of_ble_eq_true rfl) (Nat.le_of_ble_eq_true rfl) (by decide) (ent_32 K _) rfl rfl rfl (Nat.le_of_ble_eq_true rfl) rfl (Nat.le_of_ble_eq_true rfl) (Nat.le_of_ble_eq_true rfl)) (fun r27 M27 => ?_)
      refine V_if_ne hX 18 33 36 rfl rfl (by decide) (fun c30 => ?_) (fun c30 => ?_)
      · refine V_iconst hX (v := 0) (hv := by decide) 20 37 rfl rfl ?_
        refine V_istore hX 21 39 [(4, .int 0), (0, .ref (kA K 32)), (1, .int v1), (2, .int v2), (3, .int v3)] rfl rfl (Nat.le_of_ble_eq_true rfl) rfl ?_
        refine V_iconst hX (v := 0) (hv := by decide) 22 40 rfl rfl ?_
        refine V_istore hX 23 42 [(5, .int 0), (4, .int 0), (0, .ref (kA K 32)), (1, .int v1), (2, .int v2), (3, .int v3)] rfl rfl (Nat.le_of_ble_eq_true rfl) rfl ?_
        refine VV_sub [2, 3, 4, 5, 1, 0] rfl ?_
        exact bt_Mo_peakByProminence_42 hX (fn_Mo_peakByProminence_15 v1 v2 n) v1 v2 v3 ih fuel0 0 0 M27
      · refine V_goto hX 19 124 rfl (by decide) ?_
        exact bt_Mo_peakByProminence_124 hX (fn_Mo_peakByProminence_15 v1 v2 n) v1 v2 v3 ih M27
set_option maxRecDepth 20000 in
theorem ct_Mo_peakByProminence {l : Launch} (hl : l.stackTraces = false) (K : KT) (v1 : Int32) (v2 : Int32) (M : Mm) : CTp l K y_Mo_peakByProminence (Cond.code y_Mo_peakByProminence prog_15_method_75_code 6 (some .int)) rvI 4 0 0 [.ref (kA K 32), .int v1, .int v2] M (fn_Mo_peakByProminence v1 v2 M) := by
  refine CTp_of (L := L_Mo_peakByProminence) (lc := [(0, .ref (kA K 32)), (1, .int v1), (2, .int v2)]) (by decide +kernel) dec_Mo_peakByProminence hl rfl (Nat.le_of_ble_eq_true rfl) (fun X hX => ?_)
  unfold fn_Mo_peakByProminence
  refine V_aload_n hX (j := 0) (hj := rfl) 0 1 rfl rfl ?_
  refine V_iload_n hX (j := 1) (hj := rfl) 1 2 rfl rfl ?_
  refine V_callI hX 5 0 0 rfl rfl rfl (Nat.le_of_ble_eq_true rfl) (Nat.le_of_ble_eq_true rfl) (VR_S hX 2 (ct_Mo_isSlot (cx_t hX) K v1 M) my_Mo_isSlot mt_Mo_isSlot ml_Mo_89 (Nat.le_of_ble_eq_true rfl) (Nat.le_of_ble_eq_true rfl) rfl rfl (Nat.le_of_ble_eq_true rfl) rfl (Nat.le_of_ble_eq_true rfl) (Nat.le_of_ble_eq_true rfl)) (fun r2 M2 => ?_)
  refine V_callI hX 8 0 0 rfl rfl rfl (Nat.le_of_ble_eq_true rfl) (Nat.le_of_ble_eq_true rfl) (VR_V hX 3 (ct_Mo_checked (cx_t hX) K r2 M2) my_Mo_checked mi_Mo_checked ms_Mo_checked ml_Mo_189 (Nat.le_of_ble_eq_true rfl) (Nat.le_of_ble_eq_true rfl) (by decide) (ent_32 K _) rfl rfl rfl (Nat.le_of_ble_eq_true rfl) rfl (Nat.le_of_ble_eq_true rfl) (Nat.le_of_ble_eq_true rfl)) (fun r5 M5 => ?_)
  refine V_if_le hX 4 11 13 rfl rfl (by decide) (fun c8 => ?_) (fun c8 => ?_)
  · refine V_iconst hX (v := 0) (hv := by decide) 7 14 rfl rfl ?_
    refine V_istore_n hX 8 15 [(3, .int 0), (0, .ref (kA K 32)), (1, .int v1), (2, .int v2)] rfl rfl (Nat.le_of_ble_eq_true rfl) rfl ?_
    refine VV_sub [1, 2, 3, 0] rfl ?_
    exact bt_Mo_peakByProminence_15 hX v1 v2 fuel0 0 M5
  · refine V_iconst hX (v := 0) (hv := by decide) 5 12 rfl rfl ?_
    exact V_iret hX 6 rfl (Nat.le_of_ble_eq_true rfl) (Nat.le_of_ble_eq_true rfl) rfl
set_option maxRecDepth 20000 in
theorem bt_Mo_filled_25 {l : Launch} {K : KT} {X : XT} (hX : Cx l K 3 2 0 0 X prog_15_method_76_code "SeriesArchiveModel" (some .int) [] L_Mo_filled) (s1 : Int32) (M : Mm) : VV l K 3 2 0 0 rvI X (fn_Mo_filled_25 s1 M) 0 0 M 25 [(0, .ref (kA K 32))] [.int s1, .ref (kA K 32)] := by
  unfold fn_Mo_filled_25
  refine V_putI hX 13 28 32 fp_Mo_28 (by decide) rfl rfl (by decide) (ent_32 K _) (Nat.le_of_ble_eq_true rfl) (ent_32 K _) (fun M25 hM25 => ?_)
  refine V_aload_n hX (j := 0) (hj := rfl) 14 29 rfl rfl ?_
  refine V_get hX 15 32 32 (.int (M25 32 6)) fl_Mo_28 rfl rfl (by decide) (ent_32 K _) rfl ?_
  exact V_iret hX 16 rfl (Nat.le_of_ble_eq_true rfl) (Nat.le_of_ble_eq_true rfl) rfl
set_option maxRecDepth 20000 in
theorem ct_Mo_filled {l : Launch} (hl : l.stackTraces = false) (K : KT) (v1 : Int32) (M : Mm) : CTp l K y_Mo_filled (Cond.code y_Mo_filled prog_15_method_76_code 2 (some .int)) rvI 3 0 0 [.ref (kA K 32), .int v1] M (fn_Mo_filled v1 M) := by
  refine CTp_of (L := L_Mo_filled) (lc := [(0, .ref (kA K 32)), (1, .int v1)]) (by decide +kernel) dec_Mo_filled hl rfl (Nat.le_of_ble_eq_true rfl) (fun X hX => ?_)
  unfold fn_Mo_filled
  refine V_aload_n hX (j := 0) (hj := rfl) 0 1 rfl rfl ?_
  refine V_iload_n hX (j := 1) (hj := rfl) 1 2 rfl rfl ?_
  refine V_callI hX 5 0 0 rfl rfl rfl (Nat.le_of_ble_eq_true rfl) (Nat.le_of_ble_eq_true rfl) (VR_S hX 2 (ct_Mo_isSlot (cx_t hX) K v1 M) my_Mo_isSlot mt_Mo_isSlot ml_Mo_89 (Nat.le_of_ble_eq_true rfl) (Nat.le_of_ble_eq_true rfl) rfl rfl (Nat.le_of_ble_eq_true rfl) rfl (Nat.le_of_ble_eq_true rfl) (Nat.le_of_ble_eq_true rfl)) (fun r2 M2 => ?_)
  refine V_if_ne hX 3 8 12 rfl rfl (by decide) (fun c5 => ?_) (fun c5 => ?_)
  · refine V_aload_n hX (j := 0) (hj := rfl) 6 13 rfl rfl ?_
    refine V_iload_n hX (j := 1) (hj := rfl) 7 14 rfl rfl ?_
    refine V_callI hX 17 0 0 rfl rfl rfl (Nat.le_of_ble_eq_true rfl) (Nat.le_of_ble_eq_true rfl) (VR_V hX 8 (ct_Mo_many (cx_t hX) K v1 M2) my_Mo_many mi_Mo_many ms_Mo_many ml_Mo_93 (Nat.le_of_ble_eq_true rfl) (Nat.le_of_ble_eq_true rfl) (by decide) (ent_32 K _) rfl rfl rfl (Nat.le_of_ble_eq_true rfl) rfl (Nat.le_of_ble_eq_true rfl) (Nat.le_of_ble_eq_true rfl)) (fun r14 M14 => ?_)
    refine V_if_ne hX 9 20 24 rfl rfl (by decide) (fun c17 => ?_) (fun c17 => ?_)
    · refine V_iconst hX (v := 0) (hv := by decide) 12 25 rfl rfl ?_
      refine VV_sub [0] rfl ?_
      exact bt_Mo_filled_25 hX 0 M14
    · refine V_iconst hX (v := 2) (hv := by decide) 10 21 rfl rfl ?_
      refine V_goto hX 11 25 rfl (by decide) ?_
      refine VV_sub [0] rfl ?_
      exact bt_Mo_filled_25 hX 2 M14
  · refine V_iconst hX (v := 1) (hv := by decide) 4 9 rfl rfl ?_
    refine V_goto hX 5 25 rfl (by decide) ?_
    refine VV_sub [0] rfl ?_
    exact bt_Mo_filled_25 hX 1 M2
set_option maxRecDepth 20000 in
theorem bt_Mo_best_67 {l : Launch} {K : KT} {X : XT} (hX : Cx l K 3 6 0 0 X prog_15_method_77_code "SeriesArchiveModel" (some .int) [] L_Mo_best) (k8 : Int32 → Int32 → Int32 → Mm → Rs Int32) (k22 : Int32 → Int32 → Int32 → Mm → Rs Int32) (v1 : Int32) (v2 : Int32) (v3 : Int32) (v4 : Int32) (v5 : Int32) (hk8 : ∀ (v2 : Int32) (v3 : Int32) (v4 : Int32) M, VV l K 3 6 0 0 rvI X (k8 v2 v3 v4 M) 0 0 M 8 [(0, .ref (kA K 32)), (1, .int v1), (2, .int v2), (3, .int v3), (4, .int v4)] []) (hk22 : ∀ (v2 : Int32) (v3 : Int32) (v5 : Int32) M, VV l K 3 6 0 0 rvI X (k22 v2 v3 v5 M) 0 0 M 22 [(0, .ref (kA K 32)), (1, .int v1), (2, .int v2), (3, .int v3), (4, .int v4), (5, .int v5)] []) (M : Mm) : VV l K 3 6 0 0 rvI X (fn_Mo_best_67 k8 k22 v1 v2 v3 v4 v5 M) 0 0 M 67 [(0, .ref (kA K 32)), (1, .int v1), (2, .int v2), (3, .int v3), (4, .int v4), (5, .int v5)] [] := by
  unfold fn_Mo_best_67
  refine V_iincL hX 38 70 5 rfl rfl rfl rfl (Nat.le_of_ble_eq_true rfl) (fun x5_67 hx5_67 => ?_)
  refine VV_lc [(5, .int x5_67), (0, .ref (kA K 32)), (1, .int v1), (2, .int v2), (3, .int v3), (4, .int v4)] rfl ?_
  refine V_goto hX 39 22 rfl (by decide) ?_
  refine VV_sub [1, 2, 3, 4, 5, 0] rfl ?_
  exact hk22 v2 v3 x5_67 M
set_option maxRecDepth 20000 in
theorem bt_Mo_best_73 {l : Launch} {K : KT} {X : XT} (hX : Cx l K 3 6 0 0 X prog_15_method_77_code "SeriesArchiveModel" (some .int) [] L_Mo_best) (k8 : Int32 → Int32 → Int32 → Mm → Rs Int32) (v1 : Int32) (v2 : Int32) (v3 : Int32) (v4 : Int32) (hk8 : ∀ (v2 : Int32) (v3 : Int32) (v4 : Int32) M, VV l K 3 6 0 0 rvI X (k8 v2 v3 v4 M) 0 0 M 8 [(0, .ref (kA K 32)), (1, .int v1), (2, .int v2), (3, .int v3), (4, .int v4)] []) (M : Mm) : VV l K 3 6 0 0 rvI X (fn_Mo_best_73 k8 v1 v2 v3 v4 M) 0 0 M 73 [(0, .ref (kA K 32)), (1, .int v1), (2, .int v2), (3, .int v3), (4, .int v4)] [] := by
  unfold fn_Mo_best_73
  refine V_iincL hX 40 76 4 rfl rfl rfl rfl (Nat.le_of_ble_eq_true rfl) (fun x4_73 hx4_73 => ?_)
  refine VV_lc [(4, .int x4_73), (0, .ref (kA K 32)), (1, .int v1), (2, .int v2), (3, .int v3)] rfl ?_
  refine V_goto hX 41 8 rfl (by decide) ?_
  refine VV_sub [1, 2, 3, 4, 0] rfl ?_
  exact hk8 v2 v3 x4_73 M
set_option maxRecDepth 20000 in
theorem bt_Mo_best_22 {l : Launch} {K : KT} {X : XT} (hX : Cx l K 3 6 0 0 X prog_15_method_77_code "SeriesArchiveModel" (some .int) [] L_Mo_best) (k8 : Int32 → Int32 → Int32 → Mm → Rs Int32) (v1 : Int32) (v4 : Int32) (hk8 : ∀ (v2 : Int32) (v3 : Int32) (v4 : Int32) M, VV l K 3 6 0 0 rvI X (k8 v2 v3 v4 M) 0 0 M 8 [(0, .ref (kA K 32)), (1, .int v1), (2, .int v2), (3, .int v3), (4, .int v4)] []) : ∀ (n : Nat) (v2 : Int32) (v3 : Int32) (v5 : Int32) (M : Mm), VV l K 3 6 0 0 rvI X (fn_Mo_best_22 k8 v1 v4 n v2 v3 v5 M) 0 0 M 22 [(0, .ref (kA K 32)), (1, .int v1), (2, .int v2), (3, .int v3), (4, .int v4), (5, .int v5)] [] := by
  intro n
  induction n with
  | zero => intro v2 v3 v5 M; exact VV_none
  | succ n ih =>
    intro v2 v3 v5 M
    rw [fn_Mo_best_22]
    refine V_iload hX (j := 5) (hj := rfl) 13 24 rfl rfl ?_
    refine V_aload_n hX (j := 0) (hj := rfl) 14 25 rfl rfl ?_
    refine V_iload_n hX (j := 1) (hj := rfl) 15 26 rfl rfl ?_
    refine V_callI hX 29 0 0 rfl rfl rfl (Nat.le_of_ble_eq_true rfl) (Nat.le_of_ble_eq_true rfl) (VR_V hX 16 (ct_Mo_many (cx_t hX) K v1 M) my_Mo_many mi_Mo_many ms_Mo_many ml_Mo_93 (Nat.le_of_ble_eq_true rfl) (Nat.le_of_ble_eq_true rfl) (by decide) (ent_32 K _) rfl rfl rfl (Nat.le_of_ble_eq_true rfl) rfl (Nat.le_of_ble_eq_true rfl) (Nat.le_of_ble_eq_true rfl)) (fun r26 M26 => ?_)
    refine V_icmp_ge hX 17 32 73 rfl rfl (by decide) (fun c29 => ?_) (fun c29 => ?_)
    · refine VV_sub [0, 1, 2, 3, 4] rfl ?_
      exact bt_Mo_best_73 hX k8 v1 v2 v3 v4 hk8 M26
    · refine V_aload_n hX (j := 0) (hj := rfl) 18 33 rfl rfl ?_
      refine V_iload_n hX (j := 1) (hj := rfl) 19 34 rfl rfl ?_
      refine V_iload hX (j := 4) (hj := rfl) 20 36 rfl rfl ?_
      refine V_iload hX (j := 5) (hj := rfl) 21 38 rfl rfl ?_
      refine V_callI hX 41 0 0 rfl rfl rfl (Nat.le_of_ble_eq_true rfl) (Nat.le_of_ble_eq_true rfl) (VR_V hX 22 (ct_Mo_total (cx_t hX) K v1 v4 v5 M26) my_Mo_total mi_Mo_total ms_Mo_total ml_Mo_153 (Nat.le_of_ble_eq_true rfl) (Nat.le_of_ble_eq_true rfl) (by decide) (ent_32 K _) rfl rfl rfl (Nat.le_of_ble_eq_true rfl) rfl (Nat.le_of_ble_eq_true rfl) (Nat.le_of_ble_eq_true rfl)) (fun r38 M38 => ?_)
      refine V_iload_n hX (j := 3) (hj := rfl) 23 42 rfl rfl ?_
      refine V_icmp_gt hX 24 45 48 rfl rfl (by decide) (fun c42 => ?_) (fun c42 => ?_)
      · refine V_aload_n hX (j := 0) (hj := rfl) 26 49 rfl rfl ?_
        refine V_iload_n hX (j := 1) (hj := rfl) 27 50 rfl rfl ?_
        refine V_iload hX (j := 4) (hj := rfl) 28 52 rfl rfl ?_
        refine V_iload hX (j := 5) (hj := rfl) 29 54 rfl rfl ?_
        refine V_callI hX 57 0 0 rfl rfl rfl (Nat.le_of_ble_eq_true rfl) (Nat.le_of_ble_eq_true rfl) (VR_V hX 30 (ct_Mo_total (cx_t hX) K v1 v4 v5 M38) my_Mo_total mi_Mo_total ms_Mo_total ml_Mo_153 (Nat.le_of_ble_eq_true rfl) (Nat.le_of_ble_eq_true rfl) (by decide) (ent_32 K _) rfl rfl rfl (Nat.le_of_ble_eq_true rfl) rfl (Nat.le_of_ble_eq_true rfl) (Nat.le_of_ble_eq_true rfl)) (fun r54 M54 => ?_)
        refine V_istore_n hX 31 58 [(3, .int r54), (0, .ref (kA K 32)), (1, .int v1), (2, .int v2), (4, .int v4), (5, .int v5)] rfl rfl (Nat.le_of_ble_eq_true rfl) rfl ?_
        refine V_bipush hX (v := 20) (hv := by decide) 32 60 rfl rfl ?_
        refine V_iload hX (j := 4) (hj := rfl) 33 62 rfl rfl ?_
        refine V_imul hX 34 63 rfl rfl ?_
        refine V_iload hX (j := 5) (hj := rfl) 35 65 rfl rfl ?_
        refine V_iadd hX 36 66 rfl rfl ?_
        refine VV_li (fun x2_66 hx2_66 => ?_)
        refine V_istore_n hX 37 67 [(2, .int x2_66), (3, .int r54), (0, .ref (kA K 32)), (1, .int v1), (4, .int v4), (5, .int v5)] rfl rfl (Nat.le_of_ble_eq_true rfl) rfl ?_
        refine VV_sub [2, 3, 0, 1, 4, 5] rfl ?_
        exact bt_Mo_best_67 hX k8 (fn_Mo_best_22 k8 v1 v4 n) v1 x2_66 r54 v4 v5 hk8 ih M54
      · refine V_goto hX 25 67 rfl (by decide) ?_
        exact bt_Mo_best_67 hX k8 (fn_Mo_best_22 k8 v1 v4 n) v1 v2 v3 v4 v5 hk8 ih M38
set_option maxRecDepth 20000 in
theorem bt_Mo_best_8 {l : Launch} {K : KT} {X : XT} (hX : Cx l K 3 6 0 0 X prog_15_method_77_code "SeriesArchiveModel" (some .int) [] L_Mo_best) (v1 : Int32) : ∀ (n : Nat) (v2 : Int32) (v3 : Int32) (v4 : Int32) (M : Mm), VV l K 3 6 0 0 rvI X (fn_Mo_best_8 v1 n v2 v3 v4 M) 0 0 M 8 [(0, .ref (kA K 32)), (1, .int v1), (2, .int v2), (3, .int v3), (4, .int v4)] [] := by
  intro n
  induction n with
  | zero => intro v2 v3 v4 M; exact VV_none
  | succ n ih =>
    intro v2 v3 v4 M
    rw [fn_Mo_best_8]
    refine V_iload hX (j := 4) (hj := rfl) 6 10 rfl rfl ?_
    refine V_aload_n hX (j := 0) (hj := rfl) 7 11 rfl rfl ?_
    refine V_iload_n hX (j := 1) (hj := rfl) 8 12 rfl rfl ?_
    refine V_callI hX 15 0 0 rfl rfl rfl (Nat.le_of_ble_eq_true rfl) (Nat.le_of_ble_eq_true rfl) (VR_V hX 9 (ct_Mo_many (cx_t hX) K v1 M) my_Mo_many mi_Mo_many ms_Mo_many ml_Mo_93 (Nat.le_of_ble_eq_true rfl) (Nat.le_of_ble_eq_true rfl) (by decide) (ent_32 K _) rfl rfl rfl (Nat.le_of_ble_eq_true rfl) rfl (Nat.le_of_ble_eq_true rfl) (Nat.le_of_ble_eq_true rfl)) (fun r12 M12 => ?_)
    refine V_icmp_ge hX 10 18 79 rfl rfl (by decide) (fun c15 => ?_) (fun c15 => ?_)
    · refine V_iload_n hX (j := 2) (hj := rfl) 42 80 rfl rfl ?_
      exact V_iret hX 43 rfl (Nat.le_of_ble_eq_true rfl) (Nat.le_of_ble_eq_true rfl) rfl
    · refine V_iload hX (j := 4) (hj := rfl) 11 20 rfl rfl ?_
      refine V_istore hX 12 22 [(5, .int v4), (0, .ref (kA K 32)), (1, .int v1), (2, .int v2), (3, .int v3), (4, .int v4)] rfl rfl (Nat.le_of_ble_eq_true rfl) rfl ?_
      refine VV_sub [1, 2, 3, 4, 5, 0] rfl ?_
      exact bt_Mo_best_22 hX (fn_Mo_best_8 v1 n) v1 v4 ih fuel0 v2 v3 v4 M12
set_option maxRecDepth 20000 in
theorem ct_Mo_best {l : Launch} (hl : l.stackTraces = false) (K : KT) (v1 : Int32) (M : Mm) : CTp l K y_Mo_best (Cond.code y_Mo_best prog_15_method_77_code 6 (some .int)) rvI 3 0 0 [.ref (kA K 32), .int v1] M (fn_Mo_best v1 M) := by
  refine CTp_of (L := L_Mo_best) (lc := [(0, .ref (kA K 32)), (1, .int v1)]) (by decide +kernel) dec_Mo_best hl rfl (Nat.le_of_ble_eq_true rfl) (fun X hX => ?_)
  unfold fn_Mo_best
  refine V_iconst hX (v := 0) (hv := by decide) 0 1 rfl rfl ?_
  refine V_istore_n hX 1 2 [(2, .int 0), (0, .ref (kA K 32)), (1, .int v1)] rfl rfl (Nat.le_of_ble_eq_true rfl) rfl ?_
  refine V_ldcI hX 2 4 co_Mo_215 rfl rfl ?_
  refine V_istore_n hX 3 5 [(3, .int (-1000000000)), (2, .int 0), (0, .ref (kA K 32)), (1, .int v1)] rfl rfl (Nat.le_of_ble_eq_true rfl) rfl ?_
  refine V_iconst hX (v := 0) (hv := by decide) 4 6 rfl rfl ?_
  refine V_istore hX 5 8 [(4, .int 0), (3, .int (-1000000000)), (2, .int 0), (0, .ref (kA K 32)), (1, .int v1)] rfl rfl (Nat.le_of_ble_eq_true rfl) rfl ?_
  refine VV_sub [3, 4, 2, 1, 0] rfl ?_
  exact bt_Mo_best_8 hX v1 fuel0 0 (-1000000000) 0 M
set_option maxRecDepth 20000 in
theorem ct_Mo_bestOf {l : Launch} (hl : l.stackTraces = false) (K : KT) (v1 : Int32) (M : Mm) : CTp l K y_Mo_bestOf (Cond.code y_Mo_bestOf prog_15_method_78_code 2 (some .int)) rvI 4 0 0 [.ref (kA K 32), .int v1] M (fn_Mo_bestOf v1 M) := by
  refine CTp_of (L := L_Mo_bestOf) (lc := [(0, .ref (kA K 32)), (1, .int v1)]) (by decide +kernel) dec_Mo_bestOf hl rfl (Nat.le_of_ble_eq_true rfl) (fun X hX => ?_)
  unfold fn_Mo_bestOf
  refine V_aload_n hX (j := 0) (hj := rfl) 0 1 rfl rfl ?_
  refine V_iload_n hX (j := 1) (hj := rfl) 1 2 rfl rfl ?_
  refine V_callI hX 5 0 0 rfl rfl rfl (Nat.le_of_ble_eq_true rfl) (Nat.le_of_ble_eq_true rfl) (VR_V hX 2 (ct_Mo_filled (cx_t hX) K v1 M) my_Mo_filled mi_Mo_filled ms_Mo_filled ml_Mo_225 (Nat.le_of_ble_eq_true rfl) (Nat.le_of_ble_eq_true rfl) (by decide) (ent_32 K _) rfl rfl rfl (Nat.le_of_ble_eq_true rfl) rfl (Nat.le_of_ble_eq_true rfl) (Nat.le_of_ble_eq_true rfl)) (fun r2 M2 => ?_)
  refine V_if_le hX 3 8 12 rfl rfl (by decide) (fun c5 => ?_) (fun c5 => ?_)
  · refine V_aload_n hX (j := 0) (hj := rfl) 6 13 rfl rfl ?_
    refine V_iload_n hX (j := 1) (hj := rfl) 7 14 rfl rfl ?_
    refine V_aload_n hX (j := 0) (hj := rfl) 8 15 rfl rfl ?_
    refine V_iload_n hX (j := 1) (hj := rfl) 9 16 rfl rfl ?_
    refine V_callI hX 19 0 0 rfl rfl rfl (Nat.le_of_ble_eq_true rfl) (Nat.le_of_ble_eq_true rfl) (VR_V hX 10 (ct_Mo_best (cx_t hX) K v1 M2) my_Mo_best mi_Mo_best ms_Mo_best ml_Mo_228 (Nat.le_of_ble_eq_true rfl) (Nat.le_of_ble_eq_true rfl) (by decide) (ent_32 K _) rfl rfl rfl (Nat.le_of_ble_eq_true rfl) rfl (Nat.le_of_ble_eq_true rfl) (Nat.le_of_ble_eq_true rfl)) (fun r16 M16 => ?_)
    refine V_bipush hX (v := 20) (hv := by decide) 11 21 rfl rfl ?_
    refine V_idiv hX (hne := by decide) 12 22 rfl rfl ?_
    refine V_aload_n hX (j := 0) (hj := rfl) 13 23 rfl rfl ?_
    refine V_iload_n hX (j := 1) (hj := rfl) 14 24 rfl rfl ?_
    refine V_callI hX 27 0 0 rfl rfl rfl (Nat.le_of_ble_eq_true rfl) (Nat.le_of_ble_eq_true rfl) (VR_V hX 15 (ct_Mo_best (cx_t hX) K v1 M16) my_Mo_best mi_Mo_best ms_Mo_best ml_Mo_228 (Nat.le_of_ble_eq_true rfl) (Nat.le_of_ble_eq_true rfl) (by decide) (ent_32 K _) rfl rfl rfl (Nat.le_of_ble_eq_true rfl) rfl (Nat.le_of_ble_eq_true rfl) (Nat.le_of_ble_eq_true rfl)) (fun r24 M24 => ?_)
    refine V_bipush hX (v := 20) (hv := by decide) 16 29 rfl rfl ?_
    refine V_irem hX (hne := by decide) 17 30 rfl rfl ?_
    refine V_callI hX 33 0 0 rfl rfl rfl (Nat.le_of_ble_eq_true rfl) (Nat.le_of_ble_eq_true rfl) (VR_V hX 18 (ct_Mo_total (cx_t hX) K v1 (r16 / 20) (r24 - r24 / 20 * 20) M24) my_Mo_total mi_Mo_total ms_Mo_total ml_Mo_153 (Nat.le_of_ble_eq_true rfl) (Nat.le_of_ble_eq_true rfl) (by decide) (ent_32 K _) rfl rfl rfl (Nat.le_of_ble_eq_true rfl) rfl (Nat.le_of_ble_eq_true rfl) (Nat.le_of_ble_eq_true rfl)) (fun r30 M30 => ?_)
    exact V_iret hX 19 rfl (Nat.le_of_ble_eq_true rfl) (Nat.le_of_ble_eq_true rfl) rfl
  · refine V_iconst hX (v := 0) (hv := by decide) 4 9 rfl rfl ?_
    refine V_goto hX 5 33 rfl (by decide) ?_
    exact V_iret hX 19 rfl (Nat.le_of_ble_eq_true rfl) (Nat.le_of_ble_eq_true rfl) rfl
set_option maxRecDepth 20000 in
theorem ct_Mo_bestSum {l : Launch} (hl : l.stackTraces = false) (K : KT) (v1 : Int32) (M : Mm) : CTp l K y_Mo_bestSum (Cond.code y_Mo_bestSum prog_15_method_79_code 2 (some .int)) rvI 5 0 0 [.ref (kA K 32), .int v1] M (fn_Mo_bestSum v1 M) := by
  refine CTp_of (L := L_Mo_bestSum) (lc := [(0, .ref (kA K 32)), (1, .int v1)]) (by decide +kernel) dec_Mo_bestSum hl rfl (Nat.le_of_ble_eq_true rfl) (fun X hX => ?_)
  unfold fn_Mo_bestSum
  refine V_aload_n hX (j := 0) (hj := rfl) 0 1 rfl rfl ?_
  refine V_iload_n hX (j := 1) (hj := rfl) 1 2 rfl rfl ?_
  refine V_callI hX 5 0 0 rfl rfl rfl (Nat.le_of_ble_eq_true rfl) (Nat.le_of_ble_eq_true rfl) (VR_V hX 2 (ct_Mo_bestOf (cx_t hX) K v1 M) my_Mo_bestOf mi_Mo_bestOf ms_Mo_bestOf ml_Mo_231 (Nat.le_of_ble_eq_true rfl) (Nat.le_of_ble_eq_true rfl) (by decide) (ent_32 K _) rfl rfl rfl (Nat.le_of_ble_eq_true rfl) rfl (Nat.le_of_ble_eq_true rfl) (Nat.le_of_ble_eq_true rfl)) (fun r2 M2 => ?_)
  exact V_iret hX 3 rfl (Nat.le_of_ble_eq_true rfl) (Nat.le_of_ble_eq_true rfl) rfl
set_option maxRecDepth 20000 in
theorem ct_Mo_bestSumByRanges {l : Launch} (hl : l.stackTraces = false) (K : KT) (v1 : Int32) (M : Mm) : CTp l K y_Mo_bestSumByRanges (Cond.code y_Mo_bestSumByRanges prog_15_method_80_code 2 (some .int)) rvI 5 0 0 [.ref (kA K 32), .int v1] M (fn_Mo_bestSumByRanges v1 M) := by
  refine CTp_of (L := L_Mo_bestSumByRanges) (lc := [(0, .ref (kA K 32)), (1, .int v1)]) (by decide +kernel) dec_Mo_bestSumByRanges hl rfl (Nat.le_of_ble_eq_true rfl) (fun X hX => ?_)
  unfold fn_Mo_bestSumByRanges
  refine V_aload_n hX (j := 0) (hj := rfl) 0 1 rfl rfl ?_
  refine V_iload_n hX (j := 1) (hj := rfl) 1 2 rfl rfl ?_
  refine V_callI hX 5 0 0 rfl rfl rfl (Nat.le_of_ble_eq_true rfl) (Nat.le_of_ble_eq_true rfl) (VR_V hX 2 (ct_Mo_bestOf (cx_t hX) K v1 M) my_Mo_bestOf mi_Mo_bestOf ms_Mo_bestOf ml_Mo_231 (Nat.le_of_ble_eq_true rfl) (Nat.le_of_ble_eq_true rfl) (by decide) (ent_32 K _) rfl rfl rfl (Nat.le_of_ble_eq_true rfl) rfl (Nat.le_of_ble_eq_true rfl) (Nat.le_of_ble_eq_true rfl)) (fun r2 M2 => ?_)
  exact V_iret hX 3 rfl (Nat.le_of_ble_eq_true rfl) (Nat.le_of_ble_eq_true rfl) rfl
set_option maxRecDepth 20000 in
theorem ct_Mo_bestStart {l : Launch} (hl : l.stackTraces = false) (K : KT) (v1 : Int32) (M : Mm) : CTp l K y_Mo_bestStart (Cond.code y_Mo_bestStart prog_15_method_81_code 2 (some .int)) rvI 4 0 0 [.ref (kA K 32), .int v1] M (fn_Mo_bestStart v1 M) := by
  refine CTp_of (L := L_Mo_bestStart) (lc := [(0, .ref (kA K 32)), (1, .int v1)]) (by decide +kernel) dec_Mo_bestStart hl rfl (Nat.le_of_ble_eq_true rfl) (fun X hX => ?_)
  unfold fn_Mo_bestStart
  refine V_aload_n hX (j := 0) (hj := rfl) 0 1 rfl rfl ?_
  refine V_iload_n hX (j := 1) (hj := rfl) 1 2 rfl rfl ?_
  refine V_callI hX 5 0 0 rfl rfl rfl (Nat.le_of_ble_eq_true rfl) (Nat.le_of_ble_eq_true rfl) (VR_V hX 2 (ct_Mo_filled (cx_t hX) K v1 M) my_Mo_filled mi_Mo_filled ms_Mo_filled ml_Mo_225 (Nat.le_of_ble_eq_true rfl) (Nat.le_of_ble_eq_true rfl) (by decide) (ent_32 K _) rfl rfl rfl (Nat.le_of_ble_eq_true rfl) rfl (Nat.le_of_ble_eq_true rfl) (Nat.le_of_ble_eq_true rfl)) (fun r2 M2 => ?_)
  refine V_if_le hX 3 8 12 rfl rfl (by decide) (fun c5 => ?_) (fun c5 => ?_)
  · refine V_aload_n hX (j := 0) (hj := rfl) 6 13 rfl rfl ?_
    refine V_iload_n hX (j := 1) (hj := rfl) 7 14 rfl rfl ?_
    refine V_callI hX 17 0 0 rfl rfl rfl (Nat.le_of_ble_eq_true rfl) (Nat.le_of_ble_eq_true rfl) (VR_V hX 8 (ct_Mo_best (cx_t hX) K v1 M2) my_Mo_best mi_Mo_best ms_Mo_best ml_Mo_228 (Nat.le_of_ble_eq_true rfl) (Nat.le_of_ble_eq_true rfl) (by decide) (ent_32 K _) rfl rfl rfl (Nat.le_of_ble_eq_true rfl) rfl (Nat.le_of_ble_eq_true rfl) (Nat.le_of_ble_eq_true rfl)) (fun r14 M14 => ?_)
    refine V_bipush hX (v := 20) (hv := by decide) 9 19 rfl rfl ?_
    refine V_idiv hX (hne := by decide) 10 20 rfl rfl ?_
    exact V_iret hX 11 rfl (Nat.le_of_ble_eq_true rfl) (Nat.le_of_ble_eq_true rfl) rfl
  · refine V_iconst hX (v := 0) (hv := by decide) 4 9 rfl rfl ?_
    refine V_goto hX 5 20 rfl (by decide) ?_
    exact V_iret hX 11 rfl (Nat.le_of_ble_eq_true rfl) (Nat.le_of_ble_eq_true rfl) rfl
set_option maxRecDepth 20000 in
theorem ct_Mo_bestEnd {l : Launch} (hl : l.stackTraces = false) (K : KT) (v1 : Int32) (M : Mm) : CTp l K y_Mo_bestEnd (Cond.code y_Mo_bestEnd prog_15_method_82_code 2 (some .int)) rvI 4 0 0 [.ref (kA K 32), .int v1] M (fn_Mo_bestEnd v1 M) := by
  refine CTp_of (L := L_Mo_bestEnd) (lc := [(0, .ref (kA K 32)), (1, .int v1)]) (by decide +kernel) dec_Mo_bestEnd hl rfl (Nat.le_of_ble_eq_true rfl) (fun X hX => ?_)
  unfold fn_Mo_bestEnd
  refine V_aload_n hX (j := 0) (hj := rfl) 0 1 rfl rfl ?_
  refine V_iload_n hX (j := 1) (hj := rfl) 1 2 rfl rfl ?_
  refine V_callI hX 5 0 0 rfl rfl rfl (Nat.le_of_ble_eq_true rfl) (Nat.le_of_ble_eq_true rfl) (VR_V hX 2 (ct_Mo_filled (cx_t hX) K v1 M) my_Mo_filled mi_Mo_filled ms_Mo_filled ml_Mo_225 (Nat.le_of_ble_eq_true rfl) (Nat.le_of_ble_eq_true rfl) (by decide) (ent_32 K _) rfl rfl rfl (Nat.le_of_ble_eq_true rfl) rfl (Nat.le_of_ble_eq_true rfl) (Nat.le_of_ble_eq_true rfl)) (fun r2 M2 => ?_)
  refine V_if_le hX 3 8 12 rfl rfl (by decide) (fun c5 => ?_) (fun c5 => ?_)
  · refine V_aload_n hX (j := 0) (hj := rfl) 6 13 rfl rfl ?_
    refine V_iload_n hX (j := 1) (hj := rfl) 7 14 rfl rfl ?_
    refine V_callI hX 17 0 0 rfl rfl rfl (Nat.le_of_ble_eq_true rfl) (Nat.le_of_ble_eq_true rfl) (VR_V hX 8 (ct_Mo_best (cx_t hX) K v1 M2) my_Mo_best mi_Mo_best ms_Mo_best ml_Mo_228 (Nat.le_of_ble_eq_true rfl) (Nat.le_of_ble_eq_true rfl) (by decide) (ent_32 K _) rfl rfl rfl (Nat.le_of_ble_eq_true rfl) rfl (Nat.le_of_ble_eq_true rfl) (Nat.le_of_ble_eq_true rfl)) (fun r14 M14 => ?_)
    refine V_bipush hX (v := 20) (hv := by decide) 9 19 rfl rfl ?_
    refine V_irem hX (hne := by decide) 10 20 rfl rfl ?_
    exact V_iret hX 11 rfl (Nat.le_of_ble_eq_true rfl) (Nat.le_of_ble_eq_true rfl) rfl
  · refine V_iconst hX (v := 0) (hv := by decide) 4 9 rfl rfl ?_
    refine V_goto hX 5 20 rfl (by decide) ?_
    exact V_iret hX 11 rfl (Nat.le_of_ble_eq_true rfl) (Nat.le_of_ble_eq_true rfl) rfl
set_option maxRecDepth 20000 in
theorem bt_Mo_falling_57 {l : Launch} {K : KT} {X : XT} (hX : Cx l K 3 5 0 0 X prog_15_method_83_code "SeriesArchiveModel" (some .int) [] L_Mo_falling) (k17 : Int32 → Int32 → Mm → Rs Int32) (k29 : Int32 → Int32 → Mm → Rs Int32) (v1 : Int32) (v3 : Int32) (v4 : Int32) (hk17 : ∀ (v2 : Int32) (v3 : Int32) M, VV l K 3 5 0 0 rvI X (k17 v2 v3 M) 0 0 M 17 [(0, .ref (kA K 32)), (1, .int v1), (2, .int v2), (3, .int v3)] []) (hk29 : ∀ (v2 : Int32) (v4 : Int32) M, VV l K 3 5 0 0 rvI X (k29 v2 v4 M) 0 0 M 29 [(0, .ref (kA K 32)), (1, .int v1), (2, .int v2), (3, .int v3), (4, .int v4)] []) (s0 : Int32) (s1 : Int32) (M : Mm) : VV l K 3 5 0 0 rvI X (fn_Mo_falling_57 k17 k29 v1 v3 v4 s0 s1 M) 0 0 M 57 [(0, .ref (kA K 32)), (1, .int v1), (3, .int v3), (4, .int v4)] [.int s1, .int s0] := by
  unfold fn_Mo_falling_57
  refine V_iadd hX 34 58 rfl rfl ?_
  refine VV_li (fun x2_58 hx2_58 => ?_)
  refine V_istore_n hX 35 59 [(2, .int x2_58), (0, .ref (kA K 32)), (1, .int v1), (3, .int v3), (4, .int v4)] rfl rfl (Nat.le_of_ble_eq_true rfl) rfl ?_
  refine V_iincL hX 36 62 4 rfl rfl rfl rfl (Nat.le_of_ble_eq_true rfl) (fun x4_59 hx4_59 => ?_)
  refine VV_lc [(4, .int x4_59), (2, .int x2_58), (0, .ref (kA K 32)), (1, .int v1), (3, .int v3)] rfl ?_
  refine V_goto hX 37 29 rfl (by decide) ?_
  refine VV_sub [2, 3, 1, 4, 0] rfl ?_
  exact hk29 x2_58 x4_59 M
set_option maxRecDepth 20000 in
theorem bt_Mo_falling_65 {l : Launch} {K : KT} {X : XT} (hX : Cx l K 3 5 0 0 X prog_15_method_83_code "SeriesArchiveModel" (some .int) [] L_Mo_falling) (k17 : Int32 → Int32 → Mm → Rs Int32) (v1 : Int32) (v2 : Int32) (v3 : Int32) (hk17 : ∀ (v2 : Int32) (v3 : Int32) M, VV l K 3 5 0 0 rvI X (k17 v2 v3 M) 0 0 M 17 [(0, .ref (kA K 32)), (1, .int v1), (2, .int v2), (3, .int v3)] []) (M : Mm) : VV l K 3 5 0 0 rvI X (fn_Mo_falling_65 k17 v1 v2 v3 M) 0 0 M 65 [(0, .ref (kA K 32)), (1, .int v1), (2, .int v2), (3, .int v3)] [] := by
  unfold fn_Mo_falling_65
  refine V_iincL hX 38 68 3 rfl rfl rfl rfl (Nat.le_of_ble_eq_true rfl) (fun x3_65 hx3_65 => ?_)
  refine VV_lc [(3, .int x3_65), (0, .ref (kA K 32)), (1, .int v1), (2, .int v2)] rfl ?_
  refine V_goto hX 39 17 rfl (by decide) ?_
  refine VV_sub [1, 2, 3, 0] rfl ?_
  exact hk17 v2 x3_65 M
set_option maxRecDepth 20000 in
theorem bt_Mo_falling_29 {l : Launch} {K : KT} {X : XT} (hX : Cx l K 3 5 0 0 X prog_15_method_83_code "SeriesArchiveModel" (some .int) [] L_Mo_falling) (k17 : Int32 → Int32 → Mm → Rs Int32) (v1 : Int32) (v3 : Int32) (hk17 : ∀ (v2 : Int32) (v3 : Int32) M, VV l K 3 5 0 0 rvI X (k17 v2 v3 M) 0 0 M 17 [(0, .ref (kA K 32)), (1, .int v1), (2, .int v2), (3, .int v3)] []) : ∀ (n : Nat) (v2 : Int32) (v4 : Int32) (M : Mm), VV l K 3 5 0 0 rvI X (fn_Mo_falling_29 k17 v1 v3 n v2 v4 M) 0 0 M 29 [(0, .ref (kA K 32)), (1, .int v1), (2, .int v2), (3, .int v3), (4, .int v4)] [] := by
  intro n
  induction n with
  | zero => intro v2 v4 M; exact VV_none
  | succ n ih =>
    intro v2 v4 M
    rw [fn_Mo_falling_29]
    refine V_iload hX (j := 4) (hj := rfl) 18 31 rfl rfl ?_
    refine V_iload_n hX (j := 3) (hj := rfl) 19 32 rfl rfl ?_
    refine V_icmp_ge hX 20 35 65 rfl rfl (by decide) (fun c32 => ?_) (fun c32 => ?_)
    · refine VV_sub [0, 1, 2, 3] rfl ?_
      exact bt_Mo_falling_65 hX k17 v1 v2 v3 hk17 M
    · refine V_iload_n hX (j := 2) (hj := rfl) 21 36 rfl rfl ?_
      refine V_aload_n hX (j := 0) (hj := rfl) 22 37 rfl rfl ?_
      refine V_iload_n hX (j := 1) (hj := rfl) 23 38 rfl rfl ?_
      refine V_iload hX (j := 4) (hj := rfl) 24 40 rfl rfl ?_
      refine V_callI hX 43 0 0 rfl rfl rfl (Nat.le_of_ble_eq_true rfl) (Nat.le_of_ble_eq_true rfl) (VR_V hX 25 (ct_Mo_at (cx_t hX) K v1 v4 M) my_Mo_at mi_Mo_at ms_Mo_at ml_Mo_124 (Nat.le_of_ble_eq_true rfl) (Nat.le_of_ble_eq_true rfl) (by decide) (ent_32 K _) rfl rfl rfl (Nat.le_of_ble_eq_true rfl) rfl (Nat.le_of_ble_eq_true rfl) (Nat.le_of_ble_eq_true rfl)) (fun r40 M40 => ?_)
      refine V_aload_n hX (j := 0) (hj := rfl) 26 44 rfl rfl ?_
      refine V_iload_n hX (j := 1) (hj := rfl) 27 45 rfl rfl ?_
      refine V_iload_n hX (j := 3) (hj := rfl) 28 46 rfl rfl ?_
      refine V_callI hX 49 0 0 rfl rfl rfl (Nat.le_of_ble_eq_true rfl) (Nat.le_of_ble_eq_true rfl) (VR_V hX 29 (ct_Mo_at (cx_t hX) K v1 v3 M40) my_Mo_at mi_Mo_at ms_Mo_at ml_Mo_124 (Nat.le_of_ble_eq_true rfl) (Nat.le_of_ble_eq_true rfl) (by decide) (ent_32 K _) rfl rfl rfl (Nat.le_of_ble_eq_true rfl) rfl (Nat.le_of_ble_eq_true rfl) (Nat.le_of_ble_eq_true rfl)) (fun r46 M46 => ?_)
      refine V_icmp_le hX 30 52 56 rfl rfl (by decide) (fun c49 => ?_) (fun c49 => ?_)
      · refine V_iconst hX (v := 0) (hv := by decide) 33 57 rfl rfl ?_
        refine VV_sub [0, 1, 3, 4] rfl ?_
        exact bt_Mo_falling_57 hX k17 (fn_Mo_falling_29 k17 v1 v3 n) v1 v3 v4 hk17 ih v2 0 M46
      · refine V_iconst hX (v := 1) (hv := by decide) 31 53 rfl rfl ?_
        refine V_goto hX 32 57 rfl (by decide) ?_
        refine VV_sub [0, 1, 3, 4] rfl ?_
        exact bt_Mo_falling_57 hX k17 (fn_Mo_falling_29 k17 v1 v3 n) v1 v3 v4 hk17 ih v2 1 M46
set_option maxRecDepth 20000 in
theorem bt_Mo_falling_17 {l : Launch} {K : KT} {X : XT} (hX : Cx l K 3 5 0 0 X prog_15_method_83_code "SeriesArchiveModel" (some .int) [] L_Mo_falling) (v1 : Int32) : ∀ (n : Nat) (v2 : Int32) (v3 : Int32) (M : Mm), VV l K 3 5 0 0 rvI X (fn_Mo_falling_17 v1 n v2 v3 M) 0 0 M 17 [(0, .ref (kA K 32)), (1, .int v1), (2, .int v2), (3, .int v3)] [] := by
  intro n
  induction n with
  | zero => intro v2 v3 M; exact VV_none
  | succ n ih =>
    intro v2 v3 M
    rw [fn_Mo_falling_17]
    refine V_iload_n hX (j := 3) (hj := rfl) 11 18 rfl rfl ?_
    refine V_aload_n hX (j := 0) (hj := rfl) 12 19 rfl rfl ?_
    refine V_iload_n hX (j := 1) (hj := rfl) 13 20 rfl rfl ?_
    refine V_callI hX 23 0 0 rfl rfl rfl (Nat.le_of_ble_eq_true rfl) (Nat.le_of_ble_eq_true rfl) (VR_V hX 14 (ct_Mo_many (cx_t hX) K v1 M) my_Mo_many mi_Mo_many ms_Mo_many ml_Mo_93 (Nat.le_of_ble_eq_true rfl) (Nat.le_of_ble_eq_true rfl) (by decide) (ent_32 K _) rfl rfl rfl (Nat.le_of_ble_eq_true rfl) rfl (Nat.le_of_ble_eq_true rfl) (Nat.le_of_ble_eq_true rfl)) (fun r20 M20 => ?_)
    refine V_icmp_ge hX 15 26 71 rfl rfl (by decide) (fun c23 => ?_) (fun c23 => ?_)
    · refine V_iload_n hX (j := 2) (hj := rfl) 40 72 rfl rfl ?_
      exact V_iret hX 41 rfl (Nat.le_of_ble_eq_true rfl) (Nat.le_of_ble_eq_true rfl) rfl
    · refine V_iconst hX (v := 0) (hv := by decide) 16 27 rfl rfl ?_
      refine V_istore hX 17 29 [(4, .int 0), (0, .ref (kA K 32)), (1, .int v1), (2, .int v2), (3, .int v3)] rfl rfl (Nat.le_of_ble_eq_true rfl) rfl ?_
      refine VV_sub [1, 2, 3, 4, 0] rfl ?_
      exact bt_Mo_falling_29 hX (fn_Mo_falling_17 v1 n) v1 v3 ih fuel0 v2 0 M20
set_option maxRecDepth 20000 in
theorem ct_Mo_falling {l : Launch} (hl : l.stackTraces = false) (K : KT) (v1 : Int32) (M : Mm) : CTp l K y_Mo_falling (Cond.code y_Mo_falling prog_15_method_83_code 5 (some .int)) rvI 3 0 0 [.ref (kA K 32), .int v1] M (fn_Mo_falling v1 M) := by
  refine CTp_of (L := L_Mo_falling) (lc := [(0, .ref (kA K 32)), (1, .int v1)]) (by decide +kernel) dec_Mo_falling hl rfl (Nat.le_of_ble_eq_true rfl) (fun X hX => ?_)
  unfold fn_Mo_falling
  refine V_aload_n hX (j := 0) (hj := rfl) 0 1 rfl rfl ?_
  refine V_iload_n hX (j := 1) (hj := rfl) 1 2 rfl rfl ?_
  refine V_callI hX 5 0 0 rfl rfl rfl (Nat.le_of_ble_eq_true rfl) (Nat.le_of_ble_eq_true rfl) (VR_S hX 2 (ct_Mo_isSlot (cx_t hX) K v1 M) my_Mo_isSlot mt_Mo_isSlot ml_Mo_89 (Nat.le_of_ble_eq_true rfl) (Nat.le_of_ble_eq_true rfl) rfl rfl (Nat.le_of_ble_eq_true rfl) rfl (Nat.le_of_ble_eq_true rfl) (Nat.le_of_ble_eq_true rfl)) (fun r2 M2 => ?_)
  refine V_callI hX 8 0 0 rfl rfl rfl (Nat.le_of_ble_eq_true rfl) (Nat.le_of_ble_eq_true rfl) (VR_V hX 3 (ct_Mo_checked (cx_t hX) K r2 M2) my_Mo_checked mi_Mo_checked ms_Mo_checked ml_Mo_189 (Nat.le_of_ble_eq_true rfl) (Nat.le_of_ble_eq_true rfl) (by decide) (ent_32 K _) rfl rfl rfl (Nat.le_of_ble_eq_true rfl) rfl (Nat.le_of_ble_eq_true rfl) (Nat.le_of_ble_eq_true rfl)) (fun r5 M5 => ?_)
  refine V_if_le hX 4 11 13 rfl rfl (by decide) (fun c8 => ?_) (fun c8 => ?_)
  · refine V_iconst hX (v := 0) (hv := by decide) 7 14 rfl rfl ?_
    refine V_istore_n hX 8 15 [(2, .int 0), (0, .ref (kA K 32)), (1, .int v1)] rfl rfl (Nat.le_of_ble_eq_true rfl) rfl ?_
    refine V_iconst hX (v := 0) (hv := by decide) 9 16 rfl rfl ?_
    refine V_istore_n hX 10 17 [(3, .int 0), (2, .int 0), (0, .ref (kA K 32)), (1, .int v1)] rfl rfl (Nat.le_of_ble_eq_true rfl) rfl ?_
    refine VV_sub [2, 3, 1, 0] rfl ?_
    exact bt_Mo_falling_17 hX v1 fuel0 0 0 M5
  · refine V_iconst hX (v := 0) (hv := by decide) 5 12 rfl rfl ?_
    exact V_iret hX 6 rfl (Nat.le_of_ble_eq_true rfl) (Nat.le_of_ble_eq_true rfl) rfl
set_option maxRecDepth 20000 in
theorem ct_Mo_inversions {l : Launch} (hl : l.stackTraces = false) (K : KT) (v1 : Int32) (M : Mm) : CTp l K y_Mo_inversions (Cond.code y_Mo_inversions prog_15_method_84_code 2 (some .int)) rvI 4 0 0 [.ref (kA K 32), .int v1] M (fn_Mo_inversions v1 M) := by
  refine CTp_of (L := L_Mo_inversions) (lc := [(0, .ref (kA K 32)), (1, .int v1)]) (by decide +kernel) dec_Mo_inversions hl rfl (Nat.le_of_ble_eq_true rfl) (fun X hX => ?_)
  unfold fn_Mo_inversions
  refine V_aload_n hX (j := 0) (hj := rfl) 0 1 rfl rfl ?_
  refine V_iload_n hX (j := 1) (hj := rfl) 1 2 rfl rfl ?_
  refine V_callI hX 5 0 0 rfl rfl rfl (Nat.le_of_ble_eq_true rfl) (Nat.le_of_ble_eq_true rfl) (VR_V hX 2 (ct_Mo_falling (cx_t hX) K v1 M) my_Mo_falling mi_Mo_falling ms_Mo_falling ml_Mo_234 (Nat.le_of_ble_eq_true rfl) (Nat.le_of_ble_eq_true rfl) (by decide) (ent_32 K _) rfl rfl rfl (Nat.le_of_ble_eq_true rfl) rfl (Nat.le_of_ble_eq_true rfl) (Nat.le_of_ble_eq_true rfl)) (fun r2 M2 => ?_)
  exact V_iret hX 3 rfl (Nat.le_of_ble_eq_true rfl) (Nat.le_of_ble_eq_true rfl) rfl
set_option maxRecDepth 20000 in
theorem ct_Mo_inversionsByPairs {l : Launch} (hl : l.stackTraces = false) (K : KT) (v1 : Int32) (M : Mm) : CTp l K y_Mo_inversionsByPairs (Cond.code y_Mo_inversionsByPairs prog_15_method_85_code 2 (some .int)) rvI 4 0 0 [.ref (kA K 32), .int v1] M (fn_Mo_inversionsByPairs v1 M) := by
  refine CTp_of (L := L_Mo_inversionsByPairs) (lc := [(0, .ref (kA K 32)), (1, .int v1)]) (by decide +kernel) dec_Mo_inversionsByPairs hl rfl (Nat.le_of_ble_eq_true rfl) (fun X hX => ?_)
  unfold fn_Mo_inversionsByPairs
  refine V_aload_n hX (j := 0) (hj := rfl) 0 1 rfl rfl ?_
  refine V_iload_n hX (j := 1) (hj := rfl) 1 2 rfl rfl ?_
  refine V_callI hX 5 0 0 rfl rfl rfl (Nat.le_of_ble_eq_true rfl) (Nat.le_of_ble_eq_true rfl) (VR_V hX 2 (ct_Mo_falling (cx_t hX) K v1 M) my_Mo_falling mi_Mo_falling ms_Mo_falling ml_Mo_234 (Nat.le_of_ble_eq_true rfl) (Nat.le_of_ble_eq_true rfl) (by decide) (ent_32 K _) rfl rfl rfl (Nat.le_of_ble_eq_true rfl) rfl (Nat.le_of_ble_eq_true rfl) (Nat.le_of_ble_eq_true rfl)) (fun r2 M2 => ?_)
  exact V_iret hX 3 rfl (Nat.le_of_ble_eq_true rfl) (Nat.le_of_ble_eq_true rfl) rfl
set_option maxRecDepth 20000 in
theorem bt_Mo_period_50 {l : Launch} {K : KT} {X : XT} (hX : Cx l K 4 4 0 0 X prog_15_method_86_code "SeriesArchiveModel" (some .int) [] L_Mo_period) (k14 : Int32 → Int32 → Mm → Rs Int32) (v1 : Int32) (v2 : Int32) (v3 : Int32) (hk14 : ∀ (v2 : Int32) (v3 : Int32) M, VV l K 4 4 0 0 rvI X (k14 v2 v3 M) 0 0 M 14 [(0, .ref (kA K 32)), (1, .int v1), (2, .int v2), (3, .int v3)] []) (M : Mm) : VV l K 4 4 0 0 rvI X (fn_Mo_period_50 k14 v1 v2 v3 M) 0 0 M 50 [(0, .ref (kA K 32)), (1, .int v1), (2, .int v2), (3, .int v3)] [] := by
  unfold fn_Mo_period_50
  refine V_iincL hX 32 53 3 rfl rfl rfl rfl (Nat.le_of_ble_eq_true rfl) (fun x3_50 hx3_50 => ?_)
  refine VV_lc [(3, .int x3_50), (0, .ref (kA K 32)), (1, .int v1), (2, .int v2)] rfl ?_
  refine V_goto hX 33 14 rfl (by decide) ?_
  refine VV_sub [1, 2, 3, 0] rfl ?_
  exact hk14 v2 x3_50 M
set_option maxRecDepth 20000 in
theorem bt_Mo_period_14 {l : Launch} {K : KT} {X : XT} (hX : Cx l K 4 4 0 0 X prog_15_method_86_code "SeriesArchiveModel" (some .int) [] L_Mo_period) (v1 : Int32) : ∀ (n : Nat) (v2 : Int32) (v3 : Int32) (M : Mm), VV l K 4 4 0 0 rvI X (fn_Mo_period_14 v1 n v2 v3 M) 0 0 M 14 [(0, .ref (kA K 32)), (1, .int v1), (2, .int v2), (3, .int v3)] [] := by
  intro n
  induction n with
  | zero => intro v2 v3 M; exact VV_none
  | succ n ih =>
    intro v2 v3 M
    rw [fn_Mo_period_14]
    refine V_iload_n hX (j := 3) (hj := rfl) 10 15 rfl rfl ?_
    refine V_iload_n hX (j := 2) (hj := rfl) 11 16 rfl rfl ?_
    refine V_iadd hX 12 17 rfl rfl ?_
    refine V_aload_n hX (j := 0) (hj := rfl) 13 18 rfl rfl ?_
    refine V_iload_n hX (j := 1) (hj := rfl) 14 19 rfl rfl ?_
    refine V_callI hX 22 0 0 rfl rfl rfl (Nat.le_of_ble_eq_true rfl) (Nat.le_of_ble_eq_true rfl) (VR_V hX 15 (ct_Mo_many (cx_t hX) K v1 M) my_Mo_many mi_Mo_many ms_Mo_many ml_Mo_93 (Nat.le_of_ble_eq_true rfl) (Nat.le_of_ble_eq_true rfl) (by decide) (ent_32 K _) rfl rfl rfl (Nat.le_of_ble_eq_true rfl) rfl (Nat.le_of_ble_eq_true rfl) (Nat.le_of_ble_eq_true rfl)) (fun r19 M19 => ?_)
    refine V_icmp_ge hX 16 25 56 rfl rfl (by decide) (fun c22 => ?_) (fun c22 => ?_)
    · refine V_iload_n hX (j := 2) (hj := rfl) 34 57 rfl rfl ?_
      exact V_iret hX 35 rfl (Nat.le_of_ble_eq_true rfl) (Nat.le_of_ble_eq_true rfl) rfl
    · refine V_aload_n hX (j := 0) (hj := rfl) 17 26 rfl rfl ?_
      refine V_iload_n hX (j := 1) (hj := rfl) 18 27 rfl rfl ?_
      refine V_iload_n hX (j := 3) (hj := rfl) 19 28 rfl rfl ?_
      refine V_callI hX 31 0 0 rfl rfl rfl (Nat.le_of_ble_eq_true rfl) (Nat.le_of_ble_eq_true rfl) (VR_V hX 20 (ct_Mo_at (cx_t hX) K v1 v3 M19) my_Mo_at mi_Mo_at ms_Mo_at ml_Mo_124 (Nat.le_of_ble_eq_true rfl) (Nat.le_of_ble_eq_true rfl) (by decide) (ent_32 K _) rfl rfl rfl (Nat.le_of_ble_eq_true rfl) rfl (Nat.le_of_ble_eq_true rfl) (Nat.le_of_ble_eq_true rfl)) (fun r28 M28 => ?_)
      refine V_aload_n hX (j := 0) (hj := rfl) 21 32 rfl rfl ?_
      refine V_iload_n hX (j := 1) (hj := rfl) 22 33 rfl rfl ?_
      refine V_iload_n hX (j := 3) (hj := rfl) 23 34 rfl rfl ?_
      refine V_iload_n hX (j := 2) (hj := rfl) 24 35 rfl rfl ?_
      refine V_iadd hX 25 36 rfl rfl ?_
      refine V_callI hX 39 0 0 rfl rfl rfl (Nat.le_of_ble_eq_true rfl) (Nat.le_of_ble_eq_true rfl) (VR_V hX 26 (ct_Mo_at (cx_t hX) K v1 (v3 + v2) M28) my_Mo_at mi_Mo_at ms_Mo_at ml_Mo_124 (Nat.le_of_ble_eq_true rfl) (Nat.le_of_ble_eq_true rfl) (by decide) (ent_32 K _) rfl rfl rfl (Nat.le_of_ble_eq_true rfl) rfl (Nat.le_of_ble_eq_true rfl) (Nat.le_of_ble_eq_true rfl)) (fun r36 M36 => ?_)
      refine V_icmp_ne hX 27 42 45 rfl rfl (by decide) (fun c39 => ?_) (fun c39 => ?_)
      · refine V_iincL hX 29 48 2 rfl rfl rfl rfl (Nat.le_of_ble_eq_true rfl) (fun x2_45 hx2_45 => ?_)
        refine VV_lc [(2, .int x2_45), (0, .ref (kA K 32)), (1, .int v1), (3, .int v3)] rfl ?_
        refine V_iconst hX (v := (-1)) (hv := by decide) 30 49 rfl rfl ?_
        refine V_istore_n hX 31 50 [(3, .int (-1)), (2, .int x2_45), (0, .ref (kA K 32)), (1, .int v1)] rfl rfl (Nat.le_of_ble_eq_true rfl) rfl ?_
        refine VV_sub [2, 3, 1, 0] rfl ?_
        exact bt_Mo_period_50 hX (fn_Mo_period_14 v1 n) v1 x2_45 (-1) ih M36
      · refine V_goto hX 28 50 rfl (by decide) ?_
        exact bt_Mo_period_50 hX (fn_Mo_period_14 v1 n) v1 v2 v3 ih M36
set_option maxRecDepth 20000 in
theorem ct_Mo_period {l : Launch} (hl : l.stackTraces = false) (K : KT) (v1 : Int32) (M : Mm) : CTp l K y_Mo_period (Cond.code y_Mo_period prog_15_method_86_code 4 (some .int)) rvI 4 0 0 [.ref (kA K 32), .int v1] M (fn_Mo_period v1 M) := by
  refine CTp_of (L := L_Mo_period) (lc := [(0, .ref (kA K 32)), (1, .int v1)]) (by decide +kernel) dec_Mo_period hl rfl (Nat.le_of_ble_eq_true rfl) (fun X hX => ?_)
  unfold fn_Mo_period
  refine V_aload_n hX (j := 0) (hj := rfl) 0 1 rfl rfl ?_
  refine V_iload_n hX (j := 1) (hj := rfl) 1 2 rfl rfl ?_
  refine V_callI hX 5 0 0 rfl rfl rfl (Nat.le_of_ble_eq_true rfl) (Nat.le_of_ble_eq_true rfl) (VR_V hX 2 (ct_Mo_filled (cx_t hX) K v1 M) my_Mo_filled mi_Mo_filled ms_Mo_filled ml_Mo_225 (Nat.le_of_ble_eq_true rfl) (Nat.le_of_ble_eq_true rfl) (by decide) (ent_32 K _) rfl rfl rfl (Nat.le_of_ble_eq_true rfl) rfl (Nat.le_of_ble_eq_true rfl) (Nat.le_of_ble_eq_true rfl)) (fun r2 M2 => ?_)
  refine V_if_le hX 3 8 10 rfl rfl (by decide) (fun c5 => ?_) (fun c5 => ?_)
  · refine V_iconst hX (v := 1) (hv := by decide) 6 11 rfl rfl ?_
    refine V_istore_n hX 7 12 [(2, .int 1), (0, .ref (kA K 32)), (1, .int v1)] rfl rfl (Nat.le_of_ble_eq_true rfl) rfl ?_
    refine V_iconst hX (v := 0) (hv := by decide) 8 13 rfl rfl ?_
    refine V_istore_n hX 9 14 [(3, .int 0), (2, .int 1), (0, .ref (kA K 32)), (1, .int v1)] rfl rfl (Nat.le_of_ble_eq_true rfl) rfl ?_
    refine VV_sub [2, 3, 1, 0] rfl ?_
    exact bt_Mo_period_14 hX v1 fuel0 1 0 M2
  · refine V_iconst hX (v := 0) (hv := by decide) 4 9 rfl rfl ?_
    exact V_iret hX 5 rfl (Nat.le_of_ble_eq_true rfl) (Nat.le_of_ble_eq_true rfl) rfl
set_option maxRecDepth 20000 in
theorem ct_Mo_leastPeriod {l : Launch} (hl : l.stackTraces = false) (K : KT) (v1 : Int32) (M : Mm) : CTp l K y_Mo_leastPeriod (Cond.code y_Mo_leastPeriod prog_15_method_87_code 2 (some .int)) rvI 5 0 0 [.ref (kA K 32), .int v1] M (fn_Mo_leastPeriod v1 M) := by
  refine CTp_of (L := L_Mo_leastPeriod) (lc := [(0, .ref (kA K 32)), (1, .int v1)]) (by decide +kernel) dec_Mo_leastPeriod hl rfl (Nat.le_of_ble_eq_true rfl) (fun X hX => ?_)
  unfold fn_Mo_leastPeriod
  refine V_aload_n hX (j := 0) (hj := rfl) 0 1 rfl rfl ?_
  refine V_iload_n hX (j := 1) (hj := rfl) 1 2 rfl rfl ?_
  refine V_callI hX 5 0 0 rfl rfl rfl (Nat.le_of_ble_eq_true rfl) (Nat.le_of_ble_eq_true rfl) (VR_V hX 2 (ct_Mo_period (cx_t hX) K v1 M) my_Mo_period mi_Mo_period ms_Mo_period ml_Mo_237 (Nat.le_of_ble_eq_true rfl) (Nat.le_of_ble_eq_true rfl) (by decide) (ent_32 K _) rfl rfl rfl (Nat.le_of_ble_eq_true rfl) rfl (Nat.le_of_ble_eq_true rfl) (Nat.le_of_ble_eq_true rfl)) (fun r2 M2 => ?_)
  exact V_iret hX 3 rfl (Nat.le_of_ble_eq_true rfl) (Nat.le_of_ble_eq_true rfl) rfl
set_option maxRecDepth 20000 in
theorem ct_Mo_leastPeriodByTrial {l : Launch} (hl : l.stackTraces = false) (K : KT) (v1 : Int32) (M : Mm) : CTp l K y_Mo_leastPeriodByTrial (Cond.code y_Mo_leastPeriodByTrial prog_15_method_88_code 2 (some .int)) rvI 5 0 0 [.ref (kA K 32), .int v1] M (fn_Mo_leastPeriodByTrial v1 M) := by
  refine CTp_of (L := L_Mo_leastPeriodByTrial) (lc := [(0, .ref (kA K 32)), (1, .int v1)]) (by decide +kernel) dec_Mo_leastPeriodByTrial hl rfl (Nat.le_of_ble_eq_true rfl) (fun X hX => ?_)
  unfold fn_Mo_leastPeriodByTrial
  refine V_aload_n hX (j := 0) (hj := rfl) 0 1 rfl rfl ?_
  refine V_iload_n hX (j := 1) (hj := rfl) 1 2 rfl rfl ?_
  refine V_callI hX 5 0 0 rfl rfl rfl (Nat.le_of_ble_eq_true rfl) (Nat.le_of_ble_eq_true rfl) (VR_V hX 2 (ct_Mo_period (cx_t hX) K v1 M) my_Mo_period mi_Mo_period ms_Mo_period ml_Mo_237 (Nat.le_of_ble_eq_true rfl) (Nat.le_of_ble_eq_true rfl) (by decide) (ent_32 K _) rfl rfl rfl (Nat.le_of_ble_eq_true rfl) rfl (Nat.le_of_ble_eq_true rfl) (Nat.le_of_ble_eq_true rfl)) (fun r2 M2 => ?_)
  exact V_iret hX 3 rfl (Nat.le_of_ble_eq_true rfl) (Nat.le_of_ble_eq_true rfl) rfl
set_option maxRecDepth 20000 in
theorem bt_Mo_isThere_3 {l : Launch} {K : KT} {X : XT} (hX : Cx l K 2 5 0 0 X prog_15_method_89_code "SeriesArchiveModel" (some .boolean) [] L_Mo_isThere) (v1 : Int32) (v2 : Int32) (v3 : Int32) : ∀ (n : Nat) (v4 : Int32) (M : Mm), VV l K 2 5 0 0 rvI X (fn_Mo_isThere_3 v1 v2 v3 n v4 M) 0 0 M 3 [(0, .ref (kA K 32)), (1, .int v1), (2, .int v2), (3, .int v3), (4, .int v4)] [] := by
  intro n
  induction n with
  | zero => intro v4 M; exact VV_none
  | succ n ih =>
    intro v4 M
    rw [fn_Mo_isThere_3]
    refine V_iload hX (j := 4) (hj := rfl) 2 5 rfl rfl ?_
    refine V_aload_n hX (j := 0) (hj := rfl) 3 6 rfl rfl ?_
    refine V_iload_n hX (j := 2) (hj := rfl) 4 7 rfl rfl ?_
    refine V_callI hX 10 0 0 rfl rfl rfl (Nat.le_of_ble_eq_true rfl) (Nat.le_of_ble_eq_true rfl) (VR_V hX 5 (ct_Mo_many (cx_t hX) K v2 M) my_Mo_many mi_Mo_many ms_Mo_many ml_Mo_93 (Nat.le_of_ble_eq_true rfl) (Nat.le_of_ble_eq_true rfl) (by decide) (ent_32 K _) rfl rfl rfl (Nat.le_of_ble_eq_true rfl) rfl (Nat.le_of_ble_eq_true rfl) (Nat.le_of_ble_eq_true rfl)) (fun r7 M7 => ?_)
    refine V_icmp_ge hX 6 13 40 rfl rfl (by decide) (fun c10 => ?_) (fun c10 => ?_)
    · refine V_iconst hX (v := 1) (hv := by decide) 22 41 rfl rfl ?_
      exact V_zret hX 23 rfl rfl (Nat.le_of_ble_eq_true rfl) (Nat.le_of_ble_eq_true rfl) rfl
    · refine V_aload_n hX (j := 0) (hj := rfl) 7 14 rfl rfl ?_
      refine V_iload_n hX (j := 1) (hj := rfl) 8 15 rfl rfl ?_
      refine V_iload_n hX (j := 3) (hj := rfl) 9 16 rfl rfl ?_
      refine V_iload hX (j := 4) (hj := rfl) 10 18 rfl rfl ?_
      refine V_iadd hX 11 19 rfl rfl ?_
      refine V_callI hX 22 0 0 rfl rfl rfl (Nat.le_of_ble_eq_true rfl) (Nat.le_of_ble_eq_true rfl) (VR_V hX 12 (ct_Mo_at (cx_t hX) K v1 (v3 + v4) M7) my_Mo_at mi_Mo_at ms_Mo_at ml_Mo_124 (Nat.le_of_ble_eq_true rfl) (Nat.le_of_ble_eq_true rfl) (by decide) (ent_32 K _) rfl rfl rfl (Nat.le_of_ble_eq_true rfl) rfl (Nat.le_of_ble_eq_true rfl) (Nat.le_of_ble_eq_true rfl)) (fun r19 M19 => ?_)
      refine V_aload_n hX (j := 0) (hj := rfl) 13 23 rfl rfl ?_
      refine V_iload_n hX (j := 2) (hj := rfl) 14 24 rfl rfl ?_
      refine V_iload hX (j := 4) (hj := rfl) 15 26 rfl rfl ?_
      refine V_callI hX 29 0 0 rfl rfl rfl (Nat.le_of_ble_eq_true rfl) (Nat.le_of_ble_eq_true rfl) (VR_V hX 16 (ct_Mo_at (cx_t hX) K v2 v4 M19) my_Mo_at mi_Mo_at ms_Mo_at ml_Mo_124 (Nat.le_of_ble_eq_true rfl) (Nat.le_of_ble_eq_true rfl) (by decide) (ent_32 K _) rfl rfl rfl (Nat.le_of_ble_eq_true rfl) rfl (Nat.le_of_ble_eq_true rfl) (Nat.le_of_ble_eq_true rfl)) (fun r26 M26 => ?_)
      refine V_icmp_eq hX 17 32 34 rfl rfl (by decide) (fun c29 => ?_) (fun c29 => ?_)
      · refine V_iincL hX 20 37 4 rfl rfl rfl rfl (Nat.le_of_ble_eq_true rfl) (fun x4_34 hx4_34 => ?_)
        refine VV_lc [(4, .int x4_34), (0, .ref (kA K 32)), (1, .int v1), (2, .int v2), (3, .int v3)] rfl ?_
        refine V_goto hX 21 3 rfl (by decide) ?_
        refine VV_sub [1, 2, 3, 4, 0] rfl ?_
        exact ih x4_34 M26
      · refine V_iconst hX (v := 0) (hv := by decide) 18 33 rfl rfl ?_
        exact V_zret hX 19 rfl rfl (Nat.le_of_ble_eq_true rfl) (Nat.le_of_ble_eq_true rfl) rfl
set_option maxRecDepth 20000 in
theorem ct_Mo_isThere {l : Launch} (hl : l.stackTraces = false) (K : KT) (v1 : Int32) (v2 : Int32) (v3 : Int32) (M : Mm) : CTp l K y_Mo_isThere (Cond.code y_Mo_isThere prog_15_method_89_code 5 (some .boolean)) rvI 2 0 0 [.ref (kA K 32), .int v1, .int v2, .int v3] M (fn_Mo_isThere v1 v2 v3 M) := by
  refine CTp_of (L := L_Mo_isThere) (lc := [(0, .ref (kA K 32)), (1, .int v1), (2, .int v2), (3, .int v3)]) (by decide +kernel) dec_Mo_isThere hl rfl (Nat.le_of_ble_eq_true rfl) (fun X hX => ?_)
  unfold fn_Mo_isThere
  refine V_iconst hX (v := 0) (hv := by decide) 0 1 rfl rfl ?_
  refine V_istore hX 1 3 [(4, .int 0), (0, .ref (kA K 32)), (1, .int v1), (2, .int v2), (3, .int v3)] rfl rfl (Nat.le_of_ble_eq_true rfl) rfl ?_
  refine VV_sub [1, 2, 3, 4, 0] rfl ?_
  exact bt_Mo_isThere_3 hX v1 v2 v3 fuel0 0 M
set_option maxRecDepth 20000 in
theorem bt_Mo_places_82 {l : Launch} {K : KT} {X : XT} (hX : Cx l K 3 5 0 0 X prog_15_method_90_code "SeriesArchiveModel" (some .int) [] L_Mo_places) (k49 : Int32 → Int32 → Mm → Rs Int32) (v1 : Int32) (v2 : Int32) (v4 : Int32) (hk49 : ∀ (v3 : Int32) (v4 : Int32) M, VV l K 3 5 0 0 rvI X (k49 v3 v4 M) 0 0 M 49 [(0, .ref (kA K 32)), (1, .int v1), (2, .int v2), (3, .int v3), (4, .int v4)] []) (s0 : Int32) (s1 : Int32) (M : Mm) : VV l K 3 5 0 0 rvI X (fn_Mo_places_82 k49 v1 v2 v4 s0 s1 M) 0 0 M 82 [(0, .ref (kA K 32)), (1, .int v1), (2, .int v2), (4, .int v4)] [.int s1, .int s0] := by
  unfold fn_Mo_places_82
  refine V_iadd hX 45 83 rfl rfl ?_
  refine VV_li (fun x3_83 hx3_83 => ?_)
  refine V_istore_n hX 46 84 [(3, .int x3_83), (0, .ref (kA K 32)), (1, .int v1), (2, .int v2), (4, .int v4)] rfl rfl (Nat.le_of_ble_eq_true rfl) rfl ?_
  refine V_iincL hX 47 87 4 rfl rfl rfl rfl (Nat.le_of_ble_eq_true rfl) (fun x4_84 hx4_84 => ?_)
  refine VV_lc [(4, .int x4_84), (3, .int x3_83), (0, .ref (kA K 32)), (1, .int v1), (2, .int v2)] rfl ?_
  refine V_goto hX 48 49 rfl (by decide) ?_
  refine VV_sub [2, 3, 4, 1, 0] rfl ?_
  exact hk49 x3_83 x4_84 M
set_option maxRecDepth 20000 in
theorem bt_Mo_places_49 {l : Launch} {K : KT} {X : XT} (hX : Cx l K 3 5 0 0 X prog_15_method_90_code "SeriesArchiveModel" (some .int) [] L_Mo_places) (v1 : Int32) (v2 : Int32) : ∀ (n : Nat) (v3 : Int32) (v4 : Int32) (M : Mm), VV l K 3 5 0 0 rvI X (fn_Mo_places_49 v1 v2 n v3 v4 M) 0 0 M 49 [(0, .ref (kA K 32)), (1, .int v1), (2, .int v2), (3, .int v3), (4, .int v4)] [] := by
  intro n
  induction n with
  | zero => intro v3 v4 M; exact VV_none
  | succ n ih =>
    intro v3 v4 M
    rw [fn_Mo_places_49]
    refine V_iload hX (j := 4) (hj := rfl) 26 51 rfl rfl ?_
    refine V_aload_n hX (j := 0) (hj := rfl) 27 52 rfl rfl ?_
    refine V_iload_n hX (j := 2) (hj := rfl) 28 53 rfl rfl ?_
    refine V_callI hX 56 0 0 rfl rfl rfl (Nat.le_of_ble_eq_true rfl) (Nat.le_of_ble_eq_true rfl) (VR_V hX 29 (ct_Mo_many (cx_t hX) K v2 M) my_Mo_many mi_Mo_many ms_Mo_many ml_Mo_93 (Nat.le_of_ble_eq_true rfl) (Nat.le_of_ble_eq_true rfl) (by decide) (ent_32 K _) rfl rfl rfl (Nat.le_of_ble_eq_true rfl) rfl (Nat.le_of_ble_eq_true rfl) (Nat.le_of_ble_eq_true rfl)) (fun r53 M53 => ?_)
    refine V_iadd hX 30 57 rfl rfl ?_
    refine V_aload_n hX (j := 0) (hj := rfl) 31 58 rfl rfl ?_
    refine V_iload_n hX (j := 1) (hj := rfl) 32 59 rfl rfl ?_
    refine V_callI hX 62 0 0 rfl rfl rfl (Nat.le_of_ble_eq_true rfl) (Nat.le_of_ble_eq_true rfl) (VR_V hX 33 (ct_Mo_many (cx_t hX) K v1 M53) my_Mo_many mi_Mo_many ms_Mo_many ml_Mo_93 (Nat.le_of_ble_eq_true rfl) (Nat.le_of_ble_eq_true rfl) (by decide) (ent_32 K _) rfl rfl rfl (Nat.le_of_ble_eq_true rfl) rfl (Nat.le_of_ble_eq_true rfl) (Nat.le_of_ble_eq_true rfl)) (fun r59 M59 => ?_)
    refine V_icmp_gt hX 34 65 90 rfl rfl (by decide) (fun c62 => ?_) (fun c62 => ?_)
    · refine V_iload_n hX (j := 3) (hj := rfl) 49 91 rfl rfl ?_
      exact V_iret hX 50 rfl (Nat.le_of_ble_eq_true rfl) (Nat.le_of_ble_eq_true rfl) rfl
    · refine V_iload_n hX (j := 3) (hj := rfl) 35 66 rfl rfl ?_
      refine V_aload_n hX (j := 0) (hj := rfl) 36 67 rfl rfl ?_
      refine V_iload_n hX (j := 1) (hj := rfl) 37 68 rfl rfl ?_
      refine V_iload_n hX (j := 2) (hj := rfl) 38 69 rfl rfl ?_
      refine V_iload hX (j := 4) (hj := rfl) 39 71 rfl rfl ?_
      refine V_callI hX 74 0 0 rfl rfl rfl (Nat.le_of_ble_eq_true rfl) (Nat.le_of_ble_eq_true rfl) (VR_V hX 40 (ct_Mo_isThere (cx_t hX) K v1 v2 v4 M59) my_Mo_isThere mi_Mo_isThere ms_Mo_isThere ml_Mo_240 (Nat.le_of_ble_eq_true rfl) (Nat.le_of_ble_eq_true rfl) (by decide) (ent_32 K _) rfl rfl rfl (Nat.le_of_ble_eq_true rfl) rfl (Nat.le_of_ble_eq_true rfl) (Nat.le_of_ble_eq_true rfl)) (fun r71 M71 => ?_)
      refine V_if_eq hX 41 77 81 rfl rfl (by decide) (fun c74 => ?_) (fun c74 => ?_)
      · refine V_iconst hX (v := 0) (hv := by decide) 44 82 rfl rfl ?_
        refine VV_sub [0, 1, 2, 4] rfl ?_
        exact bt_Mo_places_82 hX (fn_Mo_places_49 v1 v2 n) v1 v2 v4 ih v3 0 M71
      · refine V_iconst hX (v := 1) (hv := by decide) 42 78 rfl rfl ?_
        refine V_goto hX 43 82 rfl (by decide) ?_
        refine VV_sub [0, 1, 2, 4] rfl ?_
        exact bt_Mo_places_82 hX (fn_Mo_places_49 v1 v2 n) v1 v2 v4 ih v3 1 M71
set_option maxRecDepth 20000 in
theorem bt_Mo_places_32 {l : Launch} {K : KT} {X : XT} (hX : Cx l K 3 5 0 0 X prog_15_method_90_code "SeriesArchiveModel" (some .int) [] L_Mo_places) (v1 : Int32) (v2 : Int32) (s1 : Int32) (M : Mm) : VV l K 3 5 0 0 rvI X (fn_Mo_places_32 v1 v2 s1 M) 0 0 M 32 [(0, .ref (kA K 32)), (1, .int v1), (2, .int v2)] [.int s1, .ref (kA K 32)] := by
  unfold fn_Mo_places_32
  refine V_putI hX 16 35 32 fp_Mo_28 (by decide) rfl rfl (by decide) (ent_32 K _) (Nat.le_of_ble_eq_true rfl) (ent_32 K _) (fun M32 hM32 => ?_)
  refine V_aload_n hX (j := 0) (hj := rfl) 17 36 rfl rfl ?_
  refine V_get hX 18 39 32 (.int (M32 32 6)) fl_Mo_28 rfl rfl (by decide) (ent_32 K _) rfl ?_
  refine V_if_le hX 19 42 44 rfl rfl (by decide) (fun c39 => ?_) (fun c39 => ?_)
  · refine V_iconst hX (v := 0) (hv := by decide) 22 45 rfl rfl ?_
    refine V_istore_n hX 23 46 [(3, .int 0), (0, .ref (kA K 32)), (1, .int v1), (2, .int v2)] rfl rfl (Nat.le_of_ble_eq_true rfl) rfl ?_
    refine V_iconst hX (v := 0) (hv := by decide) 24 47 rfl rfl ?_
    refine V_istore hX 25 49 [(4, .int 0), (3, .int 0), (0, .ref (kA K 32)), (1, .int v1), (2, .int v2)] rfl rfl (Nat.le_of_ble_eq_true rfl) rfl ?_
    refine VV_sub [2, 3, 4, 1, 0] rfl ?_
    exact bt_Mo_places_49 hX v1 v2 fuel0 0 0 M32
  · refine V_iconst hX (v := 0) (hv := by decide) 20 43 rfl rfl ?_
    exact V_iret hX 21 rfl (Nat.le_of_ble_eq_true rfl) (Nat.le_of_ble_eq_true rfl) rfl
set_option maxRecDepth 20000 in
theorem bt_Mo_places_15 {l : Launch} {K : KT} {X : XT} (hX : Cx l K 3 5 0 0 X prog_15_method_90_code "SeriesArchiveModel" (some .int) [] L_Mo_places) (v1 : Int32) (v2 : Int32) (M : Mm) : VV l K 3 5 0 0 rvI X (fn_Mo_places_15 v1 v2 M) 0 0 M 15 [(0, .ref (kA K 32)), (1, .int v1), (2, .int v2)] [.ref (kA K 32)] := by
  unfold fn_Mo_places_15
  refine V_iconst hX (v := 1) (hv := by decide) 7 16 rfl rfl ?_
  refine V_goto hX 8 32 rfl (by decide) ?_
  exact bt_Mo_places_32 hX v1 v2 1 M
set_option maxRecDepth 20000 in
theorem ct_Mo_places {l : Launch} (hl : l.stackTraces = false) (K : KT) (v1 : Int32) (v2 : Int32) (M : Mm) : CTp l K y_Mo_places (Cond.code y_Mo_places prog_15_method_90_code 5 (some .int)) rvI 3 0 0 [.ref (kA K 32), .int v1, .int v2] M (fn_Mo_places v1 v2 M) := by
  refine CTp_of (L := L_Mo_places) (lc := [(0, .ref (kA K 32)), (1, .int v1), (2, .int v2)]) (by decide +kernel) dec_Mo_places hl rfl (Nat.le_of_ble_eq_true rfl) (fun X hX => ?_)
  unfold fn_Mo_places
  refine V_aload_n hX (j := 0) (hj := rfl) 0 1 rfl rfl ?_
  refine V_iload_n hX (j := 1) (hj := rfl) 1 2 rfl rfl ?_
  refine V_callI hX 5 0 0 rfl rfl rfl (Nat.le_of_ble_eq_true rfl) (Nat.le_of_ble_eq_true rfl) (VR_S hX 2 (ct_Mo_isSlot (cx_t hX) K v1 M) my_Mo_isSlot mt_Mo_isSlot ml_Mo_89 (Nat.le_of_ble_eq_true rfl) (Nat.le_of_ble_eq_true rfl) rfl rfl (Nat.le_of_ble_eq_true rfl) rfl (Nat.le_of_ble_eq_true rfl) (Nat.le_of_ble_eq_true rfl)) (fun r2 M2 => ?_)
  refine V_if_eq hX 3 8 15 rfl rfl (by decide) (fun c5 => ?_) (fun c5 => ?_)
  · exact bt_Mo_places_15 hX v1 v2 M2
  · refine V_iload_n hX (j := 2) (hj := rfl) 4 9 rfl rfl ?_
    refine V_callI hX 12 0 0 rfl rfl rfl (Nat.le_of_ble_eq_true rfl) (Nat.le_of_ble_eq_true rfl) (VR_S hX 5 (ct_Mo_isSlot (cx_t hX) K v2 M2) my_Mo_isSlot mt_Mo_isSlot ml_Mo_89 (Nat.le_of_ble_eq_true rfl) (Nat.le_of_ble_eq_true rfl) rfl rfl (Nat.le_of_ble_eq_true rfl) rfl (Nat.le_of_ble_eq_true rfl) (Nat.le_of_ble_eq_true rfl)) (fun r9 M9 => ?_)
    refine V_if_ne hX 6 15 19 rfl rfl (by decide) (fun c12 => ?_) (fun c12 => ?_)
    · refine V_aload_n hX (j := 0) (hj := rfl) 9 20 rfl rfl ?_
      refine V_iload_n hX (j := 2) (hj := rfl) 10 21 rfl rfl ?_
      refine V_callI hX 24 0 0 rfl rfl rfl (Nat.le_of_ble_eq_true rfl) (Nat.le_of_ble_eq_true rfl) (VR_V hX 11 (ct_Mo_many (cx_t hX) K v2 M9) my_Mo_many mi_Mo_many ms_Mo_many ml_Mo_93 (Nat.le_of_ble_eq_true rfl) (Nat.le_of_ble_eq_true rfl) (by decide) (ent_32 K _) rfl rfl rfl (Nat.le_of_ble_eq_true rfl) rfl (Nat.le_of_ble_eq_true rfl) (Nat.le_of_ble_eq_true rfl)) (fun r21 M21 => ?_)
      refine V_if_ne hX 12 27 31 rfl rfl (by decide) (fun c24 => ?_) (fun c24 => ?_)
      · refine V_iconst hX (v := 0) (hv := by decide) 15 32 rfl rfl ?_
        exact bt_Mo_places_32 hX v1 v2 0 M21
      · refine V_iconst hX (v := 2) (hv := by decide) 13 28 rfl rfl ?_
        refine V_goto hX 14 32 rfl (by decide) ?_
        exact bt_Mo_places_32 hX v1 v2 2 M21
    · exact bt_Mo_places_15 hX v1 v2 M9
