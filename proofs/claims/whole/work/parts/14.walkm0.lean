set_option maxRecDepth 20000 in
theorem ct_Mo_thrown {l : Launch} (hl : l.stackTraces = false) (K : KT) (M : Mm) : CTp l K y_Mo_thrown (Cond.code y_Mo_thrown prog_15_method_2_code 1 (some .int)) rvI 1 0 0 [.ref (kA K 32)] M (fn_Mo_thrown M) := by
  refine CTp_of (L := L_Mo_thrown) (lc := [(0, .ref (kA K 32))]) (by decide +kernel) dec_Mo_thrown hl rfl (Nat.le_of_ble_eq_true rfl) (fun X hX => ?_)
  unfold fn_Mo_thrown
  refine V_aload_n hX (j := 0) (hj := rfl) 0 1 rfl rfl ?_
  refine V_get hX 1 4 32 (.int (M 32 6)) fl_Mo_28 rfl rfl (by decide) (ent_32 K _) rfl ?_
  exact V_iret hX 2 rfl (Nat.le_of_ble_eq_true rfl) (Nat.le_of_ble_eq_true rfl) rfl
set_option maxRecDepth 20000 in
theorem ct_Mo_in {l : Launch} (hl : l.stackTraces = false) (K : KT) (v0 : Int32) (v1 : Int32) (v2 : Int32) (M : Mm) : CTp l K y_Mo_in (Cond.code y_Mo_in prog_15_method_3_code 3 (some .boolean)) rvI 1 0 0 [.int v0, .int v1, .int v2] M (fn_Mo_in v0 v1 v2 M) := by
  refine CTp_of (L := L_Mo_in) (lc := [(0, .int v0), (1, .int v1), (2, .int v2)]) (by decide +kernel) dec_Mo_in hl rfl (Nat.le_of_ble_eq_true rfl) (fun X hX => ?_)
  unfold fn_Mo_in
  refine V_iload_n hX (j := 0) (hj := rfl) 0 1 rfl rfl ?_
  refine V_iload_n hX (j := 1) (hj := rfl) 1 2 rfl rfl ?_
  refine V_icmp_lt hX 2 5 14 rfl rfl (by decide) (fun c2 => ?_) (fun c2 => ?_)
  · refine V_iconst hX (v := 0) (hv := by decide) 8 15 rfl rfl ?_
    exact V_zret hX 9 rfl rfl (Nat.le_of_ble_eq_true rfl) (Nat.le_of_ble_eq_true rfl) rfl
  · refine V_iload_n hX (j := 0) (hj := rfl) 3 6 rfl rfl ?_
    refine V_iload_n hX (j := 2) (hj := rfl) 4 7 rfl rfl ?_
    refine V_icmp_gt hX 5 10 14 rfl rfl (by decide) (fun c7 => ?_) (fun c7 => ?_)
    · refine V_iconst hX (v := 0) (hv := by decide) 8 15 rfl rfl ?_
      exact V_zret hX 9 rfl rfl (Nat.le_of_ble_eq_true rfl) (Nat.le_of_ble_eq_true rfl) rfl
    · refine V_iconst hX (v := 1) (hv := by decide) 6 11 rfl rfl ?_
      refine V_goto hX 7 15 rfl (by decide) ?_
      exact V_zret hX 9 rfl rfl (Nat.le_of_ble_eq_true rfl) (Nat.le_of_ble_eq_true rfl) rfl
set_option maxRecDepth 20000 in
theorem ct_Mo_size {l : Launch} (hl : l.stackTraces = false) (K : KT) (v0 : Int32) (M : Mm) : CTp l K y_Mo_size (Cond.code y_Mo_size prog_15_method_4_code 1 (some .int)) rvI 1 0 0 [.int v0] M (fn_Mo_size v0 M) := by
  refine CTp_of (L := L_Mo_size) (lc := [(0, .int v0)]) (by decide +kernel) dec_Mo_size hl rfl (Nat.le_of_ble_eq_true rfl) (fun X hX => ?_)
  unfold fn_Mo_size
  refine V_iload_n hX (j := 0) (hj := rfl) 0 1 rfl rfl ?_
  refine V_if_ge hX 1 4 9 rfl rfl (by decide) (fun c1 => ?_) (fun c1 => ?_)
  · refine V_iload_n hX (j := 0) (hj := rfl) 5 10 rfl rfl ?_
    exact V_iret hX 6 rfl (Nat.le_of_ble_eq_true rfl) (Nat.le_of_ble_eq_true rfl) rfl
  · refine V_iload_n hX (j := 0) (hj := rfl) 2 5 rfl rfl ?_
    refine V_ineg hX 3 6 rfl rfl ?_
    refine V_goto hX 4 10 rfl (by decide) ?_
    exact V_iret hX 6 rfl (Nat.le_of_ble_eq_true rfl) (Nat.le_of_ble_eq_true rfl) rfl
set_option maxRecDepth 20000 in
theorem ct_Mo_less {l : Launch} (hl : l.stackTraces = false) (K : KT) (v0 : Int32) (v1 : Int32) (M : Mm) : CTp l K y_Mo_less (Cond.code y_Mo_less prog_15_method_5_code 2 (some .int)) rvI 1 0 0 [.int v0, .int v1] M (fn_Mo_less v0 v1 M) := by
  refine CTp_of (L := L_Mo_less) (lc := [(0, .int v0), (1, .int v1)]) (by decide +kernel) dec_Mo_less hl rfl (Nat.le_of_ble_eq_true rfl) (fun X hX => ?_)
  unfold fn_Mo_less
  refine V_iload_n hX (j := 0) (hj := rfl) 0 1 rfl rfl ?_
  refine V_iload_n hX (j := 1) (hj := rfl) 1 2 rfl rfl ?_
  refine V_icmp_ge hX 2 5 9 rfl rfl (by decide) (fun c2 => ?_) (fun c2 => ?_)
  · refine V_iload_n hX (j := 1) (hj := rfl) 5 10 rfl rfl ?_
    exact V_iret hX 6 rfl (Nat.le_of_ble_eq_true rfl) (Nat.le_of_ble_eq_true rfl) rfl
  · refine V_iload_n hX (j := 0) (hj := rfl) 3 6 rfl rfl ?_
    refine V_goto hX 4 10 rfl (by decide) ?_
    exact V_iret hX 6 rfl (Nat.le_of_ble_eq_true rfl) (Nat.le_of_ble_eq_true rfl) rfl
set_option maxRecDepth 20000 in
theorem ct_Mo_more {l : Launch} (hl : l.stackTraces = false) (K : KT) (v0 : Int32) (v1 : Int32) (M : Mm) : CTp l K y_Mo_more (Cond.code y_Mo_more prog_15_method_6_code 2 (some .int)) rvI 1 0 0 [.int v0, .int v1] M (fn_Mo_more v0 v1 M) := by
  refine CTp_of (L := L_Mo_more) (lc := [(0, .int v0), (1, .int v1)]) (by decide +kernel) dec_Mo_more hl rfl (Nat.le_of_ble_eq_true rfl) (fun X hX => ?_)
  unfold fn_Mo_more
  refine V_iload_n hX (j := 0) (hj := rfl) 0 1 rfl rfl ?_
  refine V_iload_n hX (j := 1) (hj := rfl) 1 2 rfl rfl ?_
  refine V_icmp_le hX 2 5 9 rfl rfl (by decide) (fun c2 => ?_) (fun c2 => ?_)
  · refine V_iload_n hX (j := 1) (hj := rfl) 5 10 rfl rfl ?_
    exact V_iret hX 6 rfl (Nat.le_of_ble_eq_true rfl) (Nat.le_of_ble_eq_true rfl) rfl
  · refine V_iload_n hX (j := 0) (hj := rfl) 3 6 rfl rfl ?_
    refine V_goto hX 4 10 rfl (by decide) ?_
    exact V_iret hX 6 rfl (Nat.le_of_ble_eq_true rfl) (Nat.le_of_ble_eq_true rfl) rfl
set_option maxRecDepth 20000 in
theorem bt_Mo_copyAll_3 {l : Launch} {K : KT} {X : XT} (hX : Cx l K 1 5 0 0 X prog_15_method_7_code "SeriesArchiveModel" none [] L_Mo_copyAll) (v0 : Nat) (v1 : Int32) (v2 : Nat) (v3 : Int32) (hv0 : isIA v0) (hv2 : isIA v2) : ∀ (n : Nat) (v4 : Int32) (M : Mm), VV l K 1 5 0 0 rvU X (fn_Mo_copyAll_3 v0 v1 v2 v3 n v4 M) 0 0 M 3 [(0, .ref (kA K v0)), (1, .int v1), (2, .ref (kA K v2)), (3, .int v3), (4, .int v4)] [] := by
  intro n
  induction n with
  | zero => intro v4 M; exact VV_none
  | succ n ih =>
    intro v4 M
    rw [fn_Mo_copyAll_3]
    refine V_iload hX (j := 4) (hj := rfl) 2 5 rfl rfl ?_
    refine V_bipush hX (v := 85) (hv := by decide) 3 7 rfl rfl ?_
    refine V_icmp_ge hX 4 10 28 rfl rfl (by decide) (fun c7 => ?_) (fun c7 => ?_)
    · exact V_vret hX 17 rfl (Nat.le_of_ble_eq_true rfl) (Nat.le_of_ble_eq_true rfl) rfl
    · refine V_aload_n hX (j := 2) (hj := rfl) 5 11 rfl rfl ?_
      refine V_iload_n hX (j := 3) (hj := rfl) 6 12 rfl rfl ?_
      refine V_iload hX (j := 4) (hj := rfl) 7 14 rfl rfl ?_
      refine V_iadd hX 8 15 rfl rfl ?_
      refine V_aload_n hX (j := 0) (hj := rfl) 9 16 rfl rfl ?_
      refine V_iload_n hX (j := 1) (hj := rfl) 10 17 rfl rfl ?_
      refine V_iload hX (j := 4) (hj := rfl) 11 19 rfl rfl ?_
      refine V_iadd hX 12 20 rfl rfl ?_
      refine V_iald hX 13 21 v0 (alen v0) hv0 rfl rfl rfl (fun g20 => ?_)
      refine V_iast hX 14 22 v2 (alen v2) hv2 rfl rfl rfl (fun g21 M21 hM21 => ?_)
      refine V_iincL hX 15 25 4 rfl rfl rfl rfl (Nat.le_of_ble_eq_true rfl) (fun x4_22 hx4_22 => ?_)
      refine VV_lc [(4, .int x4_22), (0, .ref (kA K v0)), (1, .int v1), (2, .ref (kA K v2)), (3, .int v3)] rfl ?_
      refine V_goto hX 16 3 rfl (by decide) ?_
      refine VV_sub [1, 2, 3, 4, 0] rfl ?_
      exact ih x4_22 M21
set_option maxRecDepth 20000 in
theorem ct_Mo_copyAll {l : Launch} (hl : l.stackTraces = false) (K : KT) (v0 : Nat) (v1 : Int32) (v2 : Nat) (v3 : Int32) (M : Mm) : CTp l K y_Mo_copyAll (Cond.code y_Mo_copyAll prog_15_method_7_code 5 none) rvU 1 0 0 [.ref (kA K v0), .int v1, .ref (kA K v2), .int v3] M (fn_Mo_copyAll v0 v1 v2 v3 M) := by
  refine CTp_of (L := L_Mo_copyAll) (lc := [(0, .ref (kA K v0)), (1, .int v1), (2, .ref (kA K v2)), (3, .int v3)]) (by decide +kernel) dec_Mo_copyAll hl rfl (Nat.le_of_ble_eq_true rfl) (fun X hX => ?_)
  unfold fn_Mo_copyAll
  refine VV_grd (fun hv0 => ?_)
  refine VV_grd (fun hv2 => ?_)
  refine V_iconst hX (v := 0) (hv := by decide) 0 1 rfl rfl ?_
  refine V_istore hX 1 3 [(4, .int 0), (0, .ref (kA K v0)), (1, .int v1), (2, .ref (kA K v2)), (3, .int v3)] rfl rfl (Nat.le_of_ble_eq_true rfl) rfl ?_
  refine VV_sub [1, 2, 3, 4, 0] rfl ?_
  exact bt_Mo_copyAll_3 hX v0 v1 v2 v3 hv0 hv2 fuel0 0 M
set_option maxRecDepth 20000 in
theorem ct_Mo_fail {l : Launch} (hl : l.stackTraces = false) (K : KT) (v1 : Int32) (M : Mm) : CTp l K y_Mo_fail (Cond.code y_Mo_fail prog_15_method_8_code 2 (some .int)) rvI 1 0 0 [.ref (kA K 32), .int v1] M (fn_Mo_fail v1 M) := by
  refine CTp_of (L := L_Mo_fail) (lc := [(0, .ref (kA K 32)), (1, .int v1)]) (by decide +kernel) dec_Mo_fail hl rfl (Nat.le_of_ble_eq_true rfl) (fun X hX => ?_)
  unfold fn_Mo_fail
  refine V_aload_n hX (j := 0) (hj := rfl) 0 1 rfl rfl ?_
  refine V_iload_n hX (j := 1) (hj := rfl) 1 2 rfl rfl ?_
  refine V_putI hX 2 5 32 fp_Mo_28 (by decide) rfl rfl (by decide) (ent_32 K _) (Nat.le_of_ble_eq_true rfl) (ent_32 K _) (fun M2 hM2 => ?_)
  refine V_iconst hX (v := 0) (hv := by decide) 3 6 rfl rfl ?_
  exact V_iret hX 4 rfl (Nat.le_of_ble_eq_true rfl) (Nat.le_of_ble_eq_true rfl) rfl
set_option maxRecDepth 20000 in
theorem ct_Mo_begin {l : Launch} (hl : l.stackTraces = false) (K : KT) (M : Mm) : CTp l K y_Mo_begin (Cond.code y_Mo_begin prog_15_method_9_code 1 none) rvU 2 0 0 [.ref (kA K 32)] M (fn_Mo_begin M) := by
  refine CTp_of (L := L_Mo_begin) (lc := [(0, .ref (kA K 32))]) (by decide +kernel) dec_Mo_begin hl rfl (Nat.le_of_ble_eq_true rfl) (fun X hX => ?_)
  unfold fn_Mo_begin
  refine V_aload_n hX (j := 0) (hj := rfl) 0 1 rfl rfl ?_
  refine V_iconst hX (v := 0) (hv := by decide) 1 2 rfl rfl ?_
  refine V_putI hX 2 5 32 fp_Mo_28 (by decide) rfl rfl (by decide) (ent_32 K _) (Nat.le_of_ble_eq_true rfl) (ent_32 K _) (fun M2 hM2 => ?_)
  refine V_aload_n hX (j := 0) (hj := rfl) 3 6 rfl rfl ?_
  refine V_get hX 4 9 32 (.ref (kA K 33)) fl_Mo_7 rfl rfl (by decide) (ent_32 K _) rfl ?_
  refine V_iconst hX (v := 0) (hv := by decide) 5 10 rfl rfl ?_
  refine V_aload_n hX (j := 0) (hj := rfl) 6 11 rfl rfl ?_
  refine V_get hX 7 14 32 (.ref (kA K 34)) fl_Mo_13 rfl rfl (by decide) (ent_32 K _) rfl ?_
  refine V_iconst hX (v := 0) (hv := by decide) 8 15 rfl rfl ?_
  refine V_callU hX 18 0 0 rfl rfl rfl (Nat.le_of_ble_eq_true rfl) (Nat.le_of_ble_eq_true rfl) (VR_S hX 9 (ct_Mo_copyAll (cx_t hX) K 33 0 34 0 M2) my_Mo_copyAll mt_Mo_copyAll ml_Mo_81 (Nat.le_of_ble_eq_true rfl) (Nat.le_of_ble_eq_true rfl) rfl rfl (Nat.le_of_ble_eq_true rfl) rfl (Nat.le_of_ble_eq_true rfl) (Nat.le_of_ble_eq_true rfl)) (fun r15 M15 => ?_)
  exact V_vret hX 10 rfl (Nat.le_of_ble_eq_true rfl) (Nat.le_of_ble_eq_true rfl) rfl
set_option maxRecDepth 20000 in
theorem bt_Mo_commit_54 {l : Launch} {K : KT} {X : XT} (hX : Cx l K 2 3 0 0 X prog_15_method_10_code "SeriesArchiveModel" (some .int) [] L_Mo_commit) (v1 : Int32) (M : Mm) : VV l K 2 3 0 0 rvI X (fn_Mo_commit_54 v1 M) 0 0 M 54 [(0, .ref (kA K 32)), (1, .int v1)] [] := by
  unfold fn_Mo_commit_54
  refine V_aload_n hX (j := 0) (hj := rfl) 30 55 rfl rfl ?_
  refine V_get hX 31 58 32 (.ref (kA K 34)) fl_Mo_13 rfl rfl (by decide) (ent_32 K _) rfl ?_
  refine V_iconst hX (v := 0) (hv := by decide) 32 59 rfl rfl ?_
  refine V_aload_n hX (j := 0) (hj := rfl) 33 60 rfl rfl ?_
  refine V_get hX 34 63 32 (.ref (kA K 36)) fl_Mo_19 rfl rfl (by decide) (ent_32 K _) rfl ?_
  refine V_bipush hX (v := 85) (hv := by decide) 35 65 rfl rfl ?_
  refine V_aload_n hX (j := 0) (hj := rfl) 36 66 rfl rfl ?_
  refine V_get hX 37 69 32 (.int (M 32 7)) fl_Mo_32 rfl rfl (by decide) (ent_32 K _) rfl ?_
  refine V_imul hX 38 70 rfl rfl ?_
  refine V_callU hX 73 0 0 rfl rfl rfl (Nat.le_of_ble_eq_true rfl) (Nat.le_of_ble_eq_true rfl) (VR_S hX 39 (ct_Mo_copyAll (cx_t hX) K 34 0 36 (85 * (M 32 7)) M) my_Mo_copyAll mt_Mo_copyAll ml_Mo_81 (Nat.le_of_ble_eq_true rfl) (Nat.le_of_ble_eq_true rfl) rfl rfl (Nat.le_of_ble_eq_true rfl) rfl (Nat.le_of_ble_eq_true rfl) (Nat.le_of_ble_eq_true rfl)) (fun r70 M70 => ?_)
  refine V_aload_n hX (j := 0) (hj := rfl) 40 74 rfl rfl ?_
  refine V_dup hX (hc := rfl) 41 75 rfl rfl ?_
  refine V_get hX 42 78 32 (.int (M70 32 7)) fl_Mo_32 rfl rfl (by decide) (ent_32 K _) rfl ?_
  refine V_iconst hX (v := 1) (hv := by decide) 43 79 rfl rfl ?_
  refine V_iadd hX 44 80 rfl rfl ?_
  refine V_putI hX 45 83 32 fp_Mo_32 (by decide) rfl rfl (by decide) (ent_32 K _) (Nat.le_of_ble_eq_true rfl) (ent_32 K _) (fun M80 hM80 => ?_)
  refine V_iload_n hX (j := 1) (hj := rfl) 46 84 rfl rfl ?_
  exact V_iret hX 47 rfl (Nat.le_of_ble_eq_true rfl) (Nat.le_of_ble_eq_true rfl) rfl
set_option maxRecDepth 20000 in
theorem bt_Mo_commit_44 {l : Launch} {K : KT} {X : XT} (hX : Cx l K 2 3 0 0 X prog_15_method_10_code "SeriesArchiveModel" (some .int) [] L_Mo_commit) (v1 : Int32) (M : Mm) : VV l K 2 3 0 0 rvI X (fn_Mo_commit_44 v1 M) 0 0 M 44 [(0, .ref (kA K 32)), (1, .int v1)] [] := by
  unfold fn_Mo_commit_44
  refine V_aload_n hX (j := 0) (hj := rfl) 24 45 rfl rfl ?_
  refine V_dup hX (hc := rfl) 25 46 rfl rfl ?_
  refine V_get hX 26 49 32 (.int (M 32 7)) fl_Mo_32 rfl rfl (by decide) (ent_32 K _) rfl ?_
  refine V_iconst hX (v := 1) (hv := by decide) 27 50 rfl rfl ?_
  refine V_isub hX 28 51 rfl rfl ?_
  refine V_putI hX 29 54 32 fp_Mo_32 (by decide) rfl rfl (by decide) (ent_32 K _) (Nat.le_of_ble_eq_true rfl) (ent_32 K _) (fun M51 hM51 => ?_)
  exact bt_Mo_commit_54 hX v1 M51
set_option maxRecDepth 20000 in
theorem bt_Mo_commit_11 {l : Launch} {K : KT} {X : XT} (hX : Cx l K 2 3 0 0 X prog_15_method_10_code "SeriesArchiveModel" (some .int) [] L_Mo_commit) (v1 : Int32) : ∀ (n : Nat) (v2 : Int32) (M : Mm), VV l K 2 3 0 0 rvI X (fn_Mo_commit_11 v1 n v2 M) 0 0 M 11 [(0, .ref (kA K 32)), (1, .int v1), (2, .int v2)] [] := by
  intro n
  induction n with
  | zero => intro v2 M; exact VV_none
  | succ n ih =>
    intro v2 M
    rw [fn_Mo_commit_11]
    refine V_iload_n hX (j := 2) (hj := rfl) 6 12 rfl rfl ?_
    refine V_bipush hX (v := 8) (hv := by decide) 7 14 rfl rfl ?_
    refine V_icmp_ge hX 8 17 44 rfl rfl (by decide) (fun c14 => ?_) (fun c14 => ?_)
    · refine VV_sub [0, 1] rfl ?_
      exact bt_Mo_commit_44 hX v1 M
    · refine V_aload_n hX (j := 0) (hj := rfl) 9 18 rfl rfl ?_
      refine V_get hX 10 21 32 (.ref (kA K 36)) fl_Mo_19 rfl rfl (by decide) (ent_32 K _) rfl ?_
      refine V_bipush hX (v := 85) (hv := by decide) 11 23 rfl rfl ?_
      refine V_iload_n hX (j := 2) (hj := rfl) 12 24 rfl rfl ?_
      refine V_imul hX 13 25 rfl rfl ?_
      refine V_aload_n hX (j := 0) (hj := rfl) 14 26 rfl rfl ?_
      refine V_get hX 15 29 32 (.ref (kA K 36)) fl_Mo_19 rfl rfl (by decide) (ent_32 K _) rfl ?_
      refine V_bipush hX (v := 85) (hv := by decide) 16 31 rfl rfl ?_
      refine V_iload_n hX (j := 2) (hj := rfl) 17 32 rfl rfl ?_
      refine V_iconst hX (v := 1) (hv := by decide) 18 33 rfl rfl ?_
      refine V_isub hX 19 34 rfl rfl ?_
      refine V_imul hX 20 35 rfl rfl ?_
      refine V_callU hX 38 0 0 rfl rfl rfl (Nat.le_of_ble_eq_true rfl) (Nat.le_of_ble_eq_true rfl) (VR_S hX 21 (ct_Mo_copyAll (cx_t hX) K 36 (85 * v2) 36 (85 * (v2 - 1)) M) my_Mo_copyAll mt_Mo_copyAll ml_Mo_81 (Nat.le_of_ble_eq_true rfl) (Nat.le_of_ble_eq_true rfl) rfl rfl (Nat.le_of_ble_eq_true rfl) rfl (Nat.le_of_ble_eq_true rfl) (Nat.le_of_ble_eq_true rfl)) (fun r35 M35 => ?_)
      refine V_iincL hX 22 41 2 rfl rfl rfl rfl (Nat.le_of_ble_eq_true rfl) (fun x2_38 hx2_38 => ?_)
      refine VV_lc [(2, .int x2_38), (0, .ref (kA K 32)), (1, .int v1)] rfl ?_
      refine V_goto hX 23 11 rfl (by decide) ?_
      refine VV_sub [1, 2, 0] rfl ?_
      exact ih x2_38 M35
set_option maxRecDepth 20000 in
theorem ct_Mo_commit {l : Launch} (hl : l.stackTraces = false) (K : KT) (v1 : Int32) (M : Mm) : CTp l K y_Mo_commit (Cond.code y_Mo_commit prog_15_method_10_code 3 (some .int)) rvI 2 0 0 [.ref (kA K 32), .int v1] M (fn_Mo_commit v1 M) := by
  refine CTp_of (L := L_Mo_commit) (lc := [(0, .ref (kA K 32)), (1, .int v1)]) (by decide +kernel) dec_Mo_commit hl rfl (Nat.le_of_ble_eq_true rfl) (fun X hX => ?_)
  unfold fn_Mo_commit
  refine V_aload_n hX (j := 0) (hj := rfl) 0 1 rfl rfl ?_
  refine V_get hX 1 4 32 (.int (M 32 7)) fl_Mo_32 rfl rfl (by decide) (ent_32 K _) rfl ?_
  refine V_bipush hX (v := 8) (hv := by decide) 2 6 rfl rfl ?_
  refine V_icmp_ne hX 3 9 54 rfl rfl (by decide) (fun c6 => ?_) (fun c6 => ?_)
  · exact bt_Mo_commit_54 hX v1 M
  · refine V_iconst hX (v := 1) (hv := by decide) 4 10 rfl rfl ?_
    refine V_istore_n hX 5 11 [(2, .int 1), (0, .ref (kA K 32)), (1, .int v1)] rfl rfl (Nat.le_of_ble_eq_true rfl) rfl ?_
    refine VV_sub [1, 2, 0] rfl ?_
    exact bt_Mo_commit_11 hX v1 fuel0 1 M
set_option maxRecDepth 20000 in
theorem ct_Mo_plain {l : Launch} (hl : l.stackTraces = false) (K : KT) (v1 : Int32) (M : Mm) : CTp l K y_Mo_plain (Cond.code y_Mo_plain prog_15_method_11_code 2 (some .int)) rvI 1 0 0 [.ref (kA K 32), .int v1] M (fn_Mo_plain v1 M) := by
  refine CTp_of (L := L_Mo_plain) (lc := [(0, .ref (kA K 32)), (1, .int v1)]) (by decide +kernel) dec_Mo_plain hl rfl (Nat.le_of_ble_eq_true rfl) (fun X hX => ?_)
  unfold fn_Mo_plain
  refine V_aload_n hX (j := 0) (hj := rfl) 0 1 rfl rfl ?_
  refine V_iconst hX (v := 0) (hv := by decide) 1 2 rfl rfl ?_
  refine V_putI hX 2 5 32 fp_Mo_28 (by decide) rfl rfl (by decide) (ent_32 K _) (Nat.le_of_ble_eq_true rfl) (ent_32 K _) (fun M2 hM2 => ?_)
  refine V_iload_n hX (j := 1) (hj := rfl) 3 6 rfl rfl ?_
  exact V_iret hX 4 rfl (Nat.le_of_ble_eq_true rfl) (Nat.le_of_ble_eq_true rfl) rfl
set_option maxRecDepth 20000 in
theorem bt_Mo_checked_10 {l : Launch} {K : KT} {X : XT} (hX : Cx l K 1 2 0 0 X prog_15_method_12_code "SeriesArchiveModel" (some .int) [] L_Mo_checked) (s1 : Int32) (M : Mm) : VV l K 1 2 0 0 rvI X (fn_Mo_checked_10 s1 M) 0 0 M 10 [(0, .ref (kA K 32))] [.int s1, .ref (kA K 32)] := by
  unfold fn_Mo_checked_10
  refine V_putI hX 6 13 32 fp_Mo_28 (by decide) rfl rfl (by decide) (ent_32 K _) (Nat.le_of_ble_eq_true rfl) (ent_32 K _) (fun M10 hM10 => ?_)
  refine V_aload_n hX (j := 0) (hj := rfl) 7 14 rfl rfl ?_
  refine V_get hX 8 17 32 (.int (M10 32 6)) fl_Mo_28 rfl rfl (by decide) (ent_32 K _) rfl ?_
  exact V_iret hX 9 rfl (Nat.le_of_ble_eq_true rfl) (Nat.le_of_ble_eq_true rfl) rfl
set_option maxRecDepth 20000 in
theorem ct_Mo_checked {l : Launch} (hl : l.stackTraces = false) (K : KT) (v1 : Int32) (M : Mm) : CTp l K y_Mo_checked (Cond.code y_Mo_checked prog_15_method_12_code 2 (some .int)) rvI 1 0 0 [.ref (kA K 32), .int v1] M (fn_Mo_checked v1 M) := by
  refine CTp_of (L := L_Mo_checked) (lc := [(0, .ref (kA K 32)), (1, .int v1)]) (by decide +kernel) dec_Mo_checked hl rfl (Nat.le_of_ble_eq_true rfl) (fun X hX => ?_)
  unfold fn_Mo_checked
  refine V_aload_n hX (j := 0) (hj := rfl) 0 1 rfl rfl ?_
  refine V_iload_n hX (j := 1) (hj := rfl) 1 2 rfl rfl ?_
  refine V_if_eq hX 2 5 9 rfl rfl (by decide) (fun c2 => ?_) (fun c2 => ?_)
  · refine V_iconst hX (v := 1) (hv := by decide) 5 10 rfl rfl ?_
    refine VV_sub [0] rfl ?_
    exact bt_Mo_checked_10 hX 1 M
  · refine V_iconst hX (v := 0) (hv := by decide) 3 6 rfl rfl ?_
    refine V_goto hX 4 10 rfl (by decide) ?_
    refine VV_sub [0] rfl ?_
    exact bt_Mo_checked_10 hX 0 M
set_option maxRecDepth 20000 in
theorem ct_Mo_isSlot {l : Launch} (hl : l.stackTraces = false) (K : KT) (v0 : Int32) (M : Mm) : CTp l K y_Mo_isSlot (Cond.code y_Mo_isSlot prog_15_method_13_code 1 (some .boolean)) rvI 2 0 0 [.int v0] M (fn_Mo_isSlot v0 M) := by
  refine CTp_of (L := L_Mo_isSlot) (lc := [(0, .int v0)]) (by decide +kernel) dec_Mo_isSlot hl rfl (Nat.le_of_ble_eq_true rfl) (fun X hX => ?_)
  unfold fn_Mo_isSlot
  refine V_iload_n hX (j := 0) (hj := rfl) 0 1 rfl rfl ?_
  refine V_iconst hX (v := 0) (hv := by decide) 1 2 rfl rfl ?_
  refine V_iconst hX (v := 3) (hv := by decide) 2 3 rfl rfl ?_
  refine V_callI hX 6 0 0 rfl rfl rfl (Nat.le_of_ble_eq_true rfl) (Nat.le_of_ble_eq_true rfl) (VR_S hX 3 (ct_Mo_in (cx_t hX) K v0 0 3 M) my_Mo_in mt_Mo_in ml_Mo_85 (Nat.le_of_ble_eq_true rfl) (Nat.le_of_ble_eq_true rfl) rfl rfl (Nat.le_of_ble_eq_true rfl) rfl (Nat.le_of_ble_eq_true rfl) (Nat.le_of_ble_eq_true rfl)) (fun r3 M3 => ?_)
  refine VV_grd (fun hz1 => ?_)
  exact V_zret hX 4 rfl (vp_narZ hz1).1 (Nat.le_of_ble_eq_true rfl) (Nat.le_of_ble_eq_true rfl) rfl
set_option maxRecDepth 20000 in
theorem ct_Mo_isValue {l : Launch} (hl : l.stackTraces = false) (K : KT) (v0 : Int32) (M : Mm) : CTp l K y_Mo_isValue (Cond.code y_Mo_isValue prog_15_method_14_code 1 (some .boolean)) rvI 2 0 0 [.int v0] M (fn_Mo_isValue v0 M) := by
  refine CTp_of (L := L_Mo_isValue) (lc := [(0, .int v0)]) (by decide +kernel) dec_Mo_isValue hl rfl (Nat.le_of_ble_eq_true rfl) (fun X hX => ?_)
  unfold fn_Mo_isValue
  refine V_iload_n hX (j := 0) (hj := rfl) 0 1 rfl rfl ?_
  refine V_bipush hX (v := (-99)) (hv := by decide) 1 3 rfl rfl ?_
  refine V_bipush hX (v := 99) (hv := by decide) 2 5 rfl rfl ?_
  refine V_callI hX 8 0 0 rfl rfl rfl (Nat.le_of_ble_eq_true rfl) (Nat.le_of_ble_eq_true rfl) (VR_S hX 3 (ct_Mo_in (cx_t hX) K v0 (-99) 99 M) my_Mo_in mt_Mo_in ml_Mo_85 (Nat.le_of_ble_eq_true rfl) (Nat.le_of_ble_eq_true rfl) rfl rfl (Nat.le_of_ble_eq_true rfl) rfl (Nat.le_of_ble_eq_true rfl) (Nat.le_of_ble_eq_true rfl)) (fun r5 M5 => ?_)
  refine VV_grd (fun hz1 => ?_)
  exact V_zret hX 4 rfl (vp_narZ hz1).1 (Nat.le_of_ble_eq_true rfl) (Nat.le_of_ble_eq_true rfl) rfl
set_option maxRecDepth 20000 in
theorem ct_Mo_many {l : Launch} (hl : l.stackTraces = false) (K : KT) (v1 : Int32) (M : Mm) : CTp l K y_Mo_many (Cond.code y_Mo_many prog_15_method_15_code 2 (some .int)) rvI 1 0 0 [.ref (kA K 32), .int v1] M (fn_Mo_many v1 M) := by
  refine CTp_of (L := L_Mo_many) (lc := [(0, .ref (kA K 32)), (1, .int v1)]) (by decide +kernel) dec_Mo_many hl rfl (Nat.le_of_ble_eq_true rfl) (fun X hX => ?_)
  unfold fn_Mo_many
  refine V_aload_n hX (j := 0) (hj := rfl) 0 1 rfl rfl ?_
  refine V_get hX 1 4 32 (.ref (kA K 33)) fl_Mo_7 rfl rfl (by decide) (ent_32 K _) rfl ?_
  refine V_bipush hX (v := 21) (hv := by decide) 2 6 rfl rfl ?_
  refine V_iload_n hX (j := 1) (hj := rfl) 3 7 rfl rfl ?_
  refine V_imul hX 4 8 rfl rfl ?_
  refine V_iald hX 5 9 33 85 (by decide) rfl rfl rfl (fun g8 => ?_)
  exact V_iret hX 6 rfl (Nat.le_of_ble_eq_true rfl) (Nat.le_of_ble_eq_true rfl) rfl
set_option maxRecDepth 20000 in
theorem ct_Mo_at {l : Launch} (hl : l.stackTraces = false) (K : KT) (v1 : Int32) (v2 : Int32) (M : Mm) : CTp l K y_Mo_at (Cond.code y_Mo_at prog_15_method_16_code 3 (some .int)) rvI 1 0 0 [.ref (kA K 32), .int v1, .int v2] M (fn_Mo_at v1 v2 M) := by
  refine CTp_of (L := L_Mo_at) (lc := [(0, .ref (kA K 32)), (1, .int v1), (2, .int v2)]) (by decide +kernel) dec_Mo_at hl rfl (Nat.le_of_ble_eq_true rfl) (fun X hX => ?_)
  unfold fn_Mo_at
  refine V_aload_n hX (j := 0) (hj := rfl) 0 1 rfl rfl ?_
  refine V_get hX 1 4 32 (.ref (kA K 33)) fl_Mo_7 rfl rfl (by decide) (ent_32 K _) rfl ?_
  refine V_bipush hX (v := 21) (hv := by decide) 2 6 rfl rfl ?_
  refine V_iload_n hX (j := 1) (hj := rfl) 3 7 rfl rfl ?_
  refine V_imul hX 4 8 rfl rfl ?_
  refine V_iconst hX (v := 1) (hv := by decide) 5 9 rfl rfl ?_
  refine V_iadd hX 6 10 rfl rfl ?_
  refine V_iload_n hX (j := 2) (hj := rfl) 7 11 rfl rfl ?_
  refine V_iadd hX 8 12 rfl rfl ?_
  refine V_iald hX 9 13 33 85 (by decide) rfl rfl rfl (fun g12 => ?_)
  exact V_iret hX 10 rfl (Nat.le_of_ble_eq_true rfl) (Nat.le_of_ble_eq_true rfl) rfl
set_option maxRecDepth 20000 in
theorem ct_Mo_lay {l : Launch} (hl : l.stackTraces = false) (K : KT) (v1 : Int32) (v2 : Int32) (v3 : Int32) (M : Mm) : CTp l K y_Mo_lay (Cond.code y_Mo_lay prog_15_method_17_code 4 none) rvU 1 0 0 [.ref (kA K 32), .int v1, .int v2, .int v3] M (fn_Mo_lay v1 v2 v3 M) := by
  refine CTp_of (L := L_Mo_lay) (lc := [(0, .ref (kA K 32)), (1, .int v1), (2, .int v2), (3, .int v3)]) (by decide +kernel) dec_Mo_lay hl rfl (Nat.le_of_ble_eq_true rfl) (fun X hX => ?_)
  unfold fn_Mo_lay
  refine V_aload_n hX (j := 0) (hj := rfl) 0 1 rfl rfl ?_
  refine V_get hX 1 4 32 (.ref (kA K 33)) fl_Mo_7 rfl rfl (by decide) (ent_32 K _) rfl ?_
  refine V_bipush hX (v := 21) (hv := by decide) 2 6 rfl rfl ?_
  refine V_iload_n hX (j := 1) (hj := rfl) 3 7 rfl rfl ?_
  refine V_imul hX 4 8 rfl rfl ?_
  refine V_iconst hX (v := 1) (hv := by decide) 5 9 rfl rfl ?_
  refine V_iadd hX 6 10 rfl rfl ?_
  refine V_iload_n hX (j := 2) (hj := rfl) 7 11 rfl rfl ?_
  refine V_iadd hX 8 12 rfl rfl ?_
  refine V_iload_n hX (j := 3) (hj := rfl) 9 13 rfl rfl ?_
  refine V_iast hX 10 14 33 85 (by decide) rfl rfl rfl (fun g13 M13 hM13 => ?_)
  exact V_vret hX 11 rfl (Nat.le_of_ble_eq_true rfl) (Nat.le_of_ble_eq_true rfl) rfl
set_option maxRecDepth 20000 in
theorem ct_Mo_isIndex {l : Launch} (hl : l.stackTraces = false) (K : KT) (v1 : Int32) (v2 : Int32) (M : Mm) : CTp l K y_Mo_isIndex (Cond.code y_Mo_isIndex prog_15_method_18_code 3 (some .boolean)) rvI 3 0 0 [.ref (kA K 32), .int v1, .int v2] M (fn_Mo_isIndex v1 v2 M) := by
  refine CTp_of (L := L_Mo_isIndex) (lc := [(0, .ref (kA K 32)), (1, .int v1), (2, .int v2)]) (by decide +kernel) dec_Mo_isIndex hl rfl (Nat.le_of_ble_eq_true rfl) (fun X hX => ?_)
  unfold fn_Mo_isIndex
  refine V_iload_n hX (j := 1) (hj := rfl) 0 1 rfl rfl ?_
  refine V_callI hX 4 0 0 rfl rfl rfl (Nat.le_of_ble_eq_true rfl) (Nat.le_of_ble_eq_true rfl) (VR_S hX 1 (ct_Mo_isSlot (cx_t hX) K v1 M) my_Mo_isSlot mt_Mo_isSlot ml_Mo_89 (Nat.le_of_ble_eq_true rfl) (Nat.le_of_ble_eq_true rfl) rfl rfl (Nat.le_of_ble_eq_true rfl) rfl (Nat.le_of_ble_eq_true rfl) (Nat.le_of_ble_eq_true rfl)) (fun r1 M1 => ?_)
  refine V_if_eq hX 2 7 26 rfl rfl (by decide) (fun c4 => ?_) (fun c4 => ?_)
  · refine V_iconst hX (v := 0) (hv := by decide) 14 27 rfl rfl ?_
    exact V_zret hX 15 rfl rfl (Nat.le_of_ble_eq_true rfl) (Nat.le_of_ble_eq_true rfl) rfl
  · refine V_iload_n hX (j := 2) (hj := rfl) 3 8 rfl rfl ?_
    refine V_iconst hX (v := 0) (hv := by decide) 4 9 rfl rfl ?_
    refine V_aload_n hX (j := 0) (hj := rfl) 5 10 rfl rfl ?_
    refine V_iload_n hX (j := 1) (hj := rfl) 6 11 rfl rfl ?_
    refine V_callI hX 14 0 0 rfl rfl rfl (Nat.le_of_ble_eq_true rfl) (Nat.le_of_ble_eq_true rfl) (VR_V hX 7 (ct_Mo_many (cx_t hX) K v1 M1) my_Mo_many mi_Mo_many ms_Mo_many ml_Mo_93 (Nat.le_of_ble_eq_true rfl) (Nat.le_of_ble_eq_true rfl) (by decide) (ent_32 K _) rfl rfl rfl (Nat.le_of_ble_eq_true rfl) rfl (Nat.le_of_ble_eq_true rfl) (Nat.le_of_ble_eq_true rfl)) (fun r11 M11 => ?_)
    refine V_iconst hX (v := 1) (hv := by decide) 8 15 rfl rfl ?_
    refine V_isub hX 9 16 rfl rfl ?_
    refine V_callI hX 19 0 0 rfl rfl rfl (Nat.le_of_ble_eq_true rfl) (Nat.le_of_ble_eq_true rfl) (VR_S hX 10 (ct_Mo_in (cx_t hX) K v2 0 (r11 - 1) M11) my_Mo_in mt_Mo_in ml_Mo_85 (Nat.le_of_ble_eq_true rfl) (Nat.le_of_ble_eq_true rfl) rfl rfl (Nat.le_of_ble_eq_true rfl) rfl (Nat.le_of_ble_eq_true rfl) (Nat.le_of_ble_eq_true rfl)) (fun r16 M16 => ?_)
    refine V_if_eq hX 11 22 26 rfl rfl (by decide) (fun c19 => ?_) (fun c19 => ?_)
    · refine V_iconst hX (v := 0) (hv := by decide) 14 27 rfl rfl ?_
      exact V_zret hX 15 rfl rfl (Nat.le_of_ble_eq_true rfl) (Nat.le_of_ble_eq_true rfl) rfl
    · refine V_iconst hX (v := 1) (hv := by decide) 12 23 rfl rfl ?_
      refine V_goto hX 13 27 rfl (by decide) ?_
      exact V_zret hX 15 rfl rfl (Nat.le_of_ble_eq_true rfl) (Nat.le_of_ble_eq_true rfl) rfl
set_option maxRecDepth 20000 in
theorem bt_Mo_close_12 {l : Launch} {K : KT} {X : XT} (hX : Cx l K 2 4 0 0 X prog_15_method_19_code "SeriesArchiveModel" none [] L_Mo_close) (v1 : Int32) : ∀ (n : Nat) (v3 : Int32) (M : Mm), VV l K 2 4 0 0 rvU X (fn_Mo_close_12 v1 n v3 M) 0 0 M 12 [(0, .ref (kA K 32)), (1, .int v1), (3, .int v3)] [] := by
  intro n
  induction n with
  | zero => intro v3 M; exact VV_none
  | succ n ih =>
    intro v3 M
    rw [fn_Mo_close_12]
    refine V_iload_n hX (j := 2) (hj := rfl) 9 13 rfl rfl ?_
    refine V_bipush hX (v := 20) (hv := by decide) 10 15 rfl rfl ?_
    refine V_icmp_ge hX 11 18 31 rfl rfl (by decide) (fun c15 => ?_) (fun c15 => ?_)
    · exact V_vret hX 19 rfl (Nat.le_of_ble_eq_true rfl) (Nat.le_of_ble_eq_true rfl) rfl
    · refine V_aload_n hX (j := 0) (hj := rfl) 12 19 rfl rfl ?_
      refine V_iload_n hX (j := 1) (hj := rfl) 13 20 rfl rfl ?_
      refine V_iload_n hX (j := 2) (hj := rfl) 14 21 rfl rfl ?_
      refine V_iconst hX (v := 0) (hv := by decide) 15 22 rfl rfl ?_
      refine V_callU hX 25 0 0 rfl rfl rfl (Nat.le_of_ble_eq_true rfl) (Nat.le_of_ble_eq_true rfl) (VR_V hX 16 (ct_Mo_lay (cx_t hX) K v1 v3 0 M) my_Mo_lay mi_Mo_lay ms_Mo_lay ml_Mo_97 (Nat.le_of_ble_eq_true rfl) (Nat.le_of_ble_eq_true rfl) (by decide) (ent_32 K _) rfl rfl rfl (Nat.le_of_ble_eq_true rfl) rfl (Nat.le_of_ble_eq_true rfl) (Nat.le_of_ble_eq_true rfl)) (fun r22 M22 => ?_)
      refine V_iincL hX 17 28 2 rfl rfl rfl rfl (Nat.le_of_ble_eq_true rfl) (fun x3_25 hx3_25 => ?_)
      refine VV_lc [(3, .int x3_25), (0, .ref (kA K 32)), (1, .int v1)] rfl ?_
      refine V_goto hX 18 12 rfl (by decide) ?_
      refine VV_sub [1, 2, 0] rfl ?_
      exact ih x3_25 M22
set_option maxRecDepth 20000 in
theorem ct_Mo_close {l : Launch} (hl : l.stackTraces = false) (K : KT) (v1 : Int32) (v2 : Int32) (M : Mm) : CTp l K y_Mo_close (Cond.code y_Mo_close prog_15_method_19_code 4 none) rvU 2 0 0 [.ref (kA K 32), .int v1, .int v2] M (fn_Mo_close v1 v2 M) := by
  refine CTp_of (L := L_Mo_close) (lc := [(0, .ref (kA K 32)), (1, .int v1), (2, .int v2)]) (by decide +kernel) dec_Mo_close hl rfl (Nat.le_of_ble_eq_true rfl) (fun X hX => ?_)
  unfold fn_Mo_close
  refine V_aload_n hX (j := 0) (hj := rfl) 0 1 rfl rfl ?_
  refine V_get hX 1 4 32 (.ref (kA K 33)) fl_Mo_7 rfl rfl (by decide) (ent_32 K _) rfl ?_
  refine V_bipush hX (v := 21) (hv := by decide) 2 6 rfl rfl ?_
  refine V_iload_n hX (j := 1) (hj := rfl) 3 7 rfl rfl ?_
  refine V_imul hX 4 8 rfl rfl ?_
  refine V_iload_n hX (j := 2) (hj := rfl) 5 9 rfl rfl ?_
  refine V_iast hX 6 10 33 85 (by decide) rfl rfl rfl (fun g9 M9 hM9 => ?_)
  refine V_iload_n hX (j := 2) (hj := rfl) 7 11 rfl rfl ?_
  refine V_istore_n hX 8 12 [(3, .int v2), (0, .ref (kA K 32)), (1, .int v1), (2, .int v2)] rfl rfl (Nat.le_of_ble_eq_true rfl) rfl ?_
  refine VV_sub [1, 2, 0] rfl ?_
  exact bt_Mo_close_12 hX v1 fuel0 v2 M9
set_option maxRecDepth 20000 in
theorem ct_Mo_cannotAppend {l : Launch} (hl : l.stackTraces = false) (K : KT) (v1 : Int32) (v2 : Int32) (M : Mm) : CTp l K y_Mo_cannotAppend (Cond.code y_Mo_cannotAppend prog_15_method_20_code 3 (some .int)) rvI 3 0 0 [.ref (kA K 32), .int v1, .int v2] M (fn_Mo_cannotAppend v1 v2 M) := by
  refine CTp_of (L := L_Mo_cannotAppend) (lc := [(0, .ref (kA K 32)), (1, .int v1), (2, .int v2)]) (by decide +kernel) dec_Mo_cannotAppend hl rfl (Nat.le_of_ble_eq_true rfl) (fun X hX => ?_)
  unfold fn_Mo_cannotAppend
  refine V_iload_n hX (j := 1) (hj := rfl) 0 1 rfl rfl ?_
  refine V_callI hX 4 0 0 rfl rfl rfl (Nat.le_of_ble_eq_true rfl) (Nat.le_of_ble_eq_true rfl) (VR_S hX 1 (ct_Mo_isSlot (cx_t hX) K v1 M) my_Mo_isSlot mt_Mo_isSlot ml_Mo_89 (Nat.le_of_ble_eq_true rfl) (Nat.le_of_ble_eq_true rfl) rfl rfl (Nat.le_of_ble_eq_true rfl) rfl (Nat.le_of_ble_eq_true rfl) (Nat.le_of_ble_eq_true rfl)) (fun r1 M1 => ?_)
  refine V_if_ne hX 2 7 11 rfl rfl (by decide) (fun c4 => ?_) (fun c4 => ?_)
  · refine V_iload_n hX (j := 2) (hj := rfl) 5 12 rfl rfl ?_
    refine V_callI hX 15 0 0 rfl rfl rfl (Nat.le_of_ble_eq_true rfl) (Nat.le_of_ble_eq_true rfl) (VR_S hX 6 (ct_Mo_isValue (cx_t hX) K v2 M1) my_Mo_isValue mt_Mo_isValue ml_Mo_101 (Nat.le_of_ble_eq_true rfl) (Nat.le_of_ble_eq_true rfl) rfl rfl (Nat.le_of_ble_eq_true rfl) rfl (Nat.le_of_ble_eq_true rfl) (Nat.le_of_ble_eq_true rfl)) (fun r12 M12 => ?_)
    refine V_if_ne hX 7 18 22 rfl rfl (by decide) (fun c15 => ?_) (fun c15 => ?_)
    · refine V_aload_n hX (j := 0) (hj := rfl) 10 23 rfl rfl ?_
      refine V_iload_n hX (j := 1) (hj := rfl) 11 24 rfl rfl ?_
      refine V_callI hX 27 0 0 rfl rfl rfl (Nat.le_of_ble_eq_true rfl) (Nat.le_of_ble_eq_true rfl) (VR_V hX 12 (ct_Mo_many (cx_t hX) K v1 M12) my_Mo_many mi_Mo_many ms_Mo_many ml_Mo_93 (Nat.le_of_ble_eq_true rfl) (Nat.le_of_ble_eq_true rfl) (by decide) (ent_32 K _) rfl rfl rfl (Nat.le_of_ble_eq_true rfl) rfl (Nat.le_of_ble_eq_true rfl) (Nat.le_of_ble_eq_true rfl)) (fun r24 M24 => ?_)
      refine V_bipush hX (v := 20) (hv := by decide) 13 29 rfl rfl ?_
      refine V_icmp_ne hX 14 32 36 rfl rfl (by decide) (fun c29 => ?_) (fun c29 => ?_)
      · refine V_iconst hX (v := 0) (hv := by decide) 17 37 rfl rfl ?_
        exact V_iret hX 18 rfl (Nat.le_of_ble_eq_true rfl) (Nat.le_of_ble_eq_true rfl) rfl
      · refine V_iconst hX (v := 3) (hv := by decide) 15 33 rfl rfl ?_
        refine V_goto hX 16 37 rfl (by decide) ?_
        exact V_iret hX 18 rfl (Nat.le_of_ble_eq_true rfl) (Nat.le_of_ble_eq_true rfl) rfl
    · refine V_iconst hX (v := 2) (hv := by decide) 8 19 rfl rfl ?_
      refine V_goto hX 9 37 rfl (by decide) ?_
      exact V_iret hX 18 rfl (Nat.le_of_ble_eq_true rfl) (Nat.le_of_ble_eq_true rfl) rfl
  · refine V_iconst hX (v := 1) (hv := by decide) 3 8 rfl rfl ?_
    refine V_goto hX 4 37 rfl (by decide) ?_
    exact V_iret hX 18 rfl (Nat.le_of_ble_eq_true rfl) (Nat.le_of_ble_eq_true rfl) rfl
set_option maxRecDepth 20000 in
theorem ct_Mo_appends {l : Launch} (hl : l.stackTraces = false) (K : KT) (v1 : Int32) (v2 : Int32) (M : Mm) : CTp l K y_Mo_appends (Cond.code y_Mo_appends prog_15_method_21_code 3 (some .int)) rvI 2 0 0 [.ref (kA K 32), .int v1, .int v2] M (fn_Mo_appends v1 v2 M) := by
  refine CTp_of (L := L_Mo_appends) (lc := [(0, .ref (kA K 32)), (1, .int v1), (2, .int v2)]) (by decide +kernel) dec_Mo_appends hl rfl (Nat.le_of_ble_eq_true rfl) (fun X hX => ?_)
  unfold fn_Mo_appends
  refine V_aload_n hX (j := 0) (hj := rfl) 0 1 rfl rfl ?_
  refine V_iload_n hX (j := 1) (hj := rfl) 1 2 rfl rfl ?_
  refine V_aload_n hX (j := 0) (hj := rfl) 2 3 rfl rfl ?_
  refine V_iload_n hX (j := 1) (hj := rfl) 3 4 rfl rfl ?_
  refine V_callI hX 7 0 0 rfl rfl rfl (Nat.le_of_ble_eq_true rfl) (Nat.le_of_ble_eq_true rfl) (VR_V hX 4 (ct_Mo_many (cx_t hX) K v1 M) my_Mo_many mi_Mo_many ms_Mo_many ml_Mo_93 (Nat.le_of_ble_eq_true rfl) (Nat.le_of_ble_eq_true rfl) (by decide) (ent_32 K _) rfl rfl rfl (Nat.le_of_ble_eq_true rfl) rfl (Nat.le_of_ble_eq_true rfl) (Nat.le_of_ble_eq_true rfl)) (fun r4 M4 => ?_)
  refine V_iload_n hX (j := 2) (hj := rfl) 5 8 rfl rfl ?_
  refine V_callU hX 11 0 0 rfl rfl rfl (Nat.le_of_ble_eq_true rfl) (Nat.le_of_ble_eq_true rfl) (VR_V hX 6 (ct_Mo_lay (cx_t hX) K v1 r4 v2 M4) my_Mo_lay mi_Mo_lay ms_Mo_lay ml_Mo_97 (Nat.le_of_ble_eq_true rfl) (Nat.le_of_ble_eq_true rfl) (by decide) (ent_32 K _) rfl rfl rfl (Nat.le_of_ble_eq_true rfl) rfl (Nat.le_of_ble_eq_true rfl) (Nat.le_of_ble_eq_true rfl)) (fun r8 M8 => ?_)
  refine V_aload_n hX (j := 0) (hj := rfl) 7 12 rfl rfl ?_
  refine V_get hX 8 15 32 (.ref (kA K 33)) fl_Mo_7 rfl rfl (by decide) (ent_32 K _) rfl ?_
  refine V_bipush hX (v := 21) (hv := by decide) 9 17 rfl rfl ?_
  refine V_iload_n hX (j := 1) (hj := rfl) 10 18 rfl rfl ?_
  refine V_imul hX 11 19 rfl rfl ?_
  refine V_dup2 hX (hc := rfl) (hb := rfl) 12 20 rfl rfl ?_
  refine V_iald hX 13 21 33 85 (by decide) rfl rfl rfl (fun g20 => ?_)
  refine V_iconst hX (v := 1) (hv := by decide) 14 22 rfl rfl ?_
  refine V_iadd hX 15 23 rfl rfl ?_
  refine V_iast hX 16 24 33 85 (by decide) rfl rfl rfl (fun g23 M23 hM23 => ?_)
  refine V_aload_n hX (j := 0) (hj := rfl) 17 25 rfl rfl ?_
  refine V_get hX 18 28 32 (.ref (kA K 33)) fl_Mo_7 rfl rfl (by decide) (ent_32 K _) rfl ?_
  refine V_bipush hX (v := 84) (hv := by decide) 19 30 rfl rfl ?_
  refine V_dup2 hX (hc := rfl) (hb := rfl) 20 31 rfl rfl ?_
  refine V_iald hX 21 32 33 85 (by decide) rfl rfl rfl (fun g31 => ?_)
  refine V_iconst hX (v := 1) (hv := by decide) 22 33 rfl rfl ?_
  refine V_iadd hX 23 34 rfl rfl ?_
  refine V_iast hX 24 35 33 85 (by decide) rfl rfl rfl (fun g34 M34 hM34 => ?_)
  refine V_aload_n hX (j := 0) (hj := rfl) 25 36 rfl rfl ?_
  refine V_iload_n hX (j := 1) (hj := rfl) 26 37 rfl rfl ?_
  refine V_callI hX 40 0 0 rfl rfl rfl (Nat.le_of_ble_eq_true rfl) (Nat.le_of_ble_eq_true rfl) (VR_V hX 27 (ct_Mo_many (cx_t hX) K v1 M34) my_Mo_many mi_Mo_many ms_Mo_many ml_Mo_93 (Nat.le_of_ble_eq_true rfl) (Nat.le_of_ble_eq_true rfl) (by decide) (ent_32 K _) rfl rfl rfl (Nat.le_of_ble_eq_true rfl) rfl (Nat.le_of_ble_eq_true rfl) (Nat.le_of_ble_eq_true rfl)) (fun r37 M37 => ?_)
  exact V_iret hX 28 rfl (Nat.le_of_ble_eq_true rfl) (Nat.le_of_ble_eq_true rfl) rfl
set_option maxRecDepth 20000 in
theorem ct_Mo_append {l : Launch} (hl : l.stackTraces = false) (K : KT) (v1 : Int32) (v2 : Int32) (M : Mm) : CTp l K y_Mo_append (Cond.code y_Mo_append prog_15_method_22_code 4 (some .int)) rvI 4 0 0 [.ref (kA K 32), .int v1, .int v2] M (fn_Mo_append v1 v2 M) := by
  refine CTp_of (L := L_Mo_append) (lc := [(0, .ref (kA K 32)), (1, .int v1), (2, .int v2)]) (by decide +kernel) dec_Mo_append hl rfl (Nat.le_of_ble_eq_true rfl) (fun X hX => ?_)
  unfold fn_Mo_append
  refine V_aload_n hX (j := 0) (hj := rfl) 0 1 rfl rfl ?_
  refine V_callU hX 4 0 0 rfl rfl rfl (Nat.le_of_ble_eq_true rfl) (Nat.le_of_ble_eq_true rfl) (VR_V hX 1 (ct_Mo_begin (cx_t hX) K M) my_Mo_begin mi_Mo_begin ms_Mo_begin ml_Mo_104 (Nat.le_of_ble_eq_true rfl) (Nat.le_of_ble_eq_true rfl) (by decide) (ent_32 K _) rfl rfl rfl (Nat.le_of_ble_eq_true rfl) rfl (Nat.le_of_ble_eq_true rfl) (Nat.le_of_ble_eq_true rfl)) (fun r1 M1 => ?_)
  refine V_aload_n hX (j := 0) (hj := rfl) 2 5 rfl rfl ?_
  refine V_iload_n hX (j := 1) (hj := rfl) 3 6 rfl rfl ?_
  refine V_iload_n hX (j := 2) (hj := rfl) 4 7 rfl rfl ?_
  refine V_callI hX 10 0 0 rfl rfl rfl (Nat.le_of_ble_eq_true rfl) (Nat.le_of_ble_eq_true rfl) (VR_V hX 5 (ct_Mo_cannotAppend (cx_t hX) K v1 v2 M1) my_Mo_cannotAppend mi_Mo_cannotAppend ms_Mo_cannotAppend ml_Mo_107 (Nat.le_of_ble_eq_true rfl) (Nat.le_of_ble_eq_true rfl) (by decide) (ent_32 K _) rfl rfl rfl (Nat.le_of_ble_eq_true rfl) rfl (Nat.le_of_ble_eq_true rfl) (Nat.le_of_ble_eq_true rfl)) (fun r7 M7 => ?_)
  refine V_istore_n hX 6 11 [(3, .int r7), (0, .ref (kA K 32)), (1, .int v1), (2, .int v2)] rfl rfl (Nat.le_of_ble_eq_true rfl) rfl ?_
  refine V_iload_n hX (j := 0) (hj := rfl) 7 12 rfl rfl ?_
  refine V_if_le hX 8 15 23 rfl rfl (by decide) (fun c12 => ?_) (fun c12 => ?_)
  · refine V_aload_n hX (j := 1) (hj := rfl) 13 24 rfl rfl ?_
    refine V_aload_n hX (j := 1) (hj := rfl) 14 25 rfl rfl ?_
    refine V_iload_n hX (j := 2) (hj := rfl) 15 26 rfl rfl ?_
    refine V_iload_n hX (j := 3) (hj := rfl) 16 27 rfl rfl ?_
    refine V_callI hX 30 0 0 rfl rfl rfl (Nat.le_of_ble_eq_true rfl) (Nat.le_of_ble_eq_true rfl) (VR_V hX 17 (ct_Mo_appends (cx_t hX) K v1 v2 M7) my_Mo_appends mi_Mo_appends ms_Mo_appends ml_Mo_114 (Nat.le_of_ble_eq_true rfl) (Nat.le_of_ble_eq_true rfl) (by decide) (ent_32 K _) rfl rfl rfl (Nat.le_of_ble_eq_true rfl) rfl (Nat.le_of_ble_eq_true rfl) (Nat.le_of_ble_eq_true rfl)) (fun r27 M27 => ?_)
    refine V_callI hX 33 0 0 rfl rfl rfl (Nat.le_of_ble_eq_true rfl) (Nat.le_of_ble_eq_true rfl) (VR_V hX 18 (ct_Mo_commit (cx_t hX) K r27 M27) my_Mo_commit mi_Mo_commit ms_Mo_commit ml_Mo_117 (Nat.le_of_ble_eq_true rfl) (Nat.le_of_ble_eq_true rfl) (by decide) (ent_32 K _) rfl rfl rfl (Nat.le_of_ble_eq_true rfl) rfl (Nat.le_of_ble_eq_true rfl) (Nat.le_of_ble_eq_true rfl)) (fun r30 M30 => ?_)
    exact V_iret hX 19 rfl (Nat.le_of_ble_eq_true rfl) (Nat.le_of_ble_eq_true rfl) rfl
  · refine V_aload_n hX (j := 1) (hj := rfl) 9 16 rfl rfl ?_
    refine V_iload_n hX (j := 0) (hj := rfl) 10 17 rfl rfl ?_
    refine V_callI hX 20 0 0 rfl rfl rfl (Nat.le_of_ble_eq_true rfl) (Nat.le_of_ble_eq_true rfl) (VR_V hX 11 (ct_Mo_fail (cx_t hX) K r7 M7) my_Mo_fail mi_Mo_fail ms_Mo_fail ml_Mo_111 (Nat.le_of_ble_eq_true rfl) (Nat.le_of_ble_eq_true rfl) (by decide) (ent_32 K _) rfl rfl rfl (Nat.le_of_ble_eq_true rfl) rfl (Nat.le_of_ble_eq_true rfl) (Nat.le_of_ble_eq_true rfl)) (fun r17 M17 => ?_)
    refine V_goto hX 12 33 rfl (by decide) ?_
    exact V_iret hX 19 rfl (Nat.le_of_ble_eq_true rfl) (Nat.le_of_ble_eq_true rfl) rfl
set_option maxRecDepth 20000 in
theorem ct_Mo_cannotSet {l : Launch} (hl : l.stackTraces = false) (K : KT) (v1 : Int32) (v2 : Int32) (v3 : Int32) (M : Mm) : CTp l K y_Mo_cannotSet (Cond.code y_Mo_cannotSet prog_15_method_23_code 4 (some .int)) rvI 4 0 0 [.ref (kA K 32), .int v1, .int v2, .int v3] M (fn_Mo_cannotSet v1 v2 v3 M) := by
  refine CTp_of (L := L_Mo_cannotSet) (lc := [(0, .ref (kA K 32)), (1, .int v1), (2, .int v2), (3, .int v3)]) (by decide +kernel) dec_Mo_cannotSet hl rfl (Nat.le_of_ble_eq_true rfl) (fun X hX => ?_)
  unfold fn_Mo_cannotSet
  refine V_aload_n hX (j := 0) (hj := rfl) 0 1 rfl rfl ?_
  refine V_iload_n hX (j := 1) (hj := rfl) 1 2 rfl rfl ?_
  refine V_iload_n hX (j := 2) (hj := rfl) 2 3 rfl rfl ?_
  refine V_callI hX 6 0 0 rfl rfl rfl (Nat.le_of_ble_eq_true rfl) (Nat.le_of_ble_eq_true rfl) (VR_V hX 3 (ct_Mo_isIndex (cx_t hX) K v1 v2 M) my_Mo_isIndex mi_Mo_isIndex ms_Mo_isIndex ml_Mo_120 (Nat.le_of_ble_eq_true rfl) (Nat.le_of_ble_eq_true rfl) (by decide) (ent_32 K _) rfl rfl rfl (Nat.le_of_ble_eq_true rfl) rfl (Nat.le_of_ble_eq_true rfl) (Nat.le_of_ble_eq_true rfl)) (fun r3 M3 => ?_)
  refine V_if_ne hX 4 9 13 rfl rfl (by decide) (fun c6 => ?_) (fun c6 => ?_)
  · refine V_iload_n hX (j := 3) (hj := rfl) 7 14 rfl rfl ?_
    refine V_callI hX 17 0 0 rfl rfl rfl (Nat.le_of_ble_eq_true rfl) (Nat.le_of_ble_eq_true rfl) (VR_S hX 8 (ct_Mo_isValue (cx_t hX) K v3 M3) my_Mo_isValue mt_Mo_isValue ml_Mo_101 (Nat.le_of_ble_eq_true rfl) (Nat.le_of_ble_eq_true rfl) rfl rfl (Nat.le_of_ble_eq_true rfl) rfl (Nat.le_of_ble_eq_true rfl) (Nat.le_of_ble_eq_true rfl)) (fun r14 M14 => ?_)
    refine V_if_ne hX 9 20 24 rfl rfl (by decide) (fun c17 => ?_) (fun c17 => ?_)
    · refine V_iconst hX (v := 0) (hv := by decide) 12 25 rfl rfl ?_
      exact V_iret hX 13 rfl (Nat.le_of_ble_eq_true rfl) (Nat.le_of_ble_eq_true rfl) rfl
    · refine V_iconst hX (v := 2) (hv := by decide) 10 21 rfl rfl ?_
      refine V_goto hX 11 25 rfl (by decide) ?_
      exact V_iret hX 13 rfl (Nat.le_of_ble_eq_true rfl) (Nat.le_of_ble_eq_true rfl) rfl
  · refine V_iconst hX (v := 1) (hv := by decide) 5 10 rfl rfl ?_
    refine V_goto hX 6 25 rfl (by decide) ?_
    exact V_iret hX 13 rfl (Nat.le_of_ble_eq_true rfl) (Nat.le_of_ble_eq_true rfl) rfl
set_option maxRecDepth 20000 in
theorem ct_Mo_sets {l : Launch} (hl : l.stackTraces = false) (K : KT) (v1 : Int32) (v2 : Int32) (v3 : Int32) (M : Mm) : CTp l K y_Mo_sets (Cond.code y_Mo_sets prog_15_method_24_code 5 (some .int)) rvI 2 0 0 [.ref (kA K 32), .int v1, .int v2, .int v3] M (fn_Mo_sets v1 v2 v3 M) := by
  refine CTp_of (L := L_Mo_sets) (lc := [(0, .ref (kA K 32)), (1, .int v1), (2, .int v2), (3, .int v3)]) (by decide +kernel) dec_Mo_sets hl rfl (Nat.le_of_ble_eq_true rfl) (fun X hX => ?_)
  unfold fn_Mo_sets
  refine V_aload_n hX (j := 0) (hj := rfl) 0 1 rfl rfl ?_
  refine V_iload_n hX (j := 1) (hj := rfl) 1 2 rfl rfl ?_
  refine V_iload_n hX (j := 2) (hj := rfl) 2 3 rfl rfl ?_
  refine V_callI hX 6 0 0 rfl rfl rfl (Nat.le_of_ble_eq_true rfl) (Nat.le_of_ble_eq_true rfl) (VR_V hX 3 (ct_Mo_at (cx_t hX) K v1 v2 M) my_Mo_at mi_Mo_at ms_Mo_at ml_Mo_124 (Nat.le_of_ble_eq_true rfl) (Nat.le_of_ble_eq_true rfl) (by decide) (ent_32 K _) rfl rfl rfl (Nat.le_of_ble_eq_true rfl) rfl (Nat.le_of_ble_eq_true rfl) (Nat.le_of_ble_eq_true rfl)) (fun r3 M3 => ?_)
  refine V_istore hX 4 8 [(4, .int r3), (0, .ref (kA K 32)), (1, .int v1), (2, .int v2), (3, .int v3)] rfl rfl (Nat.le_of_ble_eq_true rfl) rfl ?_
  refine V_aload_n hX (j := 1) (hj := rfl) 5 9 rfl rfl ?_
  refine V_iload_n hX (j := 2) (hj := rfl) 6 10 rfl rfl ?_
  refine V_iload_n hX (j := 3) (hj := rfl) 7 11 rfl rfl ?_
  refine V_iload_n hX (j := 4) (hj := rfl) 8 12 rfl rfl ?_
  refine V_callU hX 15 0 0 rfl rfl rfl (Nat.le_of_ble_eq_true rfl) (Nat.le_of_ble_eq_true rfl) (VR_V hX 9 (ct_Mo_lay (cx_t hX) K v1 v2 v3 M3) my_Mo_lay mi_Mo_lay ms_Mo_lay ml_Mo_97 (Nat.le_of_ble_eq_true rfl) (Nat.le_of_ble_eq_true rfl) (by decide) (ent_32 K _) rfl rfl rfl (Nat.le_of_ble_eq_true rfl) rfl (Nat.le_of_ble_eq_true rfl) (Nat.le_of_ble_eq_true rfl)) (fun r12 M12 => ?_)
  refine V_iload hX (j := 0) (hj := rfl) 10 17 rfl rfl ?_
  exact V_iret hX 11 rfl (Nat.le_of_ble_eq_true rfl) (Nat.le_of_ble_eq_true rfl) rfl
set_option maxRecDepth 20000 in
theorem ct_Mo_setValue {l : Launch} (hl : l.stackTraces = false) (K : KT) (v1 : Int32) (v2 : Int32) (v3 : Int32) (M : Mm) : CTp l K y_Mo_setValue (Cond.code y_Mo_setValue prog_15_method_25_code 5 (some .int)) rvI 5 0 0 [.ref (kA K 32), .int v1, .int v2, .int v3] M (fn_Mo_setValue v1 v2 v3 M) := by
  refine CTp_of (L := L_Mo_setValue) (lc := [(0, .ref (kA K 32)), (1, .int v1), (2, .int v2), (3, .int v3)]) (by decide +kernel) dec_Mo_setValue hl rfl (Nat.le_of_ble_eq_true rfl) (fun X hX => ?_)
  unfold fn_Mo_setValue
  refine V_aload_n hX (j := 0) (hj := rfl) 0 1 rfl rfl ?_
  refine V_callU hX 4 0 0 rfl rfl rfl (Nat.le_of_ble_eq_true rfl) (Nat.le_of_ble_eq_true rfl) (VR_V hX 1 (ct_Mo_begin (cx_t hX) K M) my_Mo_begin mi_Mo_begin ms_Mo_begin ml_Mo_104 (Nat.le_of_ble_eq_true rfl) (Nat.le_of_ble_eq_true rfl) (by decide) (ent_32 K _) rfl rfl rfl (Nat.le_of_ble_eq_true rfl) rfl (Nat.le_of_ble_eq_true rfl) (Nat.le_of_ble_eq_true rfl)) (fun r1 M1 => ?_)
  refine V_aload_n hX (j := 0) (hj := rfl) 2 5 rfl rfl ?_
  refine V_iload_n hX (j := 1) (hj := rfl) 3 6 rfl rfl ?_
  refine V_iload_n hX (j := 2) (hj := rfl) 4 7 rfl rfl ?_
  refine V_iload_n hX (j := 3) (hj := rfl) 5 8 rfl rfl ?_
  refine V_callI hX 11 0 0 rfl rfl rfl (Nat.le_of_ble_eq_true rfl) (Nat.le_of_ble_eq_true rfl) (VR_V hX 6 (ct_Mo_cannotSet (cx_t hX) K v1 v2 v3 M1) my_Mo_cannotSet mi_Mo_cannotSet ms_Mo_cannotSet ml_Mo_127 (Nat.le_of_ble_eq_true rfl) (Nat.le_of_ble_eq_true rfl) (by decide) (ent_32 K _) rfl rfl rfl (Nat.le_of_ble_eq_true rfl) rfl (Nat.le_of_ble_eq_true rfl) (Nat.le_of_ble_eq_true rfl)) (fun r8 M8 => ?_)
  refine V_istore hX 7 13 [(4, .int r8), (0, .ref (kA K 32)), (1, .int v1), (2, .int v2), (3, .int v3)] rfl rfl (Nat.le_of_ble_eq_true rfl) rfl ?_
  refine V_iload hX (j := 0) (hj := rfl) 8 15 rfl rfl ?_
  refine V_if_le hX 9 18 27 rfl rfl (by decide) (fun c15 => ?_) (fun c15 => ?_)
  · refine V_aload_n hX (j := 1) (hj := rfl) 14 28 rfl rfl ?_
    refine V_aload_n hX (j := 1) (hj := rfl) 15 29 rfl rfl ?_
    refine V_iload_n hX (j := 2) (hj := rfl) 16 30 rfl rfl ?_
    refine V_iload_n hX (j := 3) (hj := rfl) 17 31 rfl rfl ?_
    refine V_iload_n hX (j := 4) (hj := rfl) 18 32 rfl rfl ?_
    refine V_callI hX 35 0 0 rfl rfl rfl (Nat.le_of_ble_eq_true rfl) (Nat.le_of_ble_eq_true rfl) (VR_V hX 19 (ct_Mo_sets (cx_t hX) K v1 v2 v3 M8) my_Mo_sets mi_Mo_sets ms_Mo_sets ml_Mo_131 (Nat.le_of_ble_eq_true rfl) (Nat.le_of_ble_eq_true rfl) (by decide) (ent_32 K _) rfl rfl rfl (Nat.le_of_ble_eq_true rfl) rfl (Nat.le_of_ble_eq_true rfl) (Nat.le_of_ble_eq_true rfl)) (fun r32 M32 => ?_)
    refine V_callI hX 38 0 0 rfl rfl rfl (Nat.le_of_ble_eq_true rfl) (Nat.le_of_ble_eq_true rfl) (VR_V hX 20 (ct_Mo_commit (cx_t hX) K r32 M32) my_Mo_commit mi_Mo_commit ms_Mo_commit ml_Mo_117 (Nat.le_of_ble_eq_true rfl) (Nat.le_of_ble_eq_true rfl) (by decide) (ent_32 K _) rfl rfl rfl (Nat.le_of_ble_eq_true rfl) rfl (Nat.le_of_ble_eq_true rfl) (Nat.le_of_ble_eq_true rfl)) (fun r35 M35 => ?_)
    exact V_iret hX 21 rfl (Nat.le_of_ble_eq_true rfl) (Nat.le_of_ble_eq_true rfl) rfl
  · refine V_aload_n hX (j := 1) (hj := rfl) 10 19 rfl rfl ?_
    refine V_iload hX (j := 0) (hj := rfl) 11 21 rfl rfl ?_
    refine V_callI hX 24 0 0 rfl rfl rfl (Nat.le_of_ble_eq_true rfl) (Nat.le_of_ble_eq_true rfl) (VR_V hX 12 (ct_Mo_fail (cx_t hX) K r8 M8) my_Mo_fail mi_Mo_fail ms_Mo_fail ml_Mo_111 (Nat.le_of_ble_eq_true rfl) (Nat.le_of_ble_eq_true rfl) (by decide) (ent_32 K _) rfl rfl rfl (Nat.le_of_ble_eq_true rfl) rfl (Nat.le_of_ble_eq_true rfl) (Nat.le_of_ble_eq_true rfl)) (fun r21 M21 => ?_)
    refine V_goto hX 13 38 rfl (by decide) ?_
    exact V_iret hX 21 rfl (Nat.le_of_ble_eq_true rfl) (Nat.le_of_ble_eq_true rfl) rfl
set_option maxRecDepth 20000 in
theorem ct_Mo_cannotCut {l : Launch} (hl : l.stackTraces = false) (K : KT) (v1 : Int32) (v2 : Int32) (M : Mm) : CTp l K y_Mo_cannotCut (Cond.code y_Mo_cannotCut prog_15_method_26_code 3 (some .int)) rvI 3 0 0 [.ref (kA K 32), .int v1, .int v2] M (fn_Mo_cannotCut v1 v2 M) := by
  refine CTp_of (L := L_Mo_cannotCut) (lc := [(0, .ref (kA K 32)), (1, .int v1), (2, .int v2)]) (by decide +kernel) dec_Mo_cannotCut hl rfl (Nat.le_of_ble_eq_true rfl) (fun X hX => ?_)
  unfold fn_Mo_cannotCut
  refine V_iload_n hX (j := 1) (hj := rfl) 0 1 rfl rfl ?_
  refine V_callI hX 4 0 0 rfl rfl rfl (Nat.le_of_ble_eq_true rfl) (Nat.le_of_ble_eq_true rfl) (VR_S hX 1 (ct_Mo_isSlot (cx_t hX) K v1 M) my_Mo_isSlot mt_Mo_isSlot ml_Mo_89 (Nat.le_of_ble_eq_true rfl) (Nat.le_of_ble_eq_true rfl) rfl rfl (Nat.le_of_ble_eq_true rfl) rfl (Nat.le_of_ble_eq_true rfl) (Nat.le_of_ble_eq_true rfl)) (fun r1 M1 => ?_)
  refine V_if_ne hX 2 7 11 rfl rfl (by decide) (fun c4 => ?_) (fun c4 => ?_)
  · refine V_iload_n hX (j := 2) (hj := rfl) 5 12 rfl rfl ?_
    refine V_iconst hX (v := 1) (hv := by decide) 6 13 rfl rfl ?_
    refine V_aload_n hX (j := 0) (hj := rfl) 7 14 rfl rfl ?_
    refine V_iload_n hX (j := 1) (hj := rfl) 8 15 rfl rfl ?_
    refine V_callI hX 18 0 0 rfl rfl rfl (Nat.le_of_ble_eq_true rfl) (Nat.le_of_ble_eq_true rfl) (VR_V hX 9 (ct_Mo_many (cx_t hX) K v1 M1) my_Mo_many mi_Mo_many ms_Mo_many ml_Mo_93 (Nat.le_of_ble_eq_true rfl) (Nat.le_of_ble_eq_true rfl) (by decide) (ent_32 K _) rfl rfl rfl (Nat.le_of_ble_eq_true rfl) rfl (Nat.le_of_ble_eq_true rfl) (Nat.le_of_ble_eq_true rfl)) (fun r15 M15 => ?_)
    refine V_callI hX 21 0 0 rfl rfl rfl (Nat.le_of_ble_eq_true rfl) (Nat.le_of_ble_eq_true rfl) (VR_S hX 10 (ct_Mo_in (cx_t hX) K v2 1 r15 M15) my_Mo_in mt_Mo_in ml_Mo_85 (Nat.le_of_ble_eq_true rfl) (Nat.le_of_ble_eq_true rfl) rfl rfl (Nat.le_of_ble_eq_true rfl) rfl (Nat.le_of_ble_eq_true rfl) (Nat.le_of_ble_eq_true rfl)) (fun r18 M18 => ?_)
    refine V_if_ne hX 11 24 28 rfl rfl (by decide) (fun c21 => ?_) (fun c21 => ?_)
    · refine V_iconst hX (v := 0) (hv := by decide) 14 29 rfl rfl ?_
      exact V_iret hX 15 rfl (Nat.le_of_ble_eq_true rfl) (Nat.le_of_ble_eq_true rfl) rfl
    · refine V_iconst hX (v := 2) (hv := by decide) 12 25 rfl rfl ?_
      refine V_goto hX 13 29 rfl (by decide) ?_
      exact V_iret hX 15 rfl (Nat.le_of_ble_eq_true rfl) (Nat.le_of_ble_eq_true rfl) rfl
  · refine V_iconst hX (v := 1) (hv := by decide) 3 8 rfl rfl ?_
    refine V_goto hX 4 29 rfl (by decide) ?_
    exact V_iret hX 15 rfl (Nat.le_of_ble_eq_true rfl) (Nat.le_of_ble_eq_true rfl) rfl
set_option maxRecDepth 20000 in
theorem bt_Mo_cuts_39 {l : Launch} {K : KT} {X : XT} (hX : Cx l K 3 5 0 0 X prog_15_method_27_code "SeriesArchiveModel" (some .int) [] L_Mo_cuts) (v1 : Int32) (v3 : Int32) (M : Mm) : VV l K 3 5 0 0 rvI X (fn_Mo_cuts_39 v1 v3 M) 0 0 M 39 [(0, .ref (kA K 32)), (1, .int v1), (3, .int v3)] [] := by
  unfold fn_Mo_cuts_39
  refine V_aload_n hX (j := 0) (hj := rfl) 23 40 rfl rfl ?_
  refine V_iload_n hX (j := 1) (hj := rfl) 24 41 rfl rfl ?_
  refine V_iload_n hX (j := 2) (hj := rfl) 25 42 rfl rfl ?_
  refine V_callU hX 45 0 0 rfl rfl rfl (Nat.le_of_ble_eq_true rfl) (Nat.le_of_ble_eq_true rfl) (VR_V hX 26 (ct_Mo_close (cx_t hX) K v1 v3 M) my_Mo_close mi_Mo_close ms_Mo_close ml_Mo_134 (Nat.le_of_ble_eq_true rfl) (Nat.le_of_ble_eq_true rfl) (by decide) (ent_32 K _) rfl rfl rfl (Nat.le_of_ble_eq_true rfl) rfl (Nat.le_of_ble_eq_true rfl) (Nat.le_of_ble_eq_true rfl)) (fun r42 M42 => ?_)
  refine V_iload_n hX (j := 2) (hj := rfl) 27 46 rfl rfl ?_
  exact V_iret hX 28 rfl (Nat.le_of_ble_eq_true rfl) (Nat.le_of_ble_eq_true rfl) rfl
set_option maxRecDepth 20000 in
theorem bt_Mo_cuts_11 {l : Launch} {K : KT} {X : XT} (hX : Cx l K 3 5 0 0 X prog_15_method_27_code "SeriesArchiveModel" (some .int) [] L_Mo_cuts) (v1 : Int32) (v2 : Int32) (v3 : Int32) : ∀ (n : Nat) (v4 : Int32) (M : Mm), VV l K 3 5 0 0 rvI X (fn_Mo_cuts_11 v1 v2 v3 n v4 M) 0 0 M 11 [(0, .ref (kA K 32)), (1, .int v1), (2, .int v2), (3, .int v3), (4, .int v4)] [] := by
  intro n
  induction n with
  | zero => intro v4 M; exact VV_none
  | succ n ih =>
    intro v4 M
    rw [fn_Mo_cuts_11]
    refine V_iload hX (j := 4) (hj := rfl) 8 13 rfl rfl ?_
    refine V_iload_n hX (j := 3) (hj := rfl) 9 14 rfl rfl ?_
    refine V_icmp_ge hX 10 17 39 rfl rfl (by decide) (fun c14 => ?_) (fun c14 => ?_)
    · refine VV_sub [0, 1, 3] rfl ?_
      exact bt_Mo_cuts_39 hX v1 v3 M
    · refine V_aload_n hX (j := 0) (hj := rfl) 11 18 rfl rfl ?_
      refine V_iload_n hX (j := 1) (hj := rfl) 12 19 rfl rfl ?_
      refine V_iload hX (j := 4) (hj := rfl) 13 21 rfl rfl ?_
      refine V_aload_n hX (j := 0) (hj := rfl) 14 22 rfl rfl ?_
      refine V_iload_n hX (j := 1) (hj := rfl) 15 23 rfl rfl ?_
      refine V_iload hX (j := 4) (hj := rfl) 16 25 rfl rfl ?_
      refine V_iload_n hX (j := 2) (hj := rfl) 17 26 rfl rfl ?_
      refine V_iadd hX 18 27 rfl rfl ?_
      refine V_callI hX 30 0 0 rfl rfl rfl (Nat.le_of_ble_eq_true rfl) (Nat.le_of_ble_eq_true rfl) (VR_V hX 19 (ct_Mo_at (cx_t hX) K v1 (v4 + v2) M) my_Mo_at mi_Mo_at ms_Mo_at ml_Mo_124 (Nat.le_of_ble_eq_true rfl) (Nat.le_of_ble_eq_true rfl) (by decide) (ent_32 K _) rfl rfl rfl (Nat.le_of_ble_eq_true rfl) rfl (Nat.le_of_ble_eq_true rfl) (Nat.le_of_ble_eq_true rfl)) (fun r27 M27 => ?_)
      refine V_callU hX 33 0 0 rfl rfl rfl (Nat.le_of_ble_eq_true rfl) (Nat.le_of_ble_eq_true rfl) (VR_V hX 20 (ct_Mo_lay (cx_t hX) K v1 v4 r27 M27) my_Mo_lay mi_Mo_lay ms_Mo_lay ml_Mo_97 (Nat.le_of_ble_eq_true rfl) (Nat.le_of_ble_eq_true rfl) (by decide) (ent_32 K _) rfl rfl rfl (Nat.le_of_ble_eq_true rfl) rfl (Nat.le_of_ble_eq_true rfl) (Nat.le_of_ble_eq_true rfl)) (fun r30 M30 => ?_)
      refine V_iincL hX 21 36 4 rfl rfl rfl rfl (Nat.le_of_ble_eq_true rfl) (fun x4_33 hx4_33 => ?_)
      refine VV_lc [(4, .int x4_33), (0, .ref (kA K 32)), (1, .int v1), (2, .int v2), (3, .int v3)] rfl ?_
      refine V_goto hX 22 11 rfl (by decide) ?_
      refine VV_sub [1, 2, 3, 4, 0] rfl ?_
      exact ih x4_33 M30
set_option maxRecDepth 20000 in
theorem ct_Mo_cuts {l : Launch} (hl : l.stackTraces = false) (K : KT) (v1 : Int32) (v2 : Int32) (M : Mm) : CTp l K y_Mo_cuts (Cond.code y_Mo_cuts prog_15_method_27_code 5 (some .int)) rvI 3 0 0 [.ref (kA K 32), .int v1, .int v2] M (fn_Mo_cuts v1 v2 M) := by
  refine CTp_of (L := L_Mo_cuts) (lc := [(0, .ref (kA K 32)), (1, .int v1), (2, .int v2)]) (by decide +kernel) dec_Mo_cuts hl rfl (Nat.le_of_ble_eq_true rfl) (fun X hX => ?_)
  unfold fn_Mo_cuts
  refine V_aload_n hX (j := 0) (hj := rfl) 0 1 rfl rfl ?_
  refine V_iload_n hX (j := 1) (hj := rfl) 1 2 rfl rfl ?_
  refine V_callI hX 5 0 0 rfl rfl rfl (Nat.le_of_ble_eq_true rfl) (Nat.le_of_ble_eq_true rfl) (VR_V hX 2 (ct_Mo_many (cx_t hX) K v1 M) my_Mo_many mi_Mo_many ms_Mo_many ml_Mo_93 (Nat.le_of_ble_eq_true rfl) (Nat.le_of_ble_eq_true rfl) (by decide) (ent_32 K _) rfl rfl rfl (Nat.le_of_ble_eq_true rfl) rfl (Nat.le_of_ble_eq_true rfl) (Nat.le_of_ble_eq_true rfl)) (fun r2 M2 => ?_)
  refine V_iload_n hX (j := 2) (hj := rfl) 3 6 rfl rfl ?_
  refine V_isub hX 4 7 rfl rfl ?_
  refine VV_li (fun x3_7 hx3_7 => ?_)
  refine V_istore_n hX 5 8 [(3, .int x3_7), (0, .ref (kA K 32)), (1, .int v1), (2, .int v2)] rfl rfl (Nat.le_of_ble_eq_true rfl) rfl ?_
  refine V_iconst hX (v := 0) (hv := by decide) 6 9 rfl rfl ?_
  refine V_istore hX 7 11 [(4, .int 0), (3, .int x3_7), (0, .ref (kA K 32)), (1, .int v1), (2, .int v2)] rfl rfl (Nat.le_of_ble_eq_true rfl) rfl ?_
  refine VV_sub [2, 3, 4, 1, 0] rfl ?_
  exact bt_Mo_cuts_11 hX v1 v2 x3_7 fuel0 0 M2
set_option maxRecDepth 20000 in
theorem ct_Mo_removeFirst {l : Launch} (hl : l.stackTraces = false) (K : KT) (v1 : Int32) (v2 : Int32) (M : Mm) : CTp l K y_Mo_removeFirst (Cond.code y_Mo_removeFirst prog_15_method_28_code 4 (some .int)) rvI 4 0 0 [.ref (kA K 32), .int v1, .int v2] M (fn_Mo_removeFirst v1 v2 M) := by
  refine CTp_of (L := L_Mo_removeFirst) (lc := [(0, .ref (kA K 32)), (1, .int v1), (2, .int v2)]) (by decide +kernel) dec_Mo_removeFirst hl rfl (Nat.le_of_ble_eq_true rfl) (fun X hX => ?_)
  unfold fn_Mo_removeFirst
  refine V_aload_n hX (j := 0) (hj := rfl) 0 1 rfl rfl ?_
  refine V_callU hX 4 0 0 rfl rfl rfl (Nat.le_of_ble_eq_true rfl) (Nat.le_of_ble_eq_true rfl) (VR_V hX 1 (ct_Mo_begin (cx_t hX) K M) my_Mo_begin mi_Mo_begin ms_Mo_begin ml_Mo_104 (Nat.le_of_ble_eq_true rfl) (Nat.le_of_ble_eq_true rfl) (by decide) (ent_32 K _) rfl rfl rfl (Nat.le_of_ble_eq_true rfl) rfl (Nat.le_of_ble_eq_true rfl) (Nat.le_of_ble_eq_true rfl)) (fun r1 M1 => ?_)
  refine V_aload_n hX (j := 0) (hj := rfl) 2 5 rfl rfl ?_
  refine V_iload_n hX (j := 1) (hj := rfl) 3 6 rfl rfl ?_
  refine V_iload_n hX (j := 2) (hj := rfl) 4 7 rfl rfl ?_
  refine V_callI hX 10 0 0 rfl rfl rfl (Nat.le_of_ble_eq_true rfl) (Nat.le_of_ble_eq_true rfl) (VR_V hX 5 (ct_Mo_cannotCut (cx_t hX) K v1 v2 M1) my_Mo_cannotCut mi_Mo_cannotCut ms_Mo_cannotCut ml_Mo_138 (Nat.le_of_ble_eq_true rfl) (Nat.le_of_ble_eq_true rfl) (by decide) (ent_32 K _) rfl rfl rfl (Nat.le_of_ble_eq_true rfl) rfl (Nat.le_of_ble_eq_true rfl) (Nat.le_of_ble_eq_true rfl)) (fun r7 M7 => ?_)
  refine V_istore_n hX 6 11 [(3, .int r7), (0, .ref (kA K 32)), (1, .int v1), (2, .int v2)] rfl rfl (Nat.le_of_ble_eq_true rfl) rfl ?_
  refine V_iload_n hX (j := 0) (hj := rfl) 7 12 rfl rfl ?_
  refine V_if_le hX 8 15 23 rfl rfl (by decide) (fun c12 => ?_) (fun c12 => ?_)
  · refine V_aload_n hX (j := 1) (hj := rfl) 13 24 rfl rfl ?_
    refine V_aload_n hX (j := 1) (hj := rfl) 14 25 rfl rfl ?_
    refine V_iload_n hX (j := 2) (hj := rfl) 15 26 rfl rfl ?_
    refine V_iload_n hX (j := 3) (hj := rfl) 16 27 rfl rfl ?_
    refine V_callI hX 30 0 0 rfl rfl rfl (Nat.le_of_ble_eq_true rfl) (Nat.le_of_ble_eq_true rfl) (VR_V hX 17 (ct_Mo_cuts (cx_t hX) K v1 v2 M7) my_Mo_cuts mi_Mo_cuts ms_Mo_cuts ml_Mo_141 (Nat.le_of_ble_eq_true rfl) (Nat.le_of_ble_eq_true rfl) (by decide) (ent_32 K _) rfl rfl rfl (Nat.le_of_ble_eq_true rfl) rfl (Nat.le_of_ble_eq_true rfl) (Nat.le_of_ble_eq_true rfl)) (fun r27 M27 => ?_)
    refine V_callI hX 33 0 0 rfl rfl rfl (Nat.le_of_ble_eq_true rfl) (Nat.le_of_ble_eq_true rfl) (VR_V hX 18 (ct_Mo_commit (cx_t hX) K r27 M27) my_Mo_commit mi_Mo_commit ms_Mo_commit ml_Mo_117 (Nat.le_of_ble_eq_true rfl) (Nat.le_of_ble_eq_true rfl) (by decide) (ent_32 K _) rfl rfl rfl (Nat.le_of_ble_eq_true rfl) rfl (Nat.le_of_ble_eq_true rfl) (Nat.le_of_ble_eq_true rfl)) (fun r30 M30 => ?_)
    exact V_iret hX 19 rfl (Nat.le_of_ble_eq_true rfl) (Nat.le_of_ble_eq_true rfl) rfl
  · refine V_aload_n hX (j := 1) (hj := rfl) 9 16 rfl rfl ?_
    refine V_iload_n hX (j := 0) (hj := rfl) 10 17 rfl rfl ?_
    refine V_callI hX 20 0 0 rfl rfl rfl (Nat.le_of_ble_eq_true rfl) (Nat.le_of_ble_eq_true rfl) (VR_V hX 11 (ct_Mo_fail (cx_t hX) K r7 M7) my_Mo_fail mi_Mo_fail ms_Mo_fail ml_Mo_111 (Nat.le_of_ble_eq_true rfl) (Nat.le_of_ble_eq_true rfl) (by decide) (ent_32 K _) rfl rfl rfl (Nat.le_of_ble_eq_true rfl) rfl (Nat.le_of_ble_eq_true rfl) (Nat.le_of_ble_eq_true rfl)) (fun r17 M17 => ?_)
    refine V_goto hX 12 33 rfl (by decide) ?_
    exact V_iret hX 19 rfl (Nat.le_of_ble_eq_true rfl) (Nat.le_of_ble_eq_true rfl) rfl
set_option maxRecDepth 20000 in
theorem bt_Mo_copies_36 {l : Launch} {K : KT} {X : XT} (hX : Cx l K 2 4 0 0 X prog_15_method_29_code "SeriesArchiveModel" (some .int) [] L_Mo_copies) (v1 : Int32) (M : Mm) : VV l K 2 4 0 0 rvI X (fn_Mo_copies_36 v1 M) 0 0 M 36 [(0, .ref (kA K 32)), (1, .int v1)] [] := by
  unfold fn_Mo_copies_36
  refine V_aload_n hX (j := 0) (hj := rfl) 23 37 rfl rfl ?_
  refine V_iload_n hX (j := 1) (hj := rfl) 24 38 rfl rfl ?_
  refine V_callI hX 41 0 0 rfl rfl rfl (Nat.le_of_ble_eq_true rfl) (Nat.le_of_ble_eq_true rfl) (VR_V hX 25 (ct_Mo_many (cx_t hX) K v1 M) my_Mo_many mi_Mo_many ms_Mo_many ml_Mo_93 (Nat.le_of_ble_eq_true rfl) (Nat.le_of_ble_eq_true rfl) (by decide) (ent_32 K _) rfl rfl rfl (Nat.le_of_ble_eq_true rfl) rfl (Nat.le_of_ble_eq_true rfl) (Nat.le_of_ble_eq_true rfl)) (fun r38 M38 => ?_)
  exact V_iret hX 26 rfl (Nat.le_of_ble_eq_true rfl) (Nat.le_of_ble_eq_true rfl) rfl
set_option maxRecDepth 20000 in
theorem bt_Mo_copies_2 {l : Launch} {K : KT} {X : XT} (hX : Cx l K 2 4 0 0 X prog_15_method_29_code "SeriesArchiveModel" (some .int) [] L_Mo_copies) (v1 : Int32) (v2 : Int32) : ∀ (n : Nat) (v3 : Int32) (M : Mm), VV l K 2 4 0 0 rvI X (fn_Mo_copies_2 v1 v2 n v3 M) 0 0 M 2 [(0, .ref (kA K 32)), (1, .int v1), (2, .int v2), (3, .int v3)] [] := by
  intro n
  induction n with
  | zero => intro v3 M; exact VV_none
  | succ n ih =>
    intro v3 M
    rw [fn_Mo_copies_2]
    refine V_iload_n hX (j := 3) (hj := rfl) 2 3 rfl rfl ?_
    refine V_bipush hX (v := 21) (hv := by decide) 3 5 rfl rfl ?_
    refine V_icmp_ge hX 4 8 36 rfl rfl (by decide) (fun c5 => ?_) (fun c5 => ?_)
    · refine VV_sub [0, 1] rfl ?_
      exact bt_Mo_copies_36 hX v1 M
    · refine V_aload_n hX (j := 0) (hj := rfl) 5 9 rfl rfl ?_
      refine V_get hX 6 12 32 (.ref (kA K 33)) fl_Mo_7 rfl rfl (by decide) (ent_32 K _) rfl ?_
      refine V_bipush hX (v := 21) (hv := by decide) 7 14 rfl rfl ?_
      refine V_iload_n hX (j := 1) (hj := rfl) 8 15 rfl rfl ?_
      refine V_imul hX 9 16 rfl rfl ?_
      refine V_iload_n hX (j := 3) (hj := rfl) 10 17 rfl rfl ?_
      refine V_iadd hX 11 18 rfl rfl ?_
      refine V_aload_n hX (j := 0) (hj := rfl) 12 19 rfl rfl ?_
      refine V_get hX 13 22 32 (.ref (kA K 33)) fl_Mo_7 rfl rfl (by decide) (ent_32 K _) rfl ?_
      refine V_bipush hX (v := 21) (hv := by decide) 14 24 rfl rfl ?_
      refine V_iload_n hX (j := 2) (hj := rfl) 15 25 rfl rfl ?_
      refine V_imul hX 16 26 rfl rfl ?_
      refine V_iload_n hX (j := 3) (hj := rfl) 17 27 rfl rfl ?_
      refine V_iadd hX 18 28 rfl rfl ?_
      refine V_iald hX 19 29 33 85 (by decide) rfl rfl rfl (fun g28 => ?_)
      refine V_iast hX 20 30 33 85 (by decide) rfl rfl rfl (fun g29 M29 hM29 => ?_)
      refine V_iincL hX 21 33 3 rfl rfl rfl rfl (Nat.le_of_ble_eq_true rfl) (fun x3_30 hx3_30 => ?_)
      refine VV_lc [(3, .int x3_30), (0, .ref (kA K 32)), (1, .int v1), (2, .int v2)] rfl ?_
      refine V_goto hX 22 2 rfl (by decide) ?_
      refine VV_sub [1, 2, 3, 0] rfl ?_
      exact ih x3_30 M29
set_option maxRecDepth 20000 in
theorem ct_Mo_copies {l : Launch} (hl : l.stackTraces = false) (K : KT) (v1 : Int32) (v2 : Int32) (M : Mm) : CTp l K y_Mo_copies (Cond.code y_Mo_copies prog_15_method_29_code 4 (some .int)) rvI 2 0 0 [.ref (kA K 32), .int v1, .int v2] M (fn_Mo_copies v1 v2 M) := by
  refine CTp_of (L := L_Mo_copies) (lc := [(0, .ref (kA K 32)), (1, .int v1), (2, .int v2)]) (by decide +kernel) dec_Mo_copies hl rfl (Nat.le_of_ble_eq_true rfl) (fun X hX => ?_)
  unfold fn_Mo_copies
  refine V_iconst hX (v := 0) (hv := by decide) 0 1 rfl rfl ?_
  refine V_istore_n hX 1 2 [(3, .int 0), (0, .ref (kA K 32)), (1, .int v1), (2, .int v2)] rfl rfl (Nat.le_of_ble_eq_true rfl) rfl ?_
  refine VV_sub [1, 2, 3, 0] rfl ?_
  exact bt_Mo_copies_2 hX v1 v2 fuel0 0 M
set_option maxRecDepth 20000 in
theorem bt_Mo_copy_31 {l : Launch} {K : KT} {X : XT} (hX : Cx l K 3 3 0 0 X prog_15_method_30_code "SeriesArchiveModel" (some .int) [] L_Mo_copy) (M : Mm) : VV l K 3 3 0 0 rvI X (fn_Mo_copy_31 M) 0 0 M 31 [(0, .ref (kA K 32))] [] := by
  unfold fn_Mo_copy_31
  refine V_aload_n hX (j := 0) (hj := rfl) 15 32 rfl rfl ?_
  refine V_iconst hX (v := 1) (hv := by decide) 16 33 rfl rfl ?_
  refine V_callI hX 36 0 0 rfl rfl rfl (Nat.le_of_ble_eq_true rfl) (Nat.le_of_ble_eq_true rfl) (VR_V hX 17 (ct_Mo_fail (cx_t hX) K 1 M) my_Mo_fail mi_Mo_fail ms_Mo_fail ml_Mo_111 (Nat.le_of_ble_eq_true rfl) (Nat.le_of_ble_eq_true rfl) (by decide) (ent_32 K _) rfl rfl rfl (Nat.le_of_ble_eq_true rfl) rfl (Nat.le_of_ble_eq_true rfl) (Nat.le_of_ble_eq_true rfl)) (fun r33 M33 => ?_)
  exact V_iret hX 18 rfl (Nat.le_of_ble_eq_true rfl) (Nat.le_of_ble_eq_true rfl) rfl
set_option maxRecDepth 20000 in
theorem ct_Mo_copy {l : Launch} (hl : l.stackTraces = false) (K : KT) (v1 : Int32) (v2 : Int32) (M : Mm) : CTp l K y_Mo_copy (Cond.code y_Mo_copy prog_15_method_30_code 3 (some .int)) rvI 3 0 0 [.ref (kA K 32), .int v1, .int v2] M (fn_Mo_copy v1 v2 M) := by
  refine CTp_of (L := L_Mo_copy) (lc := [(0, .ref (kA K 32)), (1, .int v1), (2, .int v2)]) (by decide +kernel) dec_Mo_copy hl rfl (Nat.le_of_ble_eq_true rfl) (fun X hX => ?_)
  unfold fn_Mo_copy
  refine V_aload_n hX (j := 0) (hj := rfl) 0 1 rfl rfl ?_
  refine V_callU hX 4 0 0 rfl rfl rfl (Nat.le_of_ble_eq_true rfl) (Nat.le_of_ble_eq_true rfl) (VR_V hX 1 (ct_Mo_begin (cx_t hX) K M) my_Mo_begin mi_Mo_begin ms_Mo_begin ml_Mo_104 (Nat.le_of_ble_eq_true rfl) (Nat.le_of_ble_eq_true rfl) (by decide) (ent_32 K _) rfl rfl rfl (Nat.le_of_ble_eq_true rfl) rfl (Nat.le_of_ble_eq_true rfl) (Nat.le_of_ble_eq_true rfl)) (fun r1 M1 => ?_)
  refine V_iload_n hX (j := 1) (hj := rfl) 2 5 rfl rfl ?_
  refine V_callI hX 8 0 0 rfl rfl rfl (Nat.le_of_ble_eq_true rfl) (Nat.le_of_ble_eq_true rfl) (VR_S hX 3 (ct_Mo_isSlot (cx_t hX) K v1 M1) my_Mo_isSlot mt_Mo_isSlot ml_Mo_89 (Nat.le_of_ble_eq_true rfl) (Nat.le_of_ble_eq_true rfl) rfl rfl (Nat.le_of_ble_eq_true rfl) rfl (Nat.le_of_ble_eq_true rfl) (Nat.le_of_ble_eq_true rfl)) (fun r5 M5 => ?_)
  refine V_if_eq hX 4 11 31 rfl rfl (by decide) (fun c8 => ?_) (fun c8 => ?_)
  · refine VV_sub [0] rfl ?_
    exact bt_Mo_copy_31 hX M5
  · refine V_iload_n hX (j := 2) (hj := rfl) 5 12 rfl rfl ?_
    refine V_callI hX 15 0 0 rfl rfl rfl (Nat.le_of_ble_eq_true rfl) (Nat.le_of_ble_eq_true rfl) (VR_S hX 6 (ct_Mo_isSlot (cx_t hX) K v2 M5) my_Mo_isSlot mt_Mo_isSlot ml_Mo_89 (Nat.le_of_ble_eq_true rfl) (Nat.le_of_ble_eq_true rfl) rfl rfl (Nat.le_of_ble_eq_true rfl) rfl (Nat.le_of_ble_eq_true rfl) (Nat.le_of_ble_eq_true rfl)) (fun r12 M12 => ?_)
    refine V_if_eq hX 7 18 31 rfl rfl (by decide) (fun c15 => ?_) (fun c15 => ?_)
    · refine VV_sub [0] rfl ?_
      exact bt_Mo_copy_31 hX M12
    · refine V_aload_n hX (j := 0) (hj := rfl) 8 19 rfl rfl ?_
      refine V_aload_n hX (j := 0) (hj := rfl) 9 20 rfl rfl ?_
      refine V_iload_n hX (j := 1) (hj := rfl) 10 21 rfl rfl ?_
      refine V_iload_n hX (j := 2) (hj := rfl) 11 22 rfl rfl ?_
      refine V_callI hX 25 0 0 rfl rfl rfl (Nat.le_of_ble_eq_true rfl) (Nat.le_of_ble_eq_true rfl) (VR_V hX 12 (ct_Mo_copies (cx_t hX) K v1 v2 M12) my_Mo_copies mi_Mo_copies ms_Mo_copies ml_Mo_144 (Nat.le_of_ble_eq_true rfl) (Nat.le_of_ble_eq_true rfl) (by decide) (ent_32 K _) rfl rfl rfl (Nat.le_of_ble_eq_true rfl) rfl (Nat.le_of_ble_eq_true rfl) (Nat.le_of_ble_eq_true rfl)) (fun r22 M22 => ?_)
      refine V_callI hX 28 0 0 rfl rfl rfl (Nat.le_of_ble_eq_true rfl) (Nat.le_of_ble_eq_true rfl) (VR_V hX 13 (ct_Mo_commit (cx_t hX) K r22 M22) my_Mo_commit mi_Mo_commit ms_Mo_commit ml_Mo_117 (Nat.le_of_ble_eq_true rfl) (Nat.le_of_ble_eq_true rfl) (by decide) (ent_32 K _) rfl rfl rfl (Nat.le_of_ble_eq_true rfl) rfl (Nat.le_of_ble_eq_true rfl) (Nat.le_of_ble_eq_true rfl)) (fun r25 M25 => ?_)
      refine V_goto hX 14 36 rfl (by decide) ?_
      exact V_iret hX 18 rfl (Nat.le_of_ble_eq_true rfl) (Nat.le_of_ble_eq_true rfl) rfl
set_option maxRecDepth 20000 in
theorem bt_Mo_laysRow_34 {l : Launch} {K : KT} {X : XT} (hX : Cx l K 2 4 0 0 X prog_15_method_31_code "SeriesArchiveModel" (some .int) [] L_Mo_laysRow) (k4 : Int32 → Int32 → Mm → Rs Int32) (v1 : Int32) (v3 : Int32) (hk4 : ∀ (v2 : Int32) (v3 : Int32) M, VV l K 2 4 0 0 rvI X (k4 v2 v3 M) 0 0 M 4 [(0, .ref (kA K 32)), (1, .int v1), (2, .int v2), (3, .int v3)] []) (s0 : Int32) (s1 : Int32) (M : Mm) : VV l K 2 4 0 0 rvI X (fn_Mo_laysRow_34 k4 v1 v3 s0 s1 M) 0 0 M 34 [(0, .ref (kA K 32)), (1, .int v1), (3, .int v3)] [.int s1, .int s0] := by
  unfold fn_Mo_laysRow_34
  refine V_iadd hX 22 35 rfl rfl ?_
  refine VV_li (fun x2_35 hx2_35 => ?_)
  refine V_istore_n hX 23 36 [(2, .int x2_35), (0, .ref (kA K 32)), (1, .int v1), (3, .int v3)] rfl rfl (Nat.le_of_ble_eq_true rfl) rfl ?_
  refine V_aload_n hX (j := 1) (hj := rfl) 24 37 rfl rfl ?_
  refine V_iload_n hX (j := 2) (hj := rfl) 25 38 rfl rfl ?_
  refine V_iload_n hX (j := 3) (hj := rfl) 26 39 rfl rfl ?_
  refine V_aload_n hX (j := 1) (hj := rfl) 27 40 rfl rfl ?_
  refine V_get hX 28 43 32 (.ref (kA K 38)) fl_Mo_25 rfl rfl (by decide) (ent_32 K _) rfl ?_
  refine V_iload_n hX (j := 3) (hj := rfl) 29 44 rfl rfl ?_
  refine V_iald hX 30 45 38 20 (by decide) rfl rfl rfl (fun g44 => ?_)
  refine V_callU hX 48 0 0 rfl rfl rfl (Nat.le_of_ble_eq_true rfl) (Nat.le_of_ble_eq_true rfl) (VR_V hX 31 (ct_Mo_lay (cx_t hX) K v1 v3 (M 38 v3.toNatClampNeg) M) my_Mo_lay mi_Mo_lay ms_Mo_lay ml_Mo_97 (Nat.le_of_ble_eq_true rfl) (Nat.le_of_ble_eq_true rfl) (by decide) (ent_32 K _) rfl rfl rfl (Nat.le_of_ble_eq_true rfl) rfl (Nat.le_of_ble_eq_true rfl) (Nat.le_of_ble_eq_true rfl)) (fun r45 M45 => ?_)
  refine V_iincL hX 32 51 3 rfl rfl rfl rfl (Nat.le_of_ble_eq_true rfl) (fun x3_48 hx3_48 => ?_)
  refine VV_lc [(3, .int x3_48), (2, .int x2_35), (0, .ref (kA K 32)), (1, .int v1)] rfl ?_
  refine V_goto hX 33 4 rfl (by decide) ?_
  refine VV_sub [2, 3, 1, 0] rfl ?_
  exact hk4 x2_35 x3_48 M45
set_option maxRecDepth 20000 in
theorem bt_Mo_laysRow_4 {l : Launch} {K : KT} {X : XT} (hX : Cx l K 2 4 0 0 X prog_15_method_31_code "SeriesArchiveModel" (some .int) [] L_Mo_laysRow) (v1 : Int32) : ∀ (n : Nat) (v2 : Int32) (v3 : Int32) (M : Mm), VV l K 2 4 0 0 rvI X (fn_Mo_laysRow_4 v1 n v2 v3 M) 0 0 M 4 [(0, .ref (kA K 32)), (1, .int v1), (2, .int v2), (3, .int v3)] [] := by
  intro n
  induction n with
  | zero => intro v2 v3 M; exact VV_none
  | succ n ih =>
    intro v2 v3 M
    rw [fn_Mo_laysRow_4]
    refine V_iload_n hX (j := 3) (hj := rfl) 4 5 rfl rfl ?_
    refine V_aload_n hX (j := 0) (hj := rfl) 5 6 rfl rfl ?_
    refine V_iload_n hX (j := 1) (hj := rfl) 6 7 rfl rfl ?_
    refine V_callI hX 10 0 0 rfl rfl rfl (Nat.le_of_ble_eq_true rfl) (Nat.le_of_ble_eq_true rfl) (VR_V hX 7 (ct_Mo_many (cx_t hX) K v1 M) my_Mo_many mi_Mo_many ms_Mo_many ml_Mo_93 (Nat.le_of_ble_eq_true rfl) (Nat.le_of_ble_eq_true rfl) (by decide) (ent_32 K _) rfl rfl rfl (Nat.le_of_ble_eq_true rfl) rfl (Nat.le_of_ble_eq_true rfl) (Nat.le_of_ble_eq_true rfl)) (fun r7 M7 => ?_)
    refine V_icmp_ge hX 8 13 54 rfl rfl (by decide) (fun c10 => ?_) (fun c10 => ?_)
    · refine V_iload_n hX (j := 2) (hj := rfl) 34 55 rfl rfl ?_
      exact V_iret hX 35 rfl (Nat.le_of_ble_eq_true rfl) (Nat.le_of_ble_eq_true rfl) rfl
    · refine V_iload_n hX (j := 2) (hj := rfl) 9 14 rfl rfl ?_
      refine V_aload_n hX (j := 0) (hj := rfl) 10 15 rfl rfl ?_
      refine V_iload_n hX (j := 1) (hj := rfl) 11 16 rfl rfl ?_
      refine V_iload_n hX (j := 3) (hj := rfl) 12 17 rfl rfl ?_
      refine V_callI hX 20 0 0 rfl rfl rfl (Nat.le_of_ble_eq_true rfl) (Nat.le_of_ble_eq_true rfl) (VR_V hX 13 (ct_Mo_at (cx_t hX) K v1 v3 M7) my_Mo_at mi_Mo_at ms_Mo_at ml_Mo_124 (Nat.le_of_ble_eq_true rfl) (Nat.le_of_ble_eq_true rfl) (by decide) (ent_32 K _) rfl rfl rfl (Nat.le_of_ble_eq_true rfl) rfl (Nat.le_of_ble_eq_true rfl) (Nat.le_of_ble_eq_true rfl)) (fun r17 M17 => ?_)
      refine V_aload_n hX (j := 0) (hj := rfl) 14 21 rfl rfl ?_
      refine V_get hX 15 24 32 (.ref (kA K 38)) fl_Mo_25 rfl rfl (by decide) (ent_32 K _) rfl ?_
      refine V_iload_n hX (j := 3) (hj := rfl) 16 25 rfl rfl ?_
      refine V_iald hX 17 26 38 20 (by decide) rfl rfl rfl (fun g25 => ?_)
      refine V_icmp_eq hX 18 29 33 rfl rfl (by decide) (fun c26 => ?_) (fun c26 => ?_)
      · refine V_iconst hX (v := 0) (hv := by decide) 21 34 rfl rfl ?_
        refine VV_sub [0, 1, 3] rfl ?_
        exact bt_Mo_laysRow_34 hX (fn_Mo_laysRow_4 v1 n) v1 v3 ih v2 0 M17
      · refine V_iconst hX (v := 1) (hv := by decide) 19 30 rfl rfl ?_
        refine V_goto hX 20 34 rfl (by decide) ?_
        refine VV_sub [0, 1, 3] rfl ?_
        exact bt_Mo_laysRow_34 hX (fn_Mo_laysRow_4 v1 n) v1 v3 ih v2 1 M17
set_option maxRecDepth 20000 in
theorem ct_Mo_laysRow {l : Launch} (hl : l.stackTraces = false) (K : KT) (v1 : Int32) (M : Mm) : CTp l K y_Mo_laysRow (Cond.code y_Mo_laysRow prog_15_method_31_code 4 (some .int)) rvI 2 0 0 [.ref (kA K 32), .int v1] M (fn_Mo_laysRow v1 M) := by
  refine CTp_of (L := L_Mo_laysRow) (lc := [(0, .ref (kA K 32)), (1, .int v1)]) (by decide +kernel) dec_Mo_laysRow hl rfl (Nat.le_of_ble_eq_true rfl) (fun X hX => ?_)
  unfold fn_Mo_laysRow
  refine V_iconst hX (v := 0) (hv := by decide) 0 1 rfl rfl ?_
  refine V_istore_n hX 1 2 [(2, .int 0), (0, .ref (kA K 32)), (1, .int v1)] rfl rfl (Nat.le_of_ble_eq_true rfl) rfl ?_
  refine V_iconst hX (v := 0) (hv := by decide) 2 3 rfl rfl ?_
  refine V_istore_n hX 3 4 [(3, .int 0), (2, .int 0), (0, .ref (kA K 32)), (1, .int v1)] rfl rfl (Nat.le_of_ble_eq_true rfl) rfl ?_
  refine VV_sub [2, 3, 1, 0] rfl ?_
  exact bt_Mo_laysRow_4 hX v1 fuel0 0 0 M
set_option maxRecDepth 20000 in
theorem bt_Mo_turns_37 {l : Launch} {K : KT} {X : XT} (hX : Cx l K 3 3 0 0 X prog_15_method_32_code "SeriesArchiveModel" (some .int) [] L_Mo_turns) (v1 : Int32) (M : Mm) : VV l K 3 3 0 0 rvI X (fn_Mo_turns_37 v1 M) 0 0 M 37 [(0, .ref (kA K 32)), (1, .int v1)] [] := by
  unfold fn_Mo_turns_37
  refine V_aload_n hX (j := 0) (hj := rfl) 23 38 rfl rfl ?_
  refine V_iload_n hX (j := 1) (hj := rfl) 24 39 rfl rfl ?_
  refine V_callI hX 42 0 0 rfl rfl rfl (Nat.le_of_ble_eq_true rfl) (Nat.le_of_ble_eq_true rfl) (VR_V hX 25 (ct_Mo_laysRow (cx_t hX) K v1 M) my_Mo_laysRow mi_Mo_laysRow ms_Mo_laysRow ml_Mo_147 (Nat.le_of_ble_eq_true rfl) (Nat.le_of_ble_eq_true rfl) (by decide) (ent_32 K _) rfl rfl rfl (Nat.le_of_ble_eq_true rfl) rfl (Nat.le_of_ble_eq_true rfl) (Nat.le_of_ble_eq_true rfl)) (fun r39 M39 => ?_)
  exact V_iret hX 26 rfl (Nat.le_of_ble_eq_true rfl) (Nat.le_of_ble_eq_true rfl) rfl
set_option maxRecDepth 20000 in
theorem bt_Mo_turns_2 {l : Launch} {K : KT} {X : XT} (hX : Cx l K 3 3 0 0 X prog_15_method_32_code "SeriesArchiveModel" (some .int) [] L_Mo_turns) (v1 : Int32) : ∀ (n : Nat) (v2 : Int32) (M : Mm), VV l K 3 3 0 0 rvI X (fn_Mo_turns_2 v1 n v2 M) 0 0 M 2 [(0, .ref (kA K 32)), (1, .int v1), (2, .int v2)] [] := by
  intro n
  induction n with
  | zero => intro v2 M; exact VV_none
  | succ n ih =>
    intro v2 M
    rw [fn_Mo_turns_2]
    refine V_iload_n hX (j := 2) (hj := rfl) 2 3 rfl rfl ?_
    refine V_aload_n hX (j := 0) (hj := rfl) 3 4 rfl rfl ?_
    refine V_iload_n hX (j := 1) (hj := rfl) 4 5 rfl rfl ?_
    refine V_callI hX 8 0 0 rfl rfl rfl (Nat.le_of_ble_eq_true rfl) (Nat.le_of_ble_eq_true rfl) (VR_V hX 5 (ct_Mo_many (cx_t hX) K v1 M) my_Mo_many mi_Mo_many ms_Mo_many ml_Mo_93 (Nat.le_of_ble_eq_true rfl) (Nat.le_of_ble_eq_true rfl) (by decide) (ent_32 K _) rfl rfl rfl (Nat.le_of_ble_eq_true rfl) rfl (Nat.le_of_ble_eq_true rfl) (Nat.le_of_ble_eq_true rfl)) (fun r5 M5 => ?_)
    refine V_icmp_ge hX 6 11 37 rfl rfl (by decide) (fun c8 => ?_) (fun c8 => ?_)
    · refine VV_sub [0, 1] rfl ?_
      exact bt_Mo_turns_37 hX v1 M5
    · refine V_aload_n hX (j := 0) (hj := rfl) 7 12 rfl rfl ?_
      refine V_get hX 8 15 32 (.ref (kA K 38)) fl_Mo_25 rfl rfl (by decide) (ent_32 K _) rfl ?_
      refine V_iload_n hX (j := 2) (hj := rfl) 9 16 rfl rfl ?_
      refine V_aload_n hX (j := 0) (hj := rfl) 10 17 rfl rfl ?_
      refine V_iload_n hX (j := 1) (hj := rfl) 11 18 rfl rfl ?_
      refine V_aload_n hX (j := 0) (hj := rfl) 12 19 rfl rfl ?_
      refine V_iload_n hX (j := 1) (hj := rfl) 13 20 rfl rfl ?_
      refine V_callI hX 23 0 0 rfl rfl rfl (Nat.le_of_ble_eq_true rfl) (Nat.le_of_ble_eq_true rfl) (VR_V hX 14 (ct_Mo_many (cx_t hX) K v1 M5) my_Mo_many mi_Mo_many ms_Mo_many ml_Mo_93 (Nat.le_of_ble_eq_true rfl) (Nat.le_of_ble_eq_true rfl) (by decide) (ent_32 K _) rfl rfl rfl (Nat.le_of_ble_eq_true rfl) rfl (Nat.le_of_ble_eq_true rfl) (Nat.le_of_ble_eq_true rfl)) (fun r20 M20 => ?_)
      refine V_iconst hX (v := 1) (hv := by decide) 15 24 rfl rfl ?_
      refine V_isub hX 16 25 rfl rfl ?_
      refine V_iload_n hX (j := 2) (hj := rfl) 17 26 rfl rfl ?_
      refine V_isub hX 18 27 rfl rfl ?_
      refine V_callI hX 30 0 0 rfl rfl rfl (Nat.le_of_ble_eq_true rfl) (Nat.le_of_ble_eq_true rfl) (VR_V hX 19 (ct_Mo_at (cx_t hX) K v1 ((r20 - 1) - v2) M20) my_Mo_at mi_Mo_at ms_Mo_at ml_Mo_124 (Nat.le_of_ble_eq_true rfl) (Nat.le_of_ble_eq_true rfl) (by decide) (ent_32 K _) rfl rfl rfl (Nat.le_of_ble_eq_true rfl) rfl (Nat.le_of_ble_eq_true rfl) (Nat.le_of_ble_eq_true rfl)) (fun r27 M27 => ?_)
      refine V_iast hX 20 31 38 20 (by decide) rfl rfl rfl (fun g30 M30 hM30 => ?_)
      refine V_iincL hX 21 34 2 rfl rfl rfl rfl (Nat.le_of_ble_eq_true rfl) (fun x2_31 hx2_31 => ?_)
      refine VV_lc [(2, .int x2_31), (0, .ref (kA K 32)), (1, .int v1)] rfl ?_
      refine V_goto hX 22 2 rfl (by decide) ?_
      refine VV_sub [1, 2, 0] rfl ?_
      exact ih x2_31 M30
set_option maxRecDepth 20000 in
theorem ct_Mo_turns {l : Launch} (hl : l.stackTraces = false) (K : KT) (v1 : Int32) (M : Mm) : CTp l K y_Mo_turns (Cond.code y_Mo_turns prog_15_method_32_code 3 (some .int)) rvI 3 0 0 [.ref (kA K 32), .int v1] M (fn_Mo_turns v1 M) := by
  refine CTp_of (L := L_Mo_turns) (lc := [(0, .ref (kA K 32)), (1, .int v1)]) (by decide +kernel) dec_Mo_turns hl rfl (Nat.le_of_ble_eq_true rfl) (fun X hX => ?_)
  unfold fn_Mo_turns
  refine V_iconst hX (v := 0) (hv := by decide) 0 1 rfl rfl ?_
  refine V_istore_n hX 1 2 [(2, .int 0), (0, .ref (kA K 32)), (1, .int v1)] rfl rfl (Nat.le_of_ble_eq_true rfl) rfl ?_
  refine VV_sub [1, 2, 0] rfl ?_
  exact bt_Mo_turns_2 hX v1 fuel0 0 M
set_option maxRecDepth 20000 in
theorem ct_Mo_reverse {l : Launch} (hl : l.stackTraces = false) (K : KT) (v1 : Int32) (M : Mm) : CTp l K y_Mo_reverse (Cond.code y_Mo_reverse prog_15_method_33_code 2 (some .int)) rvI 4 0 0 [.ref (kA K 32), .int v1] M (fn_Mo_reverse v1 M) := by
  refine CTp_of (L := L_Mo_reverse) (lc := [(0, .ref (kA K 32)), (1, .int v1)]) (by decide +kernel) dec_Mo_reverse hl rfl (Nat.le_of_ble_eq_true rfl) (fun X hX => ?_)
  unfold fn_Mo_reverse
  refine V_aload_n hX (j := 0) (hj := rfl) 0 1 rfl rfl ?_
  refine V_callU hX 4 0 0 rfl rfl rfl (Nat.le_of_ble_eq_true rfl) (Nat.le_of_ble_eq_true rfl) (VR_V hX 1 (ct_Mo_begin (cx_t hX) K M) my_Mo_begin mi_Mo_begin ms_Mo_begin ml_Mo_104 (Nat.le_of_ble_eq_true rfl) (Nat.le_of_ble_eq_true rfl) (by decide) (ent_32 K _) rfl rfl rfl (Nat.le_of_ble_eq_true rfl) rfl (Nat.le_of_ble_eq_true rfl) (Nat.le_of_ble_eq_true rfl)) (fun r1 M1 => ?_)
  refine V_iload_n hX (j := 1) (hj := rfl) 2 5 rfl rfl ?_
  refine V_callI hX 8 0 0 rfl rfl rfl (Nat.le_of_ble_eq_true rfl) (Nat.le_of_ble_eq_true rfl) (VR_S hX 3 (ct_Mo_isSlot (cx_t hX) K v1 M1) my_Mo_isSlot mt_Mo_isSlot ml_Mo_89 (Nat.le_of_ble_eq_true rfl) (Nat.le_of_ble_eq_true rfl) rfl rfl (Nat.le_of_ble_eq_true rfl) rfl (Nat.le_of_ble_eq_true rfl) (Nat.le_of_ble_eq_true rfl)) (fun r5 M5 => ?_)
  refine V_if_eq hX 4 11 23 rfl rfl (by decide) (fun c8 => ?_) (fun c8 => ?_)
  · refine V_aload_n hX (j := 0) (hj := rfl) 11 24 rfl rfl ?_
    refine V_iconst hX (v := 1) (hv := by decide) 12 25 rfl rfl ?_
    refine V_callI hX 28 0 0 rfl rfl rfl (Nat.le_of_ble_eq_true rfl) (Nat.le_of_ble_eq_true rfl) (VR_V hX 13 (ct_Mo_fail (cx_t hX) K 1 M5) my_Mo_fail mi_Mo_fail ms_Mo_fail ml_Mo_111 (Nat.le_of_ble_eq_true rfl) (Nat.le_of_ble_eq_true rfl) (by decide) (ent_32 K _) rfl rfl rfl (Nat.le_of_ble_eq_true rfl) rfl (Nat.le_of_ble_eq_true rfl) (Nat.le_of_ble_eq_true rfl)) (fun r25 M25 => ?_)
    exact V_iret hX 14 rfl (Nat.le_of_ble_eq_true rfl) (Nat.le_of_ble_eq_true rfl) rfl
  · refine V_aload_n hX (j := 0) (hj := rfl) 5 12 rfl rfl ?_
    refine V_aload_n hX (j := 0) (hj := rfl) 6 13 rfl rfl ?_
    refine V_iload_n hX (j := 1) (hj := rfl) 7 14 rfl rfl ?_
    refine V_callI hX 17 0 0 rfl rfl rfl (Nat.le_of_ble_eq_true rfl) (Nat.le_of_ble_eq_true rfl) (VR_V hX 8 (ct_Mo_turns (cx_t hX) K v1 M5) my_Mo_turns mi_Mo_turns ms_Mo_turns ml_Mo_150 (Nat.le_of_ble_eq_true rfl) (Nat.le_of_ble_eq_true rfl) (by decide) (ent_32 K _) rfl rfl rfl (Nat.le_of_ble_eq_true rfl) rfl (Nat.le_of_ble_eq_true rfl) (Nat.le_of_ble_eq_true rfl)) (fun r14 M14 => ?_)
    refine V_callI hX 20 0 0 rfl rfl rfl (Nat.le_of_ble_eq_true rfl) (Nat.le_of_ble_eq_true rfl) (VR_V hX 9 (ct_Mo_commit (cx_t hX) K r14 M14) my_Mo_commit mi_Mo_commit ms_Mo_commit ml_Mo_117 (Nat.le_of_ble_eq_true rfl) (Nat.le_of_ble_eq_true rfl) (by decide) (ent_32 K _) rfl rfl rfl (Nat.le_of_ble_eq_true rfl) rfl (Nat.le_of_ble_eq_true rfl) (Nat.le_of_ble_eq_true rfl)) (fun r17 M17 => ?_)
    refine V_goto hX 10 28 rfl (by decide) ?_
    exact V_iret hX 14 rfl (Nat.le_of_ble_eq_true rfl) (Nat.le_of_ble_eq_true rfl) rfl
set_option maxRecDepth 20000 in
theorem bt_Mo_cannotShift_20 {l : Launch} {K : KT} {X : XT} (hX : Cx l K 3 4 0 0 X prog_15_method_34_code "SeriesArchiveModel" (some .int) [] L_Mo_cannotShift) (v1 : Int32) (v2 : Int32) : ∀ (n : Nat) (v3 : Int32) (M : Mm), VV l K 3 4 0 0 rvI X (fn_Mo_cannotShift_20 v1 v2 n v3 M) 0 0 M 20 [(0, .ref (kA K 32)), (1, .int v1), (2, .int v2), (3, .int v3)] [] := by
  intro n
  induction n with
  | zero => intro v3 M; exact VV_none
  | succ n ih =>
    intro v3 M
    rw [fn_Mo_cannotShift_20]
    refine V_iload_n hX (j := 3) (hj := rfl) 12 21 rfl rfl ?_
    refine V_aload_n hX (j := 0) (hj := rfl) 13 22 rfl rfl ?_
    refine V_iload_n hX (j := 1) (hj := rfl) 14 23 rfl rfl ?_
    refine V_callI hX 26 0 0 rfl rfl rfl (Nat.le_of_ble_eq_true rfl) (Nat.le_of_ble_eq_true rfl) (VR_V hX 15 (ct_Mo_many (cx_t hX) K v1 M) my_Mo_many mi_Mo_many ms_Mo_many ml_Mo_93 (Nat.le_of_ble_eq_true rfl) (Nat.le_of_ble_eq_true rfl) (by decide) (ent_32 K _) rfl rfl rfl (Nat.le_of_ble_eq_true rfl) rfl (Nat.le_of_ble_eq_true rfl) (Nat.le_of_ble_eq_true rfl)) (fun r23 M23 => ?_)
    refine V_icmp_ge hX 16 29 51 rfl rfl (by decide) (fun c26 => ?_) (fun c26 => ?_)
    · refine V_iconst hX (v := 0) (hv := by decide) 29 52 rfl rfl ?_
      exact V_iret hX 30 rfl (Nat.le_of_ble_eq_true rfl) (Nat.le_of_ble_eq_true rfl) rfl
    · refine V_aload_n hX (j := 0) (hj := rfl) 17 30 rfl rfl ?_
      refine V_iload_n hX (j := 1) (hj := rfl) 18 31 rfl rfl ?_
      refine V_iload_n hX (j := 3) (hj := rfl) 19 32 rfl rfl ?_
      refine V_callI hX 35 0 0 rfl rfl rfl (Nat.le_of_ble_eq_true rfl) (Nat.le_of_ble_eq_true rfl) (VR_V hX 20 (ct_Mo_at (cx_t hX) K v1 v3 M23) my_Mo_at mi_Mo_at ms_Mo_at ml_Mo_124 (Nat.le_of_ble_eq_true rfl) (Nat.le_of_ble_eq_true rfl) (by decide) (ent_32 K _) rfl rfl rfl (Nat.le_of_ble_eq_true rfl) rfl (Nat.le_of_ble_eq_true rfl) (Nat.le_of_ble_eq_true rfl)) (fun r32 M32 => ?_)
      refine V_iload_n hX (j := 2) (hj := rfl) 21 36 rfl rfl ?_
      refine V_iadd hX 22 37 rfl rfl ?_
      refine V_callI hX 40 0 0 rfl rfl rfl (Nat.le_of_ble_eq_true rfl) (Nat.le_of_ble_eq_true rfl) (VR_S hX 23 (ct_Mo_isValue (cx_t hX) K (r32 + v2) M32) my_Mo_isValue mt_Mo_isValue ml_Mo_101 (Nat.le_of_ble_eq_true rfl) (Nat.le_of_ble_eq_true rfl) rfl rfl (Nat.le_of_ble_eq_true rfl) rfl (Nat.le_of_ble_eq_true rfl) (Nat.le_of_ble_eq_true rfl)) (fun r37 M37 => ?_)
      refine V_if_ne hX 24 43 45 rfl rfl (by decide) (fun c40 => ?_) (fun c40 => ?_)
      · refine V_iincL hX 27 48 3 rfl rfl rfl rfl (Nat.le_of_ble_eq_true rfl) (fun x3_45 hx3_45 => ?_)
        refine VV_lc [(3, .int x3_45), (0, .ref (kA K 32)), (1, .int v1), (2, .int v2)] rfl ?_
        refine V_goto hX 28 20 rfl (by decide) ?_
        refine VV_sub [1, 2, 3, 0] rfl ?_
        exact ih x3_45 M37
      · refine V_iconst hX (v := 3) (hv := by decide) 25 44 rfl rfl ?_
        exact V_iret hX 26 rfl (Nat.le_of_ble_eq_true rfl) (Nat.le_of_ble_eq_true rfl) rfl
set_option maxRecDepth 20000 in
theorem ct_Mo_cannotShift {l : Launch} (hl : l.stackTraces = false) (K : KT) (v1 : Int32) (v2 : Int32) (M : Mm) : CTp l K y_Mo_cannotShift (Cond.code y_Mo_cannotShift prog_15_method_34_code 4 (some .int)) rvI 3 0 0 [.ref (kA K 32), .int v1, .int v2] M (fn_Mo_cannotShift v1 v2 M) := by
  refine CTp_of (L := L_Mo_cannotShift) (lc := [(0, .ref (kA K 32)), (1, .int v1), (2, .int v2)]) (by decide +kernel) dec_Mo_cannotShift hl rfl (Nat.le_of_ble_eq_true rfl) (fun X hX => ?_)
  unfold fn_Mo_cannotShift
  refine V_iload_n hX (j := 1) (hj := rfl) 0 1 rfl rfl ?_
  refine V_callI hX 4 0 0 rfl rfl rfl (Nat.le_of_ble_eq_true rfl) (Nat.le_of_ble_eq_true rfl) (VR_S hX 1 (ct_Mo_isSlot (cx_t hX) K v1 M) my_Mo_isSlot mt_Mo_isSlot ml_Mo_89 (Nat.le_of_ble_eq_true rfl) (Nat.le_of_ble_eq_true rfl) rfl rfl (Nat.le_of_ble_eq_true rfl) rfl (Nat.le_of_ble_eq_true rfl) (Nat.le_of_ble_eq_true rfl)) (fun r1 M1 => ?_)
  refine V_if_ne hX 2 7 9 rfl rfl (by decide) (fun c4 => ?_) (fun c4 => ?_)
  · refine V_iload_n hX (j := 2) (hj := rfl) 5 10 rfl rfl ?_
    refine V_callI hX 13 0 0 rfl rfl rfl (Nat.le_of_ble_eq_true rfl) (Nat.le_of_ble_eq_true rfl) (VR_S hX 6 (ct_Mo_isValue (cx_t hX) K v2 M1) my_Mo_isValue mt_Mo_isValue ml_Mo_101 (Nat.le_of_ble_eq_true rfl) (Nat.le_of_ble_eq_true rfl) rfl rfl (Nat.le_of_ble_eq_true rfl) rfl (Nat.le_of_ble_eq_true rfl) (Nat.le_of_ble_eq_true rfl)) (fun r10 M10 => ?_)
    refine V_if_ne hX 7 16 18 rfl rfl (by decide) (fun c13 => ?_) (fun c13 => ?_)
    · refine V_iconst hX (v := 0) (hv := by decide) 10 19 rfl rfl ?_
      refine V_istore_n hX 11 20 [(3, .int 0), (0, .ref (kA K 32)), (1, .int v1), (2, .int v2)] rfl rfl (Nat.le_of_ble_eq_true rfl) rfl ?_
      refine VV_sub [1, 2, 3, 0] rfl ?_
      exact bt_Mo_cannotShift_20 hX v1 v2 fuel0 0 M10
    · refine V_iconst hX (v := 2) (hv := by decide) 8 17 rfl rfl ?_
      exact V_iret hX 9 rfl (Nat.le_of_ble_eq_true rfl) (Nat.le_of_ble_eq_true rfl) rfl
  · refine V_iconst hX (v := 1) (hv := by decide) 3 8 rfl rfl ?_
    exact V_iret hX 4 rfl (Nat.le_of_ble_eq_true rfl) (Nat.le_of_ble_eq_true rfl) rfl
set_option maxRecDepth 20000 in
theorem bt_Mo_total_6 {l : Launch} {K : KT} {X : XT} (hX : Cx l K 2 6 0 0 X prog_15_method_35_code "SeriesArchiveModel" (some .int) [] L_Mo_total) (v1 : Int32) (v3 : Int32) : ∀ (n : Nat) (v4 : Int32) (v5 : Int32) (M : Mm), VV l K 2 6 0 0 rvI X (fn_Mo_total_6 v1 v3 n v4 v5 M) 0 0 M 6 [(0, .ref (kA K 32)), (1, .int v1), (3, .int v3), (4, .int v4), (5, .int v5)] [] := by
  intro n
  induction n with
  | zero => intro v4 v5 M; exact VV_none
  | succ n ih =>
    intro v4 v5 M
    rw [fn_Mo_total_6]
    refine V_iload hX (j := 4) (hj := rfl) 4 8 rfl rfl ?_
    refine V_iload_n hX (j := 2) (hj := rfl) 5 9 rfl rfl ?_
    refine V_icmp_gt hX 6 12 30 rfl rfl (by decide) (fun c9 => ?_) (fun c9 => ?_)
    · refine V_iload hX (j := 3) (hj := rfl) 16 32 rfl rfl ?_
      exact V_iret hX 17 rfl (Nat.le_of_ble_eq_true rfl) (Nat.le_of_ble_eq_true rfl) rfl
    · refine V_iload hX (j := 3) (hj := rfl) 7 14 rfl rfl ?_
      refine V_aload_n hX (j := 0) (hj := rfl) 8 15 rfl rfl ?_
      refine V_iload_n hX (j := 1) (hj := rfl) 9 16 rfl rfl ?_
      refine V_iload hX (j := 4) (hj := rfl) 10 18 rfl rfl ?_
      refine V_callI hX 21 0 0 rfl rfl rfl (Nat.le_of_ble_eq_true rfl) (Nat.le_of_ble_eq_true rfl) (VR_V hX 11 (ct_Mo_at (cx_t hX) K v1 v5 M) my_Mo_at mi_Mo_at ms_Mo_at ml_Mo_124 (Nat.le_of_ble_eq_true rfl) (Nat.le_of_ble_eq_true rfl) (by decide) (ent_32 K _) rfl rfl rfl (Nat.le_of_ble_eq_true rfl) rfl (Nat.le_of_ble_eq_true rfl) (Nat.le_of_ble_eq_true rfl)) (fun r18 M18 => ?_)
      refine V_iadd hX 12 22 rfl rfl ?_
      refine VV_li (fun x4_22 hx4_22 => ?_)
      refine V_istore hX 13 24 [(4, .int x4_22), (0, .ref (kA K 32)), (1, .int v1), (3, .int v3), (5, .int v5)] rfl rfl (Nat.le_of_ble_eq_true rfl) rfl ?_
      refine V_iincL hX 14 27 4 rfl rfl rfl rfl (Nat.le_of_ble_eq_true rfl) (fun x5_24 hx5_24 => ?_)
      refine VV_lc [(5, .int x5_24), (4, .int x4_22), (0, .ref (kA K 32)), (1, .int v1), (3, .int v3)] rfl ?_
      refine V_goto hX 15 6 rfl (by decide) ?_
      refine VV_sub [2, 3, 4, 1, 0] rfl ?_
      exact ih x4_22 x5_24 M18
set_option maxRecDepth 20000 in
theorem ct_Mo_total {l : Launch} (hl : l.stackTraces = false) (K : KT) (v1 : Int32) (v2 : Int32) (v3 : Int32) (M : Mm) : CTp l K y_Mo_total (Cond.code y_Mo_total prog_15_method_35_code 6 (some .int)) rvI 2 0 0 [.ref (kA K 32), .int v1, .int v2, .int v3] M (fn_Mo_total v1 v2 v3 M) := by
  refine CTp_of (L := L_Mo_total) (lc := [(0, .ref (kA K 32)), (1, .int v1), (2, .int v2), (3, .int v3)]) (by decide +kernel) dec_Mo_total hl rfl (Nat.le_of_ble_eq_true rfl) (fun X hX => ?_)
  unfold fn_Mo_total
  refine V_iconst hX (v := 0) (hv := by decide) 0 1 rfl rfl ?_
  refine V_istore hX 1 3 [(4, .int 0), (0, .ref (kA K 32)), (1, .int v1), (2, .int v2), (3, .int v3)] rfl rfl (Nat.le_of_ble_eq_true rfl) rfl ?_
  refine V_iload_n hX (j := 3) (hj := rfl) 2 4 rfl rfl ?_
  refine V_istore hX 3 6 [(5, .int v2), (4, .int 0), (0, .ref (kA K 32)), (1, .int v1), (2, .int v2), (3, .int v3)] rfl rfl (Nat.le_of_ble_eq_true rfl) rfl ?_
  refine VV_sub [2, 3, 5, 1, 0] rfl ?_
  exact bt_Mo_total_6 hX v1 v3 fuel0 0 v2 M
set_option maxRecDepth 20000 in
theorem bt_Mo_shifts_31 {l : Launch} {K : KT} {X : XT} (hX : Cx l K 3 4 0 0 X prog_15_method_36_code "SeriesArchiveModel" (some .int) [] L_Mo_shifts) (v1 : Int32) (M : Mm) : VV l K 3 4 0 0 rvI X (fn_Mo_shifts_31 v1 M) 0 0 M 31 [(0, .ref (kA K 32)), (1, .int v1)] [] := by
  unfold fn_Mo_shifts_31
  refine V_aload_n hX (j := 0) (hj := rfl) 19 32 rfl rfl ?_
  refine V_iload_n hX (j := 1) (hj := rfl) 20 33 rfl rfl ?_
  refine V_iconst hX (v := 0) (hv := by decide) 21 34 rfl rfl ?_
  refine V_aload_n hX (j := 0) (hj := rfl) 22 35 rfl rfl ?_
  refine V_iload_n hX (j := 1) (hj := rfl) 23 36 rfl rfl ?_
  refine V_callI hX 39 0 0 rfl rfl rfl (Nat.le_of_ble_eq_true rfl) (Nat.le_of_ble_eq_true rfl) (VR_V hX 24 (ct_Mo_many (cx_t hX) K v1 M) my_Mo_many mi_Mo_many ms_Mo_many ml_Mo_93 (Nat.le_of_ble_eq_true rfl) (Nat.le_of_ble_eq_true rfl) (by decide) (ent_32 K _) rfl rfl rfl (Nat.le_of_ble_eq_true rfl) rfl (Nat.le_of_ble_eq_true rfl) (Nat.le_of_ble_eq_true rfl)) (fun r36 M36 => ?_)
  refine V_iconst hX (v := 1) (hv := by decide) 25 40 rfl rfl ?_
  refine V_isub hX 26 41 rfl rfl ?_
  refine V_callI hX 44 0 0 rfl rfl rfl (Nat.le_of_ble_eq_true rfl) (Nat.le_of_ble_eq_true rfl) (VR_V hX 27 (ct_Mo_total (cx_t hX) K v1 0 (r36 - 1) M36) my_Mo_total mi_Mo_total ms_Mo_total ml_Mo_153 (Nat.le_of_ble_eq_true rfl) (Nat.le_of_ble_eq_true rfl) (by decide) (ent_32 K _) rfl rfl rfl (Nat.le_of_ble_eq_true rfl) rfl (Nat.le_of_ble_eq_true rfl) (Nat.le_of_ble_eq_true rfl)) (fun r41 M41 => ?_)
  exact V_iret hX 28 rfl (Nat.le_of_ble_eq_true rfl) (Nat.le_of_ble_eq_true rfl) rfl
set_option maxRecDepth 20000 in
theorem bt_Mo_shifts_2 {l : Launch} {K : KT} {X : XT} (hX : Cx l K 3 4 0 0 X prog_15_method_36_code "SeriesArchiveModel" (some .int) [] L_Mo_shifts) (v1 : Int32) (v2 : Int32) : ∀ (n : Nat) (v3 : Int32) (M : Mm), VV l K 3 4 0 0 rvI X (fn_Mo_shifts_2 v1 v2 n v3 M) 0 0 M 2 [(0, .ref (kA K 32)), (1, .int v1), (2, .int v2), (3, .int v3)] [] := by
  intro n
  induction n with
  | zero => intro v3 M; exact VV_none
  | succ n ih =>
    intro v3 M
    rw [fn_Mo_shifts_2]
    refine V_iload_n hX (j := 3) (hj := rfl) 2 3 rfl rfl ?_
    refine V_aload_n hX (j := 0) (hj := rfl) 3 4 rfl rfl ?_
    refine V_iload_n hX (j := 1) (hj := rfl) 4 5 rfl rfl ?_
    refine V_callI hX 8 0 0 rfl rfl rfl (Nat.le_of_ble_eq_true rfl) (Nat.le_of_ble_eq_true rfl) (VR_V hX 5 (ct_Mo_many (cx_t hX) K v1 M) my_Mo_many mi_Mo_many ms_Mo_many ml_Mo_93 (Nat.le_of_ble_eq_true rfl) (Nat.le_of_ble_eq_true rfl) (by decide) (ent_32 K _) rfl rfl rfl (Nat.le_of_ble_eq_true rfl) rfl (Nat.le_of_ble_eq_true rfl) (Nat.le_of_ble_eq_true rfl)) (fun r5 M5 => ?_)
    refine V_icmp_ge hX 6 11 31 rfl rfl (by decide) (fun c8 => ?_) (fun c8 => ?_)
    · refine VV_sub [0, 1] rfl ?_
      exact bt_Mo_shifts_31 hX v1 M5
    · refine V_aload_n hX (j := 0) (hj := rfl) 7 12 rfl rfl ?_
      refine V_iload_n hX (j := 1) (hj := rfl) 8 13 rfl rfl ?_
      refine V_iload_n hX (j := 3) (hj := rfl) 9 14 rfl rfl ?_
      refine V_aload_n hX (j := 0) (hj := rfl) 10 15 rfl rfl ?_
      refine V_iload_n hX (j := 1) (hj := rfl) 11 16 rfl rfl ?_
      refine V_iload_n hX (j := 3) (hj := rfl) 12 17 rfl rfl ?_
      refine V_callI hX 20 0 0 rfl rfl rfl (Nat.le_of_ble_eq_true rfl) (Nat.le_of_ble_eq_true rfl) (VR_V hX 13 (ct_Mo_at (cx_t hX) K v1 v3 M5) my_Mo_at mi_Mo_at ms_Mo_at ml_Mo_124 (Nat.le_of_ble_eq_true rfl) (Nat.le_of_ble_eq_true rfl) (by decide) (ent_32 K _) rfl rfl rfl (Nat.le_of_ble_eq_true rfl) rfl (Nat.le_of_ble_eq_true rfl) (Nat.le_of_ble_eq_true rfl)) (fun r17 M17 => ?_)
      refine V_iload_n hX (j := 2) (hj := rfl) 14 21 rfl rfl ?_
      refine V_iadd hX 15 22 rfl rfl ?_
      refine V_callU hX 25 0 0 rfl rfl rfl (Nat.le_of_ble_eq_true rfl) (Nat.le_of_ble_eq_true rfl) (VR_V hX 16 (ct_Mo_lay (cx_t hX) K v1 v3 (r17 + v2) M17) my_Mo_lay mi_Mo_lay ms_Mo_lay ml_Mo_97 (Nat.le_of_ble_eq_true rfl) (Nat.le_of_ble_eq_true rfl) (by decide) (ent_32 K _) rfl rfl rfl (Nat.le_of_ble_eq_true rfl) rfl (Nat.le_of_ble_eq_true rfl) (Nat.le_of_ble_eq_true rfl)) (fun r22 M22 => ?_)
      refine V_iincL hX 17 28 3 rfl rfl rfl rfl (Nat.le_of_ble_eq_true rfl) (fun x3_25 hx3_25 => ?_)
      refine VV_lc [(3, .int x3_25), (0, .ref (kA K 32)), (1, .int v1), (2, .int v2)] rfl ?_
      refine V_goto hX 18 2 rfl (by decide) ?_
      refine VV_sub [1, 2, 3, 0] rfl ?_
      exact ih x3_25 M22
set_option maxRecDepth 20000 in
theorem ct_Mo_shifts {l : Launch} (hl : l.stackTraces = false) (K : KT) (v1 : Int32) (v2 : Int32) (M : Mm) : CTp l K y_Mo_shifts (Cond.code y_Mo_shifts prog_15_method_36_code 4 (some .int)) rvI 3 0 0 [.ref (kA K 32), .int v1, .int v2] M (fn_Mo_shifts v1 v2 M) := by
  refine CTp_of (L := L_Mo_shifts) (lc := [(0, .ref (kA K 32)), (1, .int v1), (2, .int v2)]) (by decide +kernel) dec_Mo_shifts hl rfl (Nat.le_of_ble_eq_true rfl) (fun X hX => ?_)
  unfold fn_Mo_shifts
  refine V_iconst hX (v := 0) (hv := by decide) 0 1 rfl rfl ?_
  refine V_istore_n hX 1 2 [(3, .int 0), (0, .ref (kA K 32)), (1, .int v1), (2, .int v2)] rfl rfl (Nat.le_of_ble_eq_true rfl) rfl ?_
  refine VV_sub [1, 2, 3, 0] rfl ?_
  exact bt_Mo_shifts_2 hX v1 v2 fuel0 0 M
set_option maxRecDepth 20000 in
theorem ct_Mo_shift {l : Launch} (hl : l.stackTraces = false) (K : KT) (v1 : Int32) (v2 : Int32) (M : Mm) : CTp l K y_Mo_shift (Cond.code y_Mo_shift prog_15_method_37_code 4 (some .int)) rvI 4 0 0 [.ref (kA K 32), .int v1, .int v2] M (fn_Mo_shift v1 v2 M) := by
  refine CTp_of (L := L_Mo_shift) (lc := [(0, .ref (kA K 32)), (1, .int v1), (2, .int v2)]) (by decide +kernel) dec_Mo_shift hl rfl (Nat.le_of_ble_eq_true rfl) (fun X hX => ?_)
  unfold fn_Mo_shift
  refine V_aload_n hX (j := 0) (hj := rfl) 0 1 rfl rfl ?_
  refine V_callU hX 4 0 0 rfl rfl rfl (Nat.le_of_ble_eq_true rfl) (Nat.le_of_ble_eq_true rfl) (VR_V hX 1 (ct_Mo_begin (cx_t hX) K M) my_Mo_begin mi_Mo_begin ms_Mo_begin ml_Mo_104 (Nat.le_of_ble_eq_true rfl) (Nat.le_of_ble_eq_true rfl) (by decide) (ent_32 K _) rfl rfl rfl (Nat.le_of_ble_eq_true rfl) rfl (Nat.le_of_ble_eq_true rfl) (Nat.le_of_ble_eq_true rfl)) (fun r1 M1 => ?_)
  refine V_aload_n hX (j := 0) (hj := rfl) 2 5 rfl rfl ?_
  refine V_iload_n hX (j := 1) (hj := rfl) 3 6 rfl rfl ?_
  refine V_iload_n hX (j := 2) (hj := rfl) 4 7 rfl rfl ?_
  refine V_callI hX 10 0 0 rfl rfl rfl (Nat.le_of_ble_eq_true rfl) (Nat.le_of_ble_eq_true rfl) (VR_V hX 5 (ct_Mo_cannotShift (cx_t hX) K v1 v2 M1) my_Mo_cannotShift mi_Mo_cannotShift ms_Mo_cannotShift ml_Mo_156 (Nat.le_of_ble_eq_true rfl) (Nat.le_of_ble_eq_true rfl) (by decide) (ent_32 K _) rfl rfl rfl (Nat.le_of_ble_eq_true rfl) rfl (Nat.le_of_ble_eq_true rfl) (Nat.le_of_ble_eq_true rfl)) (fun r7 M7 => ?_)
  refine V_istore_n hX 6 11 [(3, .int r7), (0, .ref (kA K 32)), (1, .int v1), (2, .int v2)] rfl rfl (Nat.le_of_ble_eq_true rfl) rfl ?_
  refine V_iload_n hX (j := 0) (hj := rfl) 7 12 rfl rfl ?_
  refine V_if_le hX 8 15 23 rfl rfl (by decide) (fun c12 => ?_) (fun c12 => ?_)
  · refine V_aload_n hX (j := 1) (hj := rfl) 13 24 rfl rfl ?_
    refine V_aload_n hX (j := 1) (hj := rfl) 14 25 rfl rfl ?_
    refine V_iload_n hX (j := 2) (hj := rfl) 15 26 rfl rfl ?_
    refine V_iload_n hX (j := 3) (hj := rfl) 16 27 rfl rfl ?_
    refine V_callI hX 30 0 0 rfl rfl rfl (Nat.le_of_ble_eq_true rfl) (Nat.le_of_ble_eq_true rfl) (VR_V hX 17 (ct_Mo_shifts (cx_t hX) K v1 v2 M7) my_Mo_shifts mi_Mo_shifts ms_Mo_shifts ml_Mo_159 (Nat.le_of_ble_eq_true rfl) (Nat.le_of_ble_eq_true rfl) (by decide) (ent_32 K _) rfl rfl rfl (Nat.le_of_ble_eq_true rfl) rfl (Nat.le_of_ble_eq_true rfl) (Nat.le_of_ble_eq_true rfl)) (fun r27 M27 => ?_)
    refine V_callI hX 33 0 0 rfl rfl rfl (Nat.le_of_ble_eq_true rfl) (Nat.le_of_ble_eq_true rfl) (VR_V hX 18 (ct_Mo_commit (cx_t hX) K r27 M27) my_Mo_commit mi_Mo_commit ms_Mo_commit ml_Mo_117 (Nat.le_of_ble_eq_true rfl) (Nat.le_of_ble_eq_true rfl) (by decide) (ent_32 K _) rfl rfl rfl (Nat.le_of_ble_eq_true rfl) rfl (Nat.le_of_ble_eq_true rfl) (Nat.le_of_ble_eq_true rfl)) (fun r30 M30 => ?_)
    exact V_iret hX 19 rfl (Nat.le_of_ble_eq_true rfl) (Nat.le_of_ble_eq_true rfl) rfl
  · refine V_aload_n hX (j := 1) (hj := rfl) 9 16 rfl rfl ?_
    refine V_iload_n hX (j := 0) (hj := rfl) 10 17 rfl rfl ?_
    refine V_callI hX 20 0 0 rfl rfl rfl (Nat.le_of_ble_eq_true rfl) (Nat.le_of_ble_eq_true rfl) (VR_V hX 11 (ct_Mo_fail (cx_t hX) K r7 M7) my_Mo_fail mi_Mo_fail ms_Mo_fail ml_Mo_111 (Nat.le_of_ble_eq_true rfl) (Nat.le_of_ble_eq_true rfl) (by decide) (ent_32 K _) rfl rfl rfl (Nat.le_of_ble_eq_true rfl) rfl (Nat.le_of_ble_eq_true rfl) (Nat.le_of_ble_eq_true rfl)) (fun r17 M17 => ?_)
    refine V_goto hX 12 33 rfl (by decide) ?_
    exact V_iret hX 19 rfl (Nat.le_of_ble_eq_true rfl) (Nat.le_of_ble_eq_true rfl) rfl
set_option maxRecDepth 20000 in
theorem ct_Mo_floor {l : Launch} (hl : l.stackTraces = false) (K : KT) (v0 : Int32) (v1 : Int32) (M : Mm) : CTp l K y_Mo_floor (Cond.code y_Mo_floor prog_15_method_38_code 2 (some .int)) rvI 1 0 0 [.int v0, .int v1] M (fn_Mo_floor v0 v1 M) := by
  refine CTp_of (L := L_Mo_floor) (lc := [(0, .int v0), (1, .int v1)]) (by decide +kernel) dec_Mo_floor hl rfl (Nat.le_of_ble_eq_true rfl) (fun X hX => ?_)
  unfold fn_Mo_floor
  refine V_iload_n hX (j := 0) (hj := rfl) 0 1 rfl rfl ?_
  refine V_if_lt hX 1 4 10 rfl rfl (by decide) (fun c1 => ?_) (fun c1 => ?_)
  · refine V_iload_n hX (j := 1) (hj := rfl) 6 11 rfl rfl ?_
    refine V_iconst hX (v := 1) (hv := by decide) 7 12 rfl rfl ?_
    refine V_isub hX 8 13 rfl rfl ?_
    refine V_iload_n hX (j := 0) (hj := rfl) 9 14 rfl rfl ?_
    refine V_isub hX 10 15 rfl rfl ?_
    refine V_iload_n hX (j := 1) (hj := rfl) 11 16 rfl rfl ?_
    refine VV_grd (fun hz1 => ?_)
    refine V_idiv hX (hne := hz1) 12 17 rfl rfl ?_
    refine V_ineg hX 13 18 rfl rfl ?_
    exact V_iret hX 14 rfl (Nat.le_of_ble_eq_true rfl) (Nat.le_of_ble_eq_true rfl) rfl
  · refine V_iload_n hX (j := 0) (hj := rfl) 2 5 rfl rfl ?_
    refine V_iload_n hX (j := 1) (hj := rfl) 3 6 rfl rfl ?_
    refine VV_grd (fun hz2 => ?_)
    refine V_idiv hX (hne := hz2) 4 7 rfl rfl ?_
    refine V_goto hX 5 18 rfl (by decide) ?_
    exact V_iret hX 14 rfl (Nat.le_of_ble_eq_true rfl) (Nat.le_of_ble_eq_true rfl) rfl
set_option maxRecDepth 20000 in
theorem bt_Mo_smooths_66 {l : Launch} {K : KT} {X : XT} (hX : Cx l K 3 6 0 0 X prog_15_method_39_code "SeriesArchiveModel" (some .int) [] L_Mo_smooths) (v1 : Int32) (M : Mm) : VV l K 3 6 0 0 rvI X (fn_Mo_smooths_66 v1 M) 0 0 M 66 [(0, .ref (kA K 32)), (1, .int v1)] [] := by
  unfold fn_Mo_smooths_66
  refine V_aload_n hX (j := 0) (hj := rfl) 40 67 rfl rfl ?_
  refine V_iload_n hX (j := 1) (hj := rfl) 41 68 rfl rfl ?_
  refine V_callI hX 71 0 0 rfl rfl rfl (Nat.le_of_ble_eq_true rfl) (Nat.le_of_ble_eq_true rfl) (VR_V hX 42 (ct_Mo_laysRow (cx_t hX) K v1 M) my_Mo_laysRow mi_Mo_laysRow ms_Mo_laysRow ml_Mo_147 (Nat.le_of_ble_eq_true rfl) (Nat.le_of_ble_eq_true rfl) (by decide) (ent_32 K _) rfl rfl rfl (Nat.le_of_ble_eq_true rfl) rfl (Nat.le_of_ble_eq_true rfl) (Nat.le_of_ble_eq_true rfl)) (fun r68 M68 => ?_)
  exact V_iret hX 43 rfl (Nat.le_of_ble_eq_true rfl) (Nat.le_of_ble_eq_true rfl) rfl
set_option maxRecDepth 20000 in
theorem bt_Mo_smooths_2 {l : Launch} {K : KT} {X : XT} (hX : Cx l K 3 6 0 0 X prog_15_method_39_code "SeriesArchiveModel" (some .int) [] L_Mo_smooths) (v1 : Int32) (v2 : Int32) : ∀ (n : Nat) (v3 : Int32) (M : Mm), VV l K 3 6 0 0 rvI X (fn_Mo_smooths_2 v1 v2 n v3 M) 0 0 M 2 [(0, .ref (kA K 32)), (1, .int v1), (2, .int v2), (3, .int v3)] [] := by
  intro n
  induction n with
  | zero => intro v3 M; exact VV_none
  | succ n ih =>
    intro v3 M
    rw [fn_Mo_smooths_2]
    refine V_iload_n hX (j := 3) (hj := rfl) 2 3 rfl rfl ?_
    refine V_aload_n hX (j := 0) (hj := rfl) 3 4 rfl rfl ?_
    refine V_iload_n hX (j := 1) (hj := rfl) 4 5 rfl rfl ?_
    refine V_callI hX 8 0 0 rfl rfl rfl (Nat.le_of_ble_eq_true rfl) (Nat.le_of_ble_eq_true rfl) (VR_V hX 5 (ct_Mo_many (cx_t hX) K v1 M) my_Mo_many mi_Mo_many ms_Mo_many ml_Mo_93 (Nat.le_of_ble_eq_true rfl) (Nat.le_of_ble_eq_true rfl) (by decide) (ent_32 K _) rfl rfl rfl (Nat.le_of_ble_eq_true rfl) rfl (Nat.le_of_ble_eq_true rfl) (Nat.le_of_ble_eq_true rfl)) (fun r5 M5 => ?_)
    refine V_icmp_ge hX 6 11 66 rfl rfl (by decide) (fun c8 => ?_) (fun c8 => ?_)
    · refine VV_sub [0, 1] rfl ?_
      exact bt_Mo_smooths_66 hX v1 M5
    · refine V_iconst hX (v := 0) (hv := by decide) 7 12 rfl rfl ?_
      refine V_iload_n hX (j := 3) (hj := rfl) 8 13 rfl rfl ?_
      refine V_iload_n hX (j := 2) (hj := rfl) 9 14 rfl rfl ?_
      refine V_isub hX 10 15 rfl rfl ?_
      refine V_callI hX 18 0 0 rfl rfl rfl (Nat.le_of_ble_eq_true rfl) (Nat.le_of_ble_eq_true rfl) (VR_S hX 11 (ct_Mo_more (cx_t hX) K 0 (v3 - v2) M5) my_Mo_more mt_Mo_more ml_Mo_162 (Nat.le_of_ble_eq_true rfl) (Nat.le_of_ble_eq_true rfl) rfl rfl (Nat.le_of_ble_eq_true rfl) rfl (Nat.le_of_ble_eq_true rfl) (Nat.le_of_ble_eq_true rfl)) (fun r15 M15 => ?_)
      refine V_istore hX 12 20 [(4, .int r15), (0, .ref (kA K 32)), (1, .int v1), (2, .int v2), (3, .int v3)] rfl rfl (Nat.le_of_ble_eq_true rfl) rfl ?_
      refine V_aload_n hX (j := 1) (hj := rfl) 13 21 rfl rfl ?_
      refine V_iload_n hX (j := 2) (hj := rfl) 14 22 rfl rfl ?_
      refine V_callI hX 25 0 0 rfl rfl rfl (Nat.le_of_ble_eq_true rfl) (Nat.le_of_ble_eq_true rfl) (VR_V hX 15 (ct_Mo_many (cx_t hX) K v1 M15) my_Mo_many mi_Mo_many ms_Mo_many ml_Mo_93 (Nat.le_of_ble_eq_true rfl) (Nat.le_of_ble_eq_true rfl) (by decide) (ent_32 K _) rfl rfl rfl (Nat.le_of_ble_eq_true rfl) rfl (Nat.le_of_ble_eq_true rfl) (Nat.le_of_ble_eq_true rfl)) (fun r22 M22 => ?_)
      refine V_iconst hX (v := 1) (hv := by decide) 16 26 rfl rfl ?_
      refine V_isub hX 17 27 rfl rfl ?_
      refine V_iload_n hX (j := 4) (hj := rfl) 18 28 rfl rfl ?_
      refine V_iload_n hX (j := 3) (hj := rfl) 19 29 rfl rfl ?_
      refine V_iadd hX 20 30 rfl rfl ?_
      refine V_callI hX 33 0 0 rfl rfl rfl (Nat.le_of_ble_eq_true rfl) (Nat.le_of_ble_eq_true rfl) (VR_S hX 21 (ct_Mo_less (cx_t hX) K (r22 - 1) (v3 + v2) M22) my_Mo_less mt_Mo_less ml_Mo_165 (Nat.le_of_ble_eq_true rfl) (Nat.le_of_ble_eq_true rfl) rfl rfl (Nat.le_of_ble_eq_true rfl) rfl (Nat.le_of_ble_eq_true rfl) (Nat.le_of_ble_eq_true rfl)) (fun r30 M30 => ?_)
      refine V_istore hX 22 35 [(5, .int r30), (4, .int r15), (0, .ref (kA K 32)), (1, .int v1), (2, .int v2), (3, .int v3)] rfl rfl (Nat.le_of_ble_eq_true rfl) rfl ?_
      refine V_aload_n hX (j := 2) (hj := rfl) 23 36 rfl rfl ?_
      refine V_get hX 24 39 32 (.ref (kA K 38)) fl_Mo_25 rfl rfl (by decide) (ent_32 K _) rfl ?_
      refine V_iload_n hX (j := 5) (hj := rfl) 25 40 rfl rfl ?_
      refine V_aload_n hX (j := 2) (hj := rfl) 26 41 rfl rfl ?_
      refine V_iload_n hX (j := 3) (hj := rfl) 27 42 rfl rfl ?_
      refine V_iload hX (j := 1) (hj := rfl) 28 44 rfl rfl ?_
      refine V_iload hX (j := 0) (hj := rfl) 29 46 rfl rfl ?_
      refine V_callI hX 49 0 0 rfl rfl rfl (Nat.le_of_ble_eq_true rfl) (Nat.le_of_ble_eq_true rfl) (VR_V hX 30 (ct_Mo_total (cx_t hX) K v1 r15 r30 M30) my_Mo_total mi_Mo_total ms_Mo_total ml_Mo_153 (Nat.le_of_ble_eq_true rfl) (Nat.le_of_ble_eq_true rfl) (by decide) (ent_32 K _) rfl rfl rfl (Nat.le_of_ble_eq_true rfl) rfl (Nat.le_of_ble_eq_true rfl) (Nat.le_of_ble_eq_true rfl)) (fun r46 M46 => ?_)
      refine V_iload hX (j := 0) (hj := rfl) 31 51 rfl rfl ?_
      refine V_iload hX (j := 1) (hj := rfl) 32 53 rfl rfl ?_
      refine V_isub hX 33 54 rfl rfl ?_
      refine V_iconst hX (v := 1) (hv := by decide) 34 55 rfl rfl ?_
      refine V_iadd hX 35 56 rfl rfl ?_
      refine V_callI hX 59 0 0 rfl rfl rfl (Nat.le_of_ble_eq_true rfl) (Nat.le_of_ble_eq_true rfl) (VR_S hX 36 (ct_Mo_floor (cx_t hX) K r46 ((r30 - r15) + 1) M46) my_Mo_floor mt_Mo_floor ml_Mo_168 (Nat.le_of_ble_eq_true rfl) (Nat.le_of_ble_eq_true rfl) rfl rfl (Nat.le_of_ble_eq_true rfl) rfl (Nat.le_of_ble_eq_true rfl) (Nat.le_of_ble_eq_true rfl)) (fun r56 M56 => ?_)
      refine V_iast hX 37 60 38 20 (by decide) rfl rfl rfl (fun g59 M59 hM59 => ?_)
      refine V_iincL hX 38 63 5 rfl rfl rfl rfl (Nat.le_of_ble_eq_true rfl) (fun x3_60 hx3_60 => ?_)
      refine VV_lc [(3, .int x3_60), (5, .int r30), (4, .int r15), (0, .ref (kA K 32)), (1, .int v1), (2, .int v2)] rfl ?_
      refine V_goto hX 39 2 rfl (by decide) ?_
      refine VV_sub [3, 4, 5, 0] rfl ?_
      exact ih x3_60 M59
set_option maxRecDepth 20000 in
theorem ct_Mo_smooths {l : Launch} (hl : l.stackTraces = false) (K : KT) (v1 : Int32) (v2 : Int32) (M : Mm) : CTp l K y_Mo_smooths (Cond.code y_Mo_smooths prog_15_method_39_code 6 (some .int)) rvI 3 0 0 [.ref (kA K 32), .int v1, .int v2] M (fn_Mo_smooths v1 v2 M) := by
  refine CTp_of (L := L_Mo_smooths) (lc := [(0, .ref (kA K 32)), (1, .int v1), (2, .int v2)]) (by decide +kernel) dec_Mo_smooths hl rfl (Nat.le_of_ble_eq_true rfl) (fun X hX => ?_)
  unfold fn_Mo_smooths
  refine V_iconst hX (v := 0) (hv := by decide) 0 1 rfl rfl ?_
  refine V_istore_n hX 1 2 [(3, .int 0), (0, .ref (kA K 32)), (1, .int v1), (2, .int v2)] rfl rfl (Nat.le_of_ble_eq_true rfl) rfl ?_
  refine VV_sub [1, 2, 3, 0] rfl ?_
  exact bt_Mo_smooths_2 hX v1 v2 fuel0 0 M
set_option maxRecDepth 20000 in
theorem ct_Mo_cannotSmooth {l : Launch} (hl : l.stackTraces = false) (K : KT) (v0 : Int32) (v1 : Int32) (M : Mm) : CTp l K y_Mo_cannotSmooth (Cond.code y_Mo_cannotSmooth prog_15_method_40_code 2 (some .int)) rvI 3 0 0 [.int v0, .int v1] M (fn_Mo_cannotSmooth v0 v1 M) := by
  refine CTp_of (L := L_Mo_cannotSmooth) (lc := [(0, .int v0), (1, .int v1)]) (by decide +kernel) dec_Mo_cannotSmooth hl rfl (Nat.le_of_ble_eq_true rfl) (fun X hX => ?_)
  unfold fn_Mo_cannotSmooth
  refine V_iload_n hX (j := 0) (hj := rfl) 0 1 rfl rfl ?_
  refine V_callI hX 4 0 0 rfl rfl rfl (Nat.le_of_ble_eq_true rfl) (Nat.le_of_ble_eq_true rfl) (VR_S hX 1 (ct_Mo_isSlot (cx_t hX) K v0 M) my_Mo_isSlot mt_Mo_isSlot ml_Mo_89 (Nat.le_of_ble_eq_true rfl) (Nat.le_of_ble_eq_true rfl) rfl rfl (Nat.le_of_ble_eq_true rfl) rfl (Nat.le_of_ble_eq_true rfl) (Nat.le_of_ble_eq_true rfl)) (fun r1 M1 => ?_)
  refine V_if_ne hX 2 7 11 rfl rfl (by decide) (fun c4 => ?_) (fun c4 => ?_)
  · refine V_iload_n hX (j := 1) (hj := rfl) 5 12 rfl rfl ?_
    refine V_iconst hX (v := 1) (hv := by decide) 6 13 rfl rfl ?_
    refine V_bipush hX (v := 9) (hv := by decide) 7 15 rfl rfl ?_
    refine V_callI hX 18 0 0 rfl rfl rfl (Nat.le_of_ble_eq_true rfl) (Nat.le_of_ble_eq_true rfl) (VR_S hX 8 (ct_Mo_in (cx_t hX) K v1 1 9 M1) my_Mo_in mt_Mo_in ml_Mo_85 (Nat.le_of_ble_eq_true rfl) (Nat.le_of_ble_eq_true rfl) rfl rfl (Nat.le_of_ble_eq_true rfl) rfl (Nat.le_of_ble_eq_true rfl) (Nat.le_of_ble_eq_true rfl)) (fun r15 M15 => ?_)
    refine V_if_ne hX 9 21 25 rfl rfl (by decide) (fun c18 => ?_) (fun c18 => ?_)
    · refine V_iconst hX (v := 0) (hv := by decide) 12 26 rfl rfl ?_
      exact V_iret hX 13 rfl (Nat.le_of_ble_eq_true rfl) (Nat.le_of_ble_eq_true rfl) rfl
    · refine V_iconst hX (v := 2) (hv := by decide) 10 22 rfl rfl ?_
      refine V_goto hX 11 26 rfl (by decide) ?_
      exact V_iret hX 13 rfl (Nat.le_of_ble_eq_true rfl) (Nat.le_of_ble_eq_true rfl) rfl
  · refine V_iconst hX (v := 1) (hv := by decide) 3 8 rfl rfl ?_
    refine V_goto hX 4 26 rfl (by decide) ?_
    exact V_iret hX 13 rfl (Nat.le_of_ble_eq_true rfl) (Nat.le_of_ble_eq_true rfl) rfl
set_option maxRecDepth 20000 in
theorem ct_Mo_smooth {l : Launch} (hl : l.stackTraces = false) (K : KT) (v1 : Int32) (v2 : Int32) (M : Mm) : CTp l K y_Mo_smooth (Cond.code y_Mo_smooth prog_15_method_41_code 4 (some .int)) rvI 4 0 0 [.ref (kA K 32), .int v1, .int v2] M (fn_Mo_smooth v1 v2 M) := by
  refine CTp_of (L := L_Mo_smooth) (lc := [(0, .ref (kA K 32)), (1, .int v1), (2, .int v2)]) (by decide +kernel) dec_Mo_smooth hl rfl (Nat.le_of_ble_eq_true rfl) (fun X hX => ?_)
  unfold fn_Mo_smooth
  refine V_aload_n hX (j := 0) (hj := rfl) 0 1 rfl rfl ?_
  refine V_callU hX 4 0 0 rfl rfl rfl (Nat.le_of_ble_eq_true rfl) (Nat.le_of_ble_eq_true rfl) (VR_V hX 1 (ct_Mo_begin (cx_t hX) K M) my_Mo_begin mi_Mo_begin ms_Mo_begin ml_Mo_104 (Nat.le_of_ble_eq_true rfl) (Nat.le_of_ble_eq_true rfl) (by decide) (ent_32 K _) rfl rfl rfl (Nat.le_of_ble_eq_true rfl) rfl (Nat.le_of_ble_eq_true rfl) (Nat.le_of_ble_eq_true rfl)) (fun r1 M1 => ?_)
  refine V_iload_n hX (j := 1) (hj := rfl) 2 5 rfl rfl ?_
  refine V_iload_n hX (j := 2) (hj := rfl) 3 6 rfl rfl ?_
  refine V_callI hX 9 0 0 rfl rfl rfl (Nat.le_of_ble_eq_true rfl) (Nat.le_of_ble_eq_true rfl) (VR_S hX 4 (ct_Mo_cannotSmooth (cx_t hX) K v1 v2 M1) my_Mo_cannotSmooth mt_Mo_cannotSmooth ml_Mo_171 (Nat.le_of_ble_eq_true rfl) (Nat.le_of_ble_eq_true rfl) rfl rfl (Nat.le_of_ble_eq_true rfl) rfl (Nat.le_of_ble_eq_true rfl) (Nat.le_of_ble_eq_true rfl)) (fun r6 M6 => ?_)
  refine V_istore_n hX 5 10 [(3, .int r6), (0, .ref (kA K 32)), (1, .int v1), (2, .int v2)] rfl rfl (Nat.le_of_ble_eq_true rfl) rfl ?_
  refine V_iload_n hX (j := 0) (hj := rfl) 6 11 rfl rfl ?_
  refine V_if_le hX 7 14 22 rfl rfl (by decide) (fun c11 => ?_) (fun c11 => ?_)
  · refine V_aload_n hX (j := 1) (hj := rfl) 12 23 rfl rfl ?_
    refine V_aload_n hX (j := 1) (hj := rfl) 13 24 rfl rfl ?_
    refine V_iload_n hX (j := 2) (hj := rfl) 14 25 rfl rfl ?_
    refine V_iload_n hX (j := 3) (hj := rfl) 15 26 rfl rfl ?_
    refine V_callI hX 29 0 0 rfl rfl rfl (Nat.le_of_ble_eq_true rfl) (Nat.le_of_ble_eq_true rfl) (VR_V hX 16 (ct_Mo_smooths (cx_t hX) K v1 v2 M6) my_Mo_smooths mi_Mo_smooths ms_Mo_smooths ml_Mo_174 (Nat.le_of_ble_eq_true rfl) (Nat.le_of_ble_eq_true rfl) (by decide) (ent_32 K _) rfl rfl rfl (Nat.le_of_ble_eq_true rfl) rfl (Nat.le_of_ble_eq_true rfl) (Nat.le_of_ble_eq_true rfl)) (fun r26 M26 => ?_)
    refine V_callI hX 32 0 0 rfl rfl rfl (Nat.le_of_ble_eq_true rfl) (Nat.le_of_ble_eq_true rfl) (VR_V hX 17 (ct_Mo_commit (cx_t hX) K r26 M26) my_Mo_commit mi_Mo_commit ms_Mo_commit ml_Mo_117 (Nat.le_of_ble_eq_true rfl) (Nat.le_of_ble_eq_true rfl) (by decide) (ent_32 K _) rfl rfl rfl (Nat.le_of_ble_eq_true rfl) rfl (Nat.le_of_ble_eq_true rfl) (Nat.le_of_ble_eq_true rfl)) (fun r29 M29 => ?_)
    exact V_iret hX 18 rfl (Nat.le_of_ble_eq_true rfl) (Nat.le_of_ble_eq_true rfl) rfl
  · refine V_aload_n hX (j := 1) (hj := rfl) 8 15 rfl rfl ?_
    refine V_iload_n hX (j := 0) (hj := rfl) 9 16 rfl rfl ?_
    refine V_callI hX 19 0 0 rfl rfl rfl (Nat.le_of_ble_eq_true rfl) (Nat.le_of_ble_eq_true rfl) (VR_V hX 10 (ct_Mo_fail (cx_t hX) K r6 M6) my_Mo_fail mi_Mo_fail ms_Mo_fail ml_Mo_111 (Nat.le_of_ble_eq_true rfl) (Nat.le_of_ble_eq_true rfl) (by decide) (ent_32 K _) rfl rfl rfl (Nat.le_of_ble_eq_true rfl) rfl (Nat.le_of_ble_eq_true rfl) (Nat.le_of_ble_eq_true rfl)) (fun r16 M16 => ?_)
    refine V_goto hX 11 32 rfl (by decide) ?_
    exact V_iret hX 18 rfl (Nat.le_of_ble_eq_true rfl) (Nat.le_of_ble_eq_true rfl) rfl
set_option maxRecDepth 20000 in
theorem bt_Mo_cannotStep_21 {l : Launch} {K : KT} {X : XT} (hX : Cx l K 3 3 0 0 X prog_15_method_42_code "SeriesArchiveModel" (some .int) [] L_Mo_cannotStep) (v1 : Int32) : ∀ (n : Nat) (v2 : Int32) (M : Mm), VV l K 3 3 0 0 rvI X (fn_Mo_cannotStep_21 v1 n v2 M) 0 0 M 21 [(0, .ref (kA K 32)), (1, .int v1), (2, .int v2)] [] := by
  intro n
  induction n with
  | zero => intro v2 M; exact VV_none
  | succ n ih =>
    intro v2 M
    rw [fn_Mo_cannotStep_21]
    refine V_iload_n hX (j := 2) (hj := rfl) 13 22 rfl rfl ?_
    refine V_aload_n hX (j := 0) (hj := rfl) 14 23 rfl rfl ?_
    refine V_iload_n hX (j := 1) (hj := rfl) 15 24 rfl rfl ?_
    refine V_callI hX 27 0 0 rfl rfl rfl (Nat.le_of_ble_eq_true rfl) (Nat.le_of_ble_eq_true rfl) (VR_V hX 16 (ct_Mo_many (cx_t hX) K v1 M) my_Mo_many mi_Mo_many ms_Mo_many ml_Mo_93 (Nat.le_of_ble_eq_true rfl) (Nat.le_of_ble_eq_true rfl) (by decide) (ent_32 K _) rfl rfl rfl (Nat.le_of_ble_eq_true rfl) rfl (Nat.le_of_ble_eq_true rfl) (Nat.le_of_ble_eq_true rfl)) (fun r24 M24 => ?_)
    refine V_icmp_ge hX 17 30 59 rfl rfl (by decide) (fun c27 => ?_) (fun c27 => ?_)
    · refine V_iconst hX (v := 0) (hv := by decide) 35 60 rfl rfl ?_
      exact V_iret hX 36 rfl (Nat.le_of_ble_eq_true rfl) (Nat.le_of_ble_eq_true rfl) rfl
    · refine V_aload_n hX (j := 0) (hj := rfl) 18 31 rfl rfl ?_
      refine V_iload_n hX (j := 1) (hj := rfl) 19 32 rfl rfl ?_
      refine V_iload_n hX (j := 2) (hj := rfl) 20 33 rfl rfl ?_
      refine V_callI hX 36 0 0 rfl rfl rfl (Nat.le_of_ble_eq_true rfl) (Nat.le_of_ble_eq_true rfl) (VR_V hX 21 (ct_Mo_at (cx_t hX) K v1 v2 M24) my_Mo_at mi_Mo_at ms_Mo_at ml_Mo_124 (Nat.le_of_ble_eq_true rfl) (Nat.le_of_ble_eq_true rfl) (by decide) (ent_32 K _) rfl rfl rfl (Nat.le_of_ble_eq_true rfl) rfl (Nat.le_of_ble_eq_true rfl) (Nat.le_of_ble_eq_true rfl)) (fun r33 M33 => ?_)
      refine V_aload_n hX (j := 0) (hj := rfl) 22 37 rfl rfl ?_
      refine V_iload_n hX (j := 1) (hj := rfl) 23 38 rfl rfl ?_
      refine V_iload_n hX (j := 2) (hj := rfl) 24 39 rfl rfl ?_
      refine V_iconst hX (v := 1) (hv := by decide) 25 40 rfl rfl ?_
      refine V_isub hX 26 41 rfl rfl ?_
      refine V_callI hX 44 0 0 rfl rfl rfl (Nat.le_of_ble_eq_true rfl) (Nat.le_of_ble_eq_true rfl) (VR_V hX 27 (ct_Mo_at (cx_t hX) K v1 (v2 - 1) M33) my_Mo_at mi_Mo_at ms_Mo_at ml_Mo_124 (Nat.le_of_ble_eq_true rfl) (Nat.le_of_ble_eq_true rfl) (by decide) (ent_32 K _) rfl rfl rfl (Nat.le_of_ble_eq_true rfl) rfl (Nat.le_of_ble_eq_true rfl) (Nat.le_of_ble_eq_true rfl)) (fun r41 M41 => ?_)
      refine V_isub hX 28 45 rfl rfl ?_
      refine V_callI hX 48 0 0 rfl rfl rfl (Nat.le_of_ble_eq_true rfl) (Nat.le_of_ble_eq_true rfl) (VR_S hX 29 (ct_Mo_isValue (cx_t hX) K (r33 - r41) M41) my_Mo_isValue mt_Mo_isValue ml_Mo_101 (Nat.le_of_ble_eq_true rfl) (Nat.le_of_ble_eq_true rfl) rfl rfl (Nat.le_of_ble_eq_true rfl) rfl (Nat.le_of_ble_eq_true rfl) (Nat.le_of_ble_eq_true rfl)) (fun r45 M45 => ?_)
      refine V_if_ne hX 30 51 53 rfl rfl (by decide) (fun c48 => ?_) (fun c48 => ?_)
      · refine V_iincL hX 33 56 2 rfl rfl rfl rfl (Nat.le_of_ble_eq_true rfl) (fun x2_53 hx2_53 => ?_)
        refine VV_lc [(2, .int x2_53), (0, .ref (kA K 32)), (1, .int v1)] rfl ?_
        refine V_goto hX 34 21 rfl (by decide) ?_
        refine VV_sub [1, 2, 0] rfl ?_
        exact ih x2_53 M45
      · refine V_iconst hX (v := 2) (hv := by decide) 31 52 rfl rfl ?_
        exact V_iret hX 32 rfl (Nat.le_of_ble_eq_true rfl) (Nat.le_of_ble_eq_true rfl) rfl
set_option maxRecDepth 20000 in
theorem ct_Mo_cannotStep {l : Launch} (hl : l.stackTraces = false) (K : KT) (v1 : Int32) (M : Mm) : CTp l K y_Mo_cannotStep (Cond.code y_Mo_cannotStep prog_15_method_42_code 3 (some .int)) rvI 3 0 0 [.ref (kA K 32), .int v1] M (fn_Mo_cannotStep v1 M) := by
  refine CTp_of (L := L_Mo_cannotStep) (lc := [(0, .ref (kA K 32)), (1, .int v1)]) (by decide +kernel) dec_Mo_cannotStep hl rfl (Nat.le_of_ble_eq_true rfl) (fun X hX => ?_)
  unfold fn_Mo_cannotStep
  refine V_iload_n hX (j := 1) (hj := rfl) 0 1 rfl rfl ?_
  refine V_callI hX 4 0 0 rfl rfl rfl (Nat.le_of_ble_eq_true rfl) (Nat.le_of_ble_eq_true rfl) (VR_S hX 1 (ct_Mo_isSlot (cx_t hX) K v1 M) my_Mo_isSlot mt_Mo_isSlot ml_Mo_89 (Nat.le_of_ble_eq_true rfl) (Nat.le_of_ble_eq_true rfl) rfl rfl (Nat.le_of_ble_eq_true rfl) rfl (Nat.le_of_ble_eq_true rfl) (Nat.le_of_ble_eq_true rfl)) (fun r1 M1 => ?_)
  refine V_if_ne hX 2 7 9 rfl rfl (by decide) (fun c4 => ?_) (fun c4 => ?_)
  · refine V_aload_n hX (j := 0) (hj := rfl) 5 10 rfl rfl ?_
    refine V_iload_n hX (j := 1) (hj := rfl) 6 11 rfl rfl ?_
    refine V_callI hX 14 0 0 rfl rfl rfl (Nat.le_of_ble_eq_true rfl) (Nat.le_of_ble_eq_true rfl) (VR_V hX 7 (ct_Mo_many (cx_t hX) K v1 M1) my_Mo_many mi_Mo_many ms_Mo_many ml_Mo_93 (Nat.le_of_ble_eq_true rfl) (Nat.le_of_ble_eq_true rfl) (by decide) (ent_32 K _) rfl rfl rfl (Nat.le_of_ble_eq_true rfl) rfl (Nat.le_of_ble_eq_true rfl) (Nat.le_of_ble_eq_true rfl)) (fun r11 M11 => ?_)
    refine V_if_ne hX 8 17 19 rfl rfl (by decide) (fun c14 => ?_) (fun c14 => ?_)
    · refine V_iconst hX (v := 1) (hv := by decide) 11 20 rfl rfl ?_
      refine V_istore_n hX 12 21 [(2, .int 1), (0, .ref (kA K 32)), (1, .int v1)] rfl rfl (Nat.le_of_ble_eq_true rfl) rfl ?_
      refine VV_sub [1, 2, 0] rfl ?_
      exact bt_Mo_cannotStep_21 hX v1 fuel0 1 M11
    · refine V_iconst hX (v := 2) (hv := by decide) 9 18 rfl rfl ?_
      exact V_iret hX 10 rfl (Nat.le_of_ble_eq_true rfl) (Nat.le_of_ble_eq_true rfl) rfl
  · refine V_iconst hX (v := 1) (hv := by decide) 3 8 rfl rfl ?_
    exact V_iret hX 4 rfl (Nat.le_of_ble_eq_true rfl) (Nat.le_of_ble_eq_true rfl) rfl
set_option maxRecDepth 20000 in
theorem bt_Mo_steps_42 {l : Launch} {K : KT} {X : XT} (hX : Cx l K 3 4 0 0 X prog_15_method_43_code "SeriesArchiveModel" (some .int) [] L_Mo_steps) (v1 : Int32) (v2 : Int32) (M : Mm) : VV l K 3 4 0 0 rvI X (fn_Mo_steps_42 v1 v2 M) 0 0 M 42 [(0, .ref (kA K 32)), (1, .int v1), (2, .int v2)] [] := by
  unfold fn_Mo_steps_42
  refine V_aload_n hX (j := 0) (hj := rfl) 28 43 rfl rfl ?_
  refine V_iload_n hX (j := 1) (hj := rfl) 29 44 rfl rfl ?_
  refine V_iload_n hX (j := 2) (hj := rfl) 30 45 rfl rfl ?_
  refine V_callU hX 48 0 0 rfl rfl rfl (Nat.le_of_ble_eq_true rfl) (Nat.le_of_ble_eq_true rfl) (VR_V hX 31 (ct_Mo_close (cx_t hX) K v1 v2 M) my_Mo_close mi_Mo_close ms_Mo_close ml_Mo_134 (Nat.le_of_ble_eq_true rfl) (Nat.le_of_ble_eq_true rfl) (by decide) (ent_32 K _) rfl rfl rfl (Nat.le_of_ble_eq_true rfl) rfl (Nat.le_of_ble_eq_true rfl) (Nat.le_of_ble_eq_true rfl)) (fun r45 M45 => ?_)
  refine V_iload_n hX (j := 2) (hj := rfl) 32 49 rfl rfl ?_
  exact V_iret hX 33 rfl (Nat.le_of_ble_eq_true rfl) (Nat.le_of_ble_eq_true rfl) rfl
set_option maxRecDepth 20000 in
theorem bt_Mo_steps_10 {l : Launch} {K : KT} {X : XT} (hX : Cx l K 3 4 0 0 X prog_15_method_43_code "SeriesArchiveModel" (some .int) [] L_Mo_steps) (v1 : Int32) (v2 : Int32) : ∀ (n : Nat) (v3 : Int32) (M : Mm), VV l K 3 4 0 0 rvI X (fn_Mo_steps_10 v1 v2 n v3 M) 0 0 M 10 [(0, .ref (kA K 32)), (1, .int v1), (2, .int v2), (3, .int v3)] [] := by
  intro n
  induction n with
  | zero => intro v3 M; exact VV_none
  | succ n ih =>
    intro v3 M
    rw [fn_Mo_steps_10]
    refine V_iload_n hX (j := 3) (hj := rfl) 8 11 rfl rfl ?_
    refine V_iload_n hX (j := 2) (hj := rfl) 9 12 rfl rfl ?_
    refine V_icmp_ge hX 10 15 42 rfl rfl (by decide) (fun c12 => ?_) (fun c12 => ?_)
    · refine VV_sub [0, 1, 2] rfl ?_
      exact bt_Mo_steps_42 hX v1 v2 M
    · refine V_aload_n hX (j := 0) (hj := rfl) 11 16 rfl rfl ?_
      refine V_iload_n hX (j := 1) (hj := rfl) 12 17 rfl rfl ?_
      refine V_iload_n hX (j := 3) (hj := rfl) 13 18 rfl rfl ?_
      refine V_aload_n hX (j := 0) (hj := rfl) 14 19 rfl rfl ?_
      refine V_iload_n hX (j := 1) (hj := rfl) 15 20 rfl rfl ?_
      refine V_iload_n hX (j := 3) (hj := rfl) 16 21 rfl rfl ?_
      refine V_iconst hX (v := 1) (hv := by decide) 17 22 rfl rfl ?_
      refine V_iadd hX 18 23 rfl rfl ?_
      refine V_callI hX 26 0 0 rfl rfl rfl (Nat.le_of_ble_eq_true rfl) (Nat.le_of_ble_eq_true rfl) (VR_V hX 19 (ct_Mo_at (cx_t hX) K v1 (v3 + 1) M) my_Mo_at mi_Mo_at ms_Mo_at ml_Mo_124 (Nat.le_of_ble_eq_true rfl) (Nat.le_of_ble_eq_true rfl) (by decide) (ent_32 K _) rfl rfl rfl (Nat.le_of_ble_eq_true rfl) rfl (Nat.le_of_ble_eq_true rfl) (Nat.le_of_ble_eq_true rfl)) (fun r23 M23 => ?_)
      refine V_aload_n hX (j := 0) (hj := rfl) 20 27 rfl rfl ?_
      refine V_iload_n hX (j := 1) (hj := rfl) 21 28 rfl rfl ?_
      refine V_iload_n hX (j := 3) (hj := rfl) 22 29 rfl rfl ?_
      refine V_callI hX 32 0 0 rfl rfl rfl (Nat.le_of_ble_eq_true rfl) (Nat.le_of_ble_eq_true rfl) (VR_V hX 23 (ct_Mo_at (cx_t hX) K v1 v3 M23) my_Mo_at mi_Mo_at ms_Mo_at ml_Mo_124 (Nat.le_of_ble_eq_true rfl) (Nat.le_of_ble_eq_true rfl) (by decide) (ent_32 K _) rfl rfl rfl (Nat.le_of_ble_eq_true rfl) rfl (Nat.le_of_ble_eq_true rfl) (Nat.le_of_ble_eq_true rfl)) (fun r29 M29 => ?_)
      refine V_isub hX 24 33 rfl rfl ?_
      refine V_callU hX 36 0 0 rfl rfl rfl (Nat.le_of_ble_eq_true rfl) (Nat.le_of_ble_eq_true rfl) (VR_V hX 25 (ct_Mo_lay (cx_t hX) K v1 v3 (r23 - r29) M29) my_Mo_lay mi_Mo_lay ms_Mo_lay ml_Mo_97 (Nat.le_of_ble_eq_true rfl) (Nat.le_of_ble_eq_true rfl) (by decide) (ent_32 K _) rfl rfl rfl (Nat.le_of_ble_eq_true rfl) rfl (Nat.le_of_ble_eq_true rfl) (Nat.le_of_ble_eq_true rfl)) (fun r33 M33 => ?_)
      refine V_iincL hX 26 39 3 rfl rfl rfl rfl (Nat.le_of_ble_eq_true rfl) (fun x3_36 hx3_36 => ?_)
      refine VV_lc [(3, .int x3_36), (0, .ref (kA K 32)), (1, .int v1), (2, .int v2)] rfl ?_
      refine V_goto hX 27 10 rfl (by decide) ?_
      refine VV_sub [1, 2, 3, 0] rfl ?_
      exact ih x3_36 M33
set_option maxRecDepth 20000 in
theorem ct_Mo_steps {l : Launch} (hl : l.stackTraces = false) (K : KT) (v1 : Int32) (M : Mm) : CTp l K y_Mo_steps (Cond.code y_Mo_steps prog_15_method_43_code 4 (some .int)) rvI 3 0 0 [.ref (kA K 32), .int v1] M (fn_Mo_steps v1 M) := by
  refine CTp_of (L := L_Mo_steps) (lc := [(0, .ref (kA K 32)), (1, .int v1)]) (by decide +kernel) dec_Mo_steps hl rfl (Nat.le_of_ble_eq_true rfl) (fun X hX => ?_)
  unfold fn_Mo_steps
  refine V_aload_n hX (j := 0) (hj := rfl) 0 1 rfl rfl ?_
  refine V_iload_n hX (j := 1) (hj := rfl) 1 2 rfl rfl ?_
  refine V_callI hX 5 0 0 rfl rfl rfl (Nat.le_of_ble_eq_true rfl) (Nat.le_of_ble_eq_true rfl) (VR_V hX 2 (ct_Mo_many (cx_t hX) K v1 M) my_Mo_many mi_Mo_many ms_Mo_many ml_Mo_93 (Nat.le_of_ble_eq_true rfl) (Nat.le_of_ble_eq_true rfl) (by decide) (ent_32 K _) rfl rfl rfl (Nat.le_of_ble_eq_true rfl) rfl (Nat.le_of_ble_eq_true rfl) (Nat.le_of_ble_eq_true rfl)) (fun r2 M2 => ?_)
  refine V_iconst hX (v := 1) (hv := by decide) 3 6 rfl rfl ?_
  refine V_isub hX 4 7 rfl rfl ?_
  refine VV_li (fun x2_7 hx2_7 => ?_)
  refine V_istore_n hX 5 8 [(2, .int x2_7), (0, .ref (kA K 32)), (1, .int v1)] rfl rfl (Nat.le_of_ble_eq_true rfl) rfl ?_
  refine V_iconst hX (v := 0) (hv := by decide) 6 9 rfl rfl ?_
  refine V_istore_n hX 7 10 [(3, .int 0), (2, .int x2_7), (0, .ref (kA K 32)), (1, .int v1)] rfl rfl (Nat.le_of_ble_eq_true rfl) rfl ?_
  refine VV_sub [2, 3, 1, 0] rfl ?_
  exact bt_Mo_steps_10 hX v1 x2_7 fuel0 0 M2
set_option maxRecDepth 20000 in
theorem ct_Mo_toSteps {l : Launch} (hl : l.stackTraces = false) (K : KT) (v1 : Int32) (M : Mm) : CTp l K y_Mo_toSteps (Cond.code y_Mo_toSteps prog_15_method_44_code 3 (some .int)) rvI 4 0 0 [.ref (kA K 32), .int v1] M (fn_Mo_toSteps v1 M) := by
  refine CTp_of (L := L_Mo_toSteps) (lc := [(0, .ref (kA K 32)), (1, .int v1)]) (by decide +kernel) dec_Mo_toSteps hl rfl (Nat.le_of_ble_eq_true rfl) (fun X hX => ?_)
  unfold fn_Mo_toSteps
  refine V_aload_n hX (j := 0) (hj := rfl) 0 1 rfl rfl ?_
  refine V_callU hX 4 0 0 rfl rfl rfl (Nat.le_of_ble_eq_true rfl) (Nat.le_of_ble_eq_true rfl) (VR_V hX 1 (ct_Mo_begin (cx_t hX) K M) my_Mo_begin mi_Mo_begin ms_Mo_begin ml_Mo_104 (Nat.le_of_ble_eq_true rfl) (Nat.le_of_ble_eq_true rfl) (by decide) (ent_32 K _) rfl rfl rfl (Nat.le_of_ble_eq_true rfl) rfl (Nat.le_of_ble_eq_true rfl) (Nat.le_of_ble_eq_true rfl)) (fun r1 M1 => ?_)
  refine V_aload_n hX (j := 0) (hj := rfl) 2 5 rfl rfl ?_
  refine V_iload_n hX (j := 1) (hj := rfl) 3 6 rfl rfl ?_
  refine V_callI hX 9 0 0 rfl rfl rfl (Nat.le_of_ble_eq_true rfl) (Nat.le_of_ble_eq_true rfl) (VR_V hX 4 (ct_Mo_cannotStep (cx_t hX) K v1 M1) my_Mo_cannotStep mi_Mo_cannotStep ms_Mo_cannotStep ml_Mo_177 (Nat.le_of_ble_eq_true rfl) (Nat.le_of_ble_eq_true rfl) (by decide) (ent_32 K _) rfl rfl rfl (Nat.le_of_ble_eq_true rfl) rfl (Nat.le_of_ble_eq_true rfl) (Nat.le_of_ble_eq_true rfl)) (fun r6 M6 => ?_)
  refine V_istore_n hX 5 10 [(2, .int r6), (0, .ref (kA K 32)), (1, .int v1)] rfl rfl (Nat.le_of_ble_eq_true rfl) rfl ?_
  refine V_iload_n hX (j := 0) (hj := rfl) 6 11 rfl rfl ?_
  refine V_if_le hX 7 14 22 rfl rfl (by decide) (fun c11 => ?_) (fun c11 => ?_)
  · refine V_aload_n hX (j := 1) (hj := rfl) 12 23 rfl rfl ?_
    refine V_aload_n hX (j := 1) (hj := rfl) 13 24 rfl rfl ?_
    refine V_iload_n hX (j := 2) (hj := rfl) 14 25 rfl rfl ?_
    refine V_callI hX 28 0 0 rfl rfl rfl (Nat.le_of_ble_eq_true rfl) (Nat.le_of_ble_eq_true rfl) (VR_V hX 15 (ct_Mo_steps (cx_t hX) K v1 M6) my_Mo_steps mi_Mo_steps ms_Mo_steps ml_Mo_180 (Nat.le_of_ble_eq_true rfl) (Nat.le_of_ble_eq_true rfl) (by decide) (ent_32 K _) rfl rfl rfl (Nat.le_of_ble_eq_true rfl) rfl (Nat.le_of_ble_eq_true rfl) (Nat.le_of_ble_eq_true rfl)) (fun r25 M25 => ?_)
    refine V_callI hX 31 0 0 rfl rfl rfl (Nat.le_of_ble_eq_true rfl) (Nat.le_of_ble_eq_true rfl) (VR_V hX 16 (ct_Mo_commit (cx_t hX) K r25 M25) my_Mo_commit mi_Mo_commit ms_Mo_commit ml_Mo_117 (Nat.le_of_ble_eq_true rfl) (Nat.le_of_ble_eq_true rfl) (by decide) (ent_32 K _) rfl rfl rfl (Nat.le_of_ble_eq_true rfl) rfl (Nat.le_of_ble_eq_true rfl) (Nat.le_of_ble_eq_true rfl)) (fun r28 M28 => ?_)
    exact V_iret hX 17 rfl (Nat.le_of_ble_eq_true rfl) (Nat.le_of_ble_eq_true rfl) rfl
  · refine V_aload_n hX (j := 1) (hj := rfl) 8 15 rfl rfl ?_
    refine V_iload_n hX (j := 0) (hj := rfl) 9 16 rfl rfl ?_
    refine V_callI hX 19 0 0 rfl rfl rfl (Nat.le_of_ble_eq_true rfl) (Nat.le_of_ble_eq_true rfl) (VR_V hX 10 (ct_Mo_fail (cx_t hX) K r6 M6) my_Mo_fail mi_Mo_fail ms_Mo_fail ml_Mo_111 (Nat.le_of_ble_eq_true rfl) (Nat.le_of_ble_eq_true rfl) (by decide) (ent_32 K _) rfl rfl rfl (Nat.le_of_ble_eq_true rfl) rfl (Nat.le_of_ble_eq_true rfl) (Nat.le_of_ble_eq_true rfl)) (fun r16 M16 => ?_)
    refine V_goto hX 11 31 rfl (by decide) ?_
    exact V_iret hX 17 rfl (Nat.le_of_ble_eq_true rfl) (Nat.le_of_ble_eq_true rfl) rfl
set_option maxRecDepth 20000 in
theorem bt_Mo_cannotClip_30 {l : Launch} {K : KT} {X : XT} (hX : Cx l K 3 3 0 0 X prog_15_method_45_code "SeriesArchiveModel" (some .int) [] L_Mo_cannotClip) (M : Mm) : VV l K 3 3 0 0 rvI X (fn_Mo_cannotClip_30 M) 0 0 M 30 [] [] := by
  unfold fn_Mo_cannotClip_30
  refine V_iconst hX (v := 2) (hv := by decide) 14 31 rfl rfl ?_
  refine V_goto hX 15 35 rfl (by decide) ?_
  exact V_iret hX 17 rfl (Nat.le_of_ble_eq_true rfl) (Nat.le_of_ble_eq_true rfl) rfl
set_option maxRecDepth 20000 in
theorem ct_Mo_cannotClip {l : Launch} (hl : l.stackTraces = false) (K : KT) (v0 : Int32) (v1 : Int32) (v2 : Int32) (M : Mm) : CTp l K y_Mo_cannotClip (Cond.code y_Mo_cannotClip prog_15_method_45_code 3 (some .int)) rvI 3 0 0 [.int v0, .int v1, .int v2] M (fn_Mo_cannotClip v0 v1 v2 M) := by
  refine CTp_of (L := L_Mo_cannotClip) (lc := [(0, .int v0), (1, .int v1), (2, .int v2)]) (by decide +kernel) dec_Mo_cannotClip hl rfl (Nat.le_of_ble_eq_true rfl) (fun X hX => ?_)
  unfold fn_Mo_cannotClip
  refine V_iload_n hX (j := 0) (hj := rfl) 0 1 rfl rfl ?_
  refine V_callI hX 4 0 0 rfl rfl rfl (Nat.le_of_ble_eq_true rfl) (Nat.le_of_ble_eq_true rfl) (VR_S hX 1 (ct_Mo_isSlot (cx_t hX) K v0 M) my_Mo_isSlot mt_Mo_isSlot ml_Mo_89 (Nat.le_of_ble_eq_true rfl) (Nat.le_of_ble_eq_true rfl) rfl rfl (Nat.le_of_ble_eq_true rfl) rfl (Nat.le_of_ble_eq_true rfl) (Nat.le_of_ble_eq_true rfl)) (fun r1 M1 => ?_)
  refine V_if_ne hX 2 7 11 rfl rfl (by decide) (fun c4 => ?_) (fun c4 => ?_)
  · refine V_iload_n hX (j := 1) (hj := rfl) 5 12 rfl rfl ?_
    refine V_callI hX 15 0 0 rfl rfl rfl (Nat.le_of_ble_eq_true rfl) (Nat.le_of_ble_eq_true rfl) (VR_S hX 6 (ct_Mo_isValue (cx_t hX) K v1 M1) my_Mo_isValue mt_Mo_isValue ml_Mo_101 (Nat.le_of_ble_eq_true rfl) (Nat.le_of_ble_eq_true rfl) rfl rfl (Nat.le_of_ble_eq_true rfl) rfl (Nat.le_of_ble_eq_true rfl) (Nat.le_of_ble_eq_true rfl)) (fun r12 M12 => ?_)
    refine V_if_eq hX 7 18 30 rfl rfl (by decide) (fun c15 => ?_) (fun c15 => ?_)
    · refine VV_sub [] rfl ?_
      exact bt_Mo_cannotClip_30 hX M12
    · refine V_iload_n hX (j := 2) (hj := rfl) 8 19 rfl rfl ?_
      refine V_callI hX 22 0 0 rfl rfl rfl (Nat.le_of_ble_eq_true rfl) (Nat.le_of_ble_eq_true rfl) (VR_S hX 9 (ct_Mo_isValue (cx_t hX) K v2 M12) my_Mo_isValue mt_Mo_isValue ml_Mo_101 (Nat.le_of_ble_eq_true rfl) (Nat.le_of_ble_eq_true rfl) rfl rfl (Nat.le_of_ble_eq_true rfl) rfl (Nat.le_of_ble_eq_true rfl) (Nat.le_of_ble_eq_true rfl)) (fun r19 M19 => ?_)
      refine V_if_eq hX 10 25 30 rfl rfl (by decide) (fun c22 => ?_) (fun c22 => ?_)
      · refine VV_sub [] rfl ?_
        exact bt_Mo_cannotClip_30 hX M19
      · refine V_iload_n hX (j := 1) (hj := rfl) 11 26 rfl rfl ?_
        refine V_iload_n hX (j := 2) (hj := rfl) 12 27 rfl rfl ?_
        refine V_icmp_le hX 13 30 34 rfl rfl (by decide) (fun c27 => ?_) (fun c27 => ?_)
        · refine V_iconst hX (v := 0) (hv := by decide) 16 35 rfl rfl ?_
          exact V_iret hX 17 rfl (Nat.le_of_ble_eq_true rfl) (Nat.le_of_ble_eq_true rfl) rfl
        · refine VV_sub [] rfl ?_
          exact bt_Mo_cannotClip_30 hX M19
  · refine V_iconst hX (v := 1) (hv := by decide) 3 8 rfl rfl ?_
    refine V_goto hX 4 35 rfl (by decide) ?_
    exact V_iret hX 17 rfl (Nat.le_of_ble_eq_true rfl) (Nat.le_of_ble_eq_true rfl) rfl
set_option maxRecDepth 20000 in
theorem bt_Mo_clips_41 {l : Launch} {K : KT} {X : XT} (hX : Cx l K 3 5 0 0 X prog_15_method_46_code "SeriesArchiveModel" (some .int) [] L_Mo_clips) (v1 : Int32) (M : Mm) : VV l K 3 5 0 0 rvI X (fn_Mo_clips_41 v1 M) 0 0 M 41 [(0, .ref (kA K 32)), (1, .int v1)] [] := by
  unfold fn_Mo_clips_41
  refine V_aload_n hX (j := 0) (hj := rfl) 21 42 rfl rfl ?_
  refine V_iload_n hX (j := 1) (hj := rfl) 22 43 rfl rfl ?_
  refine V_callI hX 46 0 0 rfl rfl rfl (Nat.le_of_ble_eq_true rfl) (Nat.le_of_ble_eq_true rfl) (VR_V hX 23 (ct_Mo_laysRow (cx_t hX) K v1 M) my_Mo_laysRow mi_Mo_laysRow ms_Mo_laysRow ml_Mo_147 (Nat.le_of_ble_eq_true rfl) (Nat.le_of_ble_eq_true rfl) (by decide) (ent_32 K _) rfl rfl rfl (Nat.le_of_ble_eq_true rfl) rfl (Nat.le_of_ble_eq_true rfl) (Nat.le_of_ble_eq_true rfl)) (fun r43 M43 => ?_)
  exact V_iret hX 24 rfl (Nat.le_of_ble_eq_true rfl) (Nat.le_of_ble_eq_true rfl) rfl
set_option maxRecDepth 20000 in
theorem bt_Mo_clips_3 {l : Launch} {K : KT} {X : XT} (hX : Cx l K 3 5 0 0 X prog_15_method_46_code "SeriesArchiveModel" (some .int) [] L_Mo_clips) (v1 : Int32) (v2 : Int32) (v3 : Int32) : ∀ (n : Nat) (v4 : Int32) (M : Mm), VV l K 3 5 0 0 rvI X (fn_Mo_clips_3 v1 v2 v3 n v4 M) 0 0 M 3 [(0, .ref (kA K 32)), (1, .int v1), (2, .int v2), (3, .int v3), (4, .int v4)] [] := by
  intro n
  induction n with
  | zero => intro v4 M; exact VV_none
  | succ n ih =>
    intro v4 M
    rw [fn_Mo_clips_3]
    refine V_iload hX (j := 4) (hj := rfl) 2 5 rfl rfl ?_
    refine V_aload_n hX (j := 0) (hj := rfl) 3 6 rfl rfl ?_
    refine V_iload_n hX (j := 1) (hj := rfl) 4 7 rfl rfl ?_
    refine V_callI hX 10 0 0 rfl rfl rfl (Nat.le_of_ble_eq_true rfl) (Nat.le_of_ble_eq_true rfl) (VR_V hX 5 (ct_Mo_many (cx_t hX) K v1 M) my_Mo_many mi_Mo_many ms_Mo_many ml_Mo_93 (Nat.le_of_ble_eq_true rfl) (Nat.le_of_ble_eq_true rfl) (by decide) (ent_32 K _) rfl rfl rfl (Nat.le_of_ble_eq_true rfl) rfl (Nat.le_of_ble_eq_true rfl) (Nat.le_of_ble_eq_true rfl)) (fun r7 M7 => ?_)
    refine V_icmp_ge hX 6 13 41 rfl rfl (by decide) (fun c10 => ?_) (fun c10 => ?_)
    · refine VV_sub [0, 1] rfl ?_
      exact bt_Mo_clips_41 hX v1 M7
    · refine V_aload_n hX (j := 0) (hj := rfl) 7 14 rfl rfl ?_
      refine V_get hX 8 17 32 (.ref (kA K 38)) fl_Mo_25 rfl rfl (by decide) (ent_32 K _) rfl ?_
      refine V_iload hX (j := 4) (hj := rfl) 9 19 rfl rfl ?_
      refine V_iload_n hX (j := 2) (hj := rfl) 10 20 rfl rfl ?_
      refine V_iload_n hX (j := 3) (hj := rfl) 11 21 rfl rfl ?_
      refine V_aload_n hX (j := 0) (hj := rfl) 12 22 rfl rfl ?_
      refine V_iload_n hX (j := 1) (hj := rfl) 13 23 rfl rfl ?_
      refine V_iload hX (j := 4) (hj := rfl) 14 25 rfl rfl ?_
      refine V_callI hX 28 0 0 rfl rfl rfl (Nat.le_of_ble_eq_true rfl) (Nat.le_of_ble_eq_true rfl) (VR_V hX 15 (ct_Mo_at (cx_t hX) K v1 v4 M7) my_Mo_at mi_Mo_at ms_Mo_at ml_Mo_124 (Nat.le_of_ble_eq_true rfl) (Nat.le_of_ble_eq_true rfl) (by decide) (ent_32 K _) rfl rfl rfl (Nat.le_of_ble_eq_true rfl) rfl (Nat.le_of_ble_eq_true rfl) (Nat.le_of_ble_eq_true rfl)) (fun r25 M25 => ?_)
      refine V_callI hX 31 0 0 rfl rfl rfl (Nat.le_of_ble_eq_true rfl) (Nat.le_of_ble_eq_true rfl) (VR_S hX 16 (ct_Mo_less (cx_t hX) K v3 r25 M25) my_Mo_less mt_Mo_less ml_Mo_165 (Nat.le_of_ble_eq_true rfl) (Nat.le_of_ble_eq_true rfl) rfl rfl (Nat.le_of_ble_eq_true rfl) rfl (Nat.le_of_ble_eq_true rfl) (Nat.le_of_ble_eq_true rfl)) (fun r28 M28 => ?_)
      refine V_callI hX 34 0 0 rfl rfl rfl (Nat.le_of_ble_eq_true rfl) (Nat.le_of_ble_eq_true rfl) (VR_S hX 17 (ct_Mo_more (cx_t hX) K v2 r28 M28) my_Mo_more mt_Mo_more ml_Mo_162 (Nat.le_of_ble_eq_true rfl) (Nat.le_of_ble_eq_true rfl) rfl rfl (Nat.le_of_ble_eq_true rfl) rfl (Nat.le_of_ble_eq_true rfl) (Nat.le_of_ble_eq_true rfl)) (fun r31 M31 => ?_)
      refine V_iast hX 18 35 38 20 (by decide) rfl rfl rfl (fun g34 M34 hM34 => ?_)
      refine V_iincL hX 19 38 4 rfl rfl rfl rfl (Nat.le_of_ble_eq_true rfl) (fun x4_35 hx4_35 => ?_)
      refine VV_lc [(4, .int x4_35), (0, .ref (kA K 32)), (1, .int v1), (2, .int v2), (3, .int v3)] rfl ?_
      refine V_goto hX 20 3 rfl (by decide) ?_
      refine VV_sub [1, 2, 3, 4, 0] rfl ?_
      exact ih x4_35 M34
set_option maxRecDepth 20000 in
theorem ct_Mo_clips {l : Launch} (hl : l.stackTraces = false) (K : KT) (v1 : Int32) (v2 : Int32) (v3 : Int32) (M : Mm) : CTp l K y_Mo_clips (Cond.code y_Mo_clips prog_15_method_46_code 5 (some .int)) rvI 3 0 0 [.ref (kA K 32), .int v1, .int v2, .int v3] M (fn_Mo_clips v1 v2 v3 M) := by
  refine CTp_of (L := L_Mo_clips) (lc := [(0, .ref (kA K 32)), (1, .int v1), (2, .int v2), (3, .int v3)]) (by decide +kernel) dec_Mo_clips hl rfl (Nat.le_of_ble_eq_true rfl) (fun X hX => ?_)
  unfold fn_Mo_clips
  refine V_iconst hX (v := 0) (hv := by decide) 0 1 rfl rfl ?_
  refine V_istore hX 1 3 [(4, .int 0), (0, .ref (kA K 32)), (1, .int v1), (2, .int v2), (3, .int v3)] rfl rfl (Nat.le_of_ble_eq_true rfl) rfl ?_
  refine VV_sub [1, 2, 3, 4, 0] rfl ?_
  exact bt_Mo_clips_3 hX v1 v2 v3 fuel0 0 M
set_option maxRecDepth 20000 in
theorem ct_Mo_clip {l : Launch} (hl : l.stackTraces = false) (K : KT) (v1 : Int32) (v2 : Int32) (v3 : Int32) (M : Mm) : CTp l K y_Mo_clip (Cond.code y_Mo_clip prog_15_method_47_code 5 (some .int)) rvI 4 0 0 [.ref (kA K 32), .int v1, .int v2, .int v3] M (fn_Mo_clip v1 v2 v3 M) := by
  refine CTp_of (L := L_Mo_clip) (lc := [(0, .ref (kA K 32)), (1, .int v1), (2, .int v2), (3, .int v3)]) (by decide +kernel) dec_Mo_clip hl rfl (Nat.le_of_ble_eq_true rfl) (fun X hX => ?_)
  unfold fn_Mo_clip
  refine V_aload_n hX (j := 0) (hj := rfl) 0 1 rfl rfl ?_
  refine V_callU hX 4 0 0 rfl rfl rfl (Nat.le_of_ble_eq_true rfl) (Nat.le_of_ble_eq_true rfl) (VR_V hX 1 (ct_Mo_begin (cx_t hX) K M) my_Mo_begin mi_Mo_begin ms_Mo_begin ml_Mo_104 (Nat.le_of_ble_eq_true rfl) (Nat.le_of_ble_eq_true rfl) (by decide) (ent_32 K _) rfl rfl rfl (Nat.le_of_ble_eq_true rfl) rfl (Nat.le_of_ble_eq_true rfl) (Nat.le_of_ble_eq_true rfl)) (fun r1 M1 => ?_)
  refine V_iload_n hX (j := 1) (hj := rfl) 2 5 rfl rfl ?_
  refine V_iload_n hX (j := 2) (hj := rfl) 3 6 rfl rfl ?_
  refine V_iload_n hX (j := 3) (hj := rfl) 4 7 rfl rfl ?_
  refine V_callI hX 10 0 0 rfl rfl rfl (Nat.le_of_ble_eq_true rfl) (Nat.le_of_ble_eq_true rfl) (VR_S hX 5 (ct_Mo_cannotClip (cx_t hX) K v1 v2 v3 M1) my_Mo_cannotClip mt_Mo_cannotClip ml_Mo_183 (Nat.le_of_ble_eq_true rfl) (Nat.le_of_ble_eq_true rfl) rfl rfl (Nat.le_of_ble_eq_true rfl) rfl (Nat.le_of_ble_eq_true rfl) (Nat.le_of_ble_eq_true rfl)) (fun r7 M7 => ?_)
  refine V_istore hX 6 12 [(4, .int r7), (0, .ref (kA K 32)), (1, .int v1), (2, .int v2), (3, .int v3)] rfl rfl (Nat.le_of_ble_eq_true rfl) rfl ?_
  refine V_iload hX (j := 0) (hj := rfl) 7 14 rfl rfl ?_
  refine V_if_le hX 8 17 26 rfl rfl (by decide) (fun c14 => ?_) (fun c14 => ?_)
  · refine V_aload_n hX (j := 1) (hj := rfl) 13 27 rfl rfl ?_
    refine V_aload_n hX (j := 1) (hj := rfl) 14 28 rfl rfl ?_
    refine V_iload_n hX (j := 2) (hj := rfl) 15 29 rfl rfl ?_
    refine V_iload_n hX (j := 3) (hj := rfl) 16 30 rfl rfl ?_
    refine V_iload_n hX (j := 4) (hj := rfl) 17 31 rfl rfl ?_
    refine V_callI hX 34 0 0 rfl rfl rfl (Nat.le_of_ble_eq_true rfl) (Nat.le_of_ble_eq_true rfl) (VR_V hX 18 (ct_Mo_clips (cx_t hX) K v1 v2 v3 M7) my_Mo_clips mi_Mo_clips ms_Mo_clips ml_Mo_186 (Nat.le_of_ble_eq_true rfl) (Nat.le_of_ble_eq_true rfl) (by decide) (ent_32 K _) rfl rfl rfl (Nat.le_of_ble_eq_true rfl) rfl (Nat.le_of_ble_eq_true rfl) (Nat.le_of_ble_eq_true rfl)) (fun r31 M31 => ?_)
    refine V_callI hX 37 0 0 rfl rfl rfl (Nat.le_of_ble_eq_true rfl) (Nat.le_of_ble_eq_true rfl) (VR_V hX 19 (ct_Mo_commit (cx_t hX) K r31 M31) my_Mo_commit mi_Mo_commit ms_Mo_commit ml_Mo_117 (Nat.le_of_ble_eq_true rfl) (Nat.le_of_ble_eq_true rfl) (by decide) (ent_32 K _) rfl rfl rfl (Nat.le_of_ble_eq_true rfl) rfl (Nat.le_of_ble_eq_true rfl) (Nat.le_of_ble_eq_true rfl)) (fun r34 M34 => ?_)
    exact V_iret hX 20 rfl (Nat.le_of_ble_eq_true rfl) (Nat.le_of_ble_eq_true rfl) rfl
  · refine V_aload_n hX (j := 1) (hj := rfl) 9 18 rfl rfl ?_
    refine V_iload hX (j := 0) (hj := rfl) 10 20 rfl rfl ?_
    refine V_callI hX 23 0 0 rfl rfl rfl (Nat.le_of_ble_eq_true rfl) (Nat.le_of_ble_eq_true rfl) (VR_V hX 11 (ct_Mo_fail (cx_t hX) K r7 M7) my_Mo_fail mi_Mo_fail ms_Mo_fail ml_Mo_111 (Nat.le_of_ble_eq_true rfl) (Nat.le_of_ble_eq_true rfl) (by decide) (ent_32 K _) rfl rfl rfl (Nat.le_of_ble_eq_true rfl) rfl (Nat.le_of_ble_eq_true rfl) (Nat.le_of_ble_eq_true rfl)) (fun r20 M20 => ?_)
    refine V_goto hX 12 37 rfl (by decide) ?_
    exact V_iret hX 20 rfl (Nat.le_of_ble_eq_true rfl) (Nat.le_of_ble_eq_true rfl) rfl
set_option maxRecDepth 20000 in
theorem ct_Mo_length {l : Launch} (hl : l.stackTraces = false) (K : KT) (v1 : Int32) (M : Mm) : CTp l K y_Mo_length (Cond.code y_Mo_length prog_15_method_48_code 2 (some .int)) rvI 3 0 0 [.ref (kA K 32), .int v1] M (fn_Mo_length v1 M) := by
  refine CTp_of (L := L_Mo_length) (lc := [(0, .ref (kA K 32)), (1, .int v1)]) (by decide +kernel) dec_Mo_length hl rfl (Nat.le_of_ble_eq_true rfl) (fun X hX => ?_)
  unfold fn_Mo_length
  refine V_aload_n hX (j := 0) (hj := rfl) 0 1 rfl rfl ?_
  refine V_iload_n hX (j := 1) (hj := rfl) 1 2 rfl rfl ?_
  refine V_callI hX 5 0 0 rfl rfl rfl (Nat.le_of_ble_eq_true rfl) (Nat.le_of_ble_eq_true rfl) (VR_S hX 2 (ct_Mo_isSlot (cx_t hX) K v1 M) my_Mo_isSlot mt_Mo_isSlot ml_Mo_89 (Nat.le_of_ble_eq_true rfl) (Nat.le_of_ble_eq_true rfl) rfl rfl (Nat.le_of_ble_eq_true rfl) rfl (Nat.le_of_ble_eq_true rfl) (Nat.le_of_ble_eq_true rfl)) (fun r2 M2 => ?_)
  refine V_callI hX 8 0 0 rfl rfl rfl (Nat.le_of_ble_eq_true rfl) (Nat.le_of_ble_eq_true rfl) (VR_V hX 3 (ct_Mo_checked (cx_t hX) K r2 M2) my_Mo_checked mi_Mo_checked ms_Mo_checked ml_Mo_189 (Nat.le_of_ble_eq_true rfl) (Nat.le_of_ble_eq_true rfl) (by decide) (ent_32 K _) rfl rfl rfl (Nat.le_of_ble_eq_true rfl) rfl (Nat.le_of_ble_eq_true rfl) (Nat.le_of_ble_eq_true rfl)) (fun r5 M5 => ?_)
  refine V_if_le hX 4 11 15 rfl rfl (by decide) (fun c8 => ?_) (fun c8 => ?_)
  · refine V_aload_n hX (j := 0) (hj := rfl) 7 16 rfl rfl ?_
    refine V_iload_n hX (j := 1) (hj := rfl) 8 17 rfl rfl ?_
    refine V_callI hX 20 0 0 rfl rfl rfl (Nat.le_of_ble_eq_true rfl) (Nat.le_of_ble_eq_true rfl) (VR_V hX 9 (ct_Mo_many (cx_t hX) K v1 M5) my_Mo_many mi_Mo_many ms_Mo_many ml_Mo_93 (Nat.le_of_ble_eq_true rfl) (Nat.le_of_ble_eq_true rfl) (by decide) (ent_32 K _) rfl rfl rfl (Nat.le_of_ble_eq_true rfl) rfl (Nat.le_of_ble_eq_true rfl) (Nat.le_of_ble_eq_true rfl)) (fun r17 M17 => ?_)
    exact V_iret hX 10 rfl (Nat.le_of_ble_eq_true rfl) (Nat.le_of_ble_eq_true rfl) rfl
  · refine V_iconst hX (v := 0) (hv := by decide) 5 12 rfl rfl ?_
    refine V_goto hX 6 20 rfl (by decide) ?_
    exact V_iret hX 10 rfl (Nat.le_of_ble_eq_true rfl) (Nat.le_of_ble_eq_true rfl) rfl
set_option maxRecDepth 20000 in
theorem ct_Mo_value {l : Launch} (hl : l.stackTraces = false) (K : KT) (v1 : Int32) (v2 : Int32) (M : Mm) : CTp l K y_Mo_value (Cond.code y_Mo_value prog_15_method_49_code 3 (some .int)) rvI 4 0 0 [.ref (kA K 32), .int v1, .int v2] M (fn_Mo_value v1 v2 M) := by
  refine CTp_of (L := L_Mo_value) (lc := [(0, .ref (kA K 32)), (1, .int v1), (2, .int v2)]) (by decide +kernel) dec_Mo_value hl rfl (Nat.le_of_ble_eq_true rfl) (fun X hX => ?_)
  unfold fn_Mo_value
  refine V_aload_n hX (j := 0) (hj := rfl) 0 1 rfl rfl ?_
  refine V_aload_n hX (j := 0) (hj := rfl) 1 2 rfl rfl ?_
  refine V_iload_n hX (j := 1) (hj := rfl) 2 3 rfl rfl ?_
  refine V_iload_n hX (j := 2) (hj := rfl) 3 4 rfl rfl ?_
  refine V_callI hX 7 0 0 rfl rfl rfl (Nat.le_of_ble_eq_true rfl) (Nat.le_of_ble_eq_true rfl) (VR_V hX 4 (ct_Mo_isIndex (cx_t hX) K v1 v2 M) my_Mo_isIndex mi_Mo_isIndex ms_Mo_isIndex ml_Mo_120 (Nat.le_of_ble_eq_true rfl) (Nat.le_of_ble_eq_true rfl) (by decide) (ent_32 K _) rfl rfl rfl (Nat.le_of_ble_eq_true rfl) rfl (Nat.le_of_ble_eq_true rfl) (Nat.le_of_ble_eq_true rfl)) (fun r4 M4 => ?_)
  refine V_callI hX 10 0 0 rfl rfl rfl (Nat.le_of_ble_eq_true rfl) (Nat.le_of_ble_eq_true rfl) (VR_V hX 5 (ct_Mo_checked (cx_t hX) K r4 M4) my_Mo_checked mi_Mo_checked ms_Mo_checked ml_Mo_189 (Nat.le_of_ble_eq_true rfl) (Nat.le_of_ble_eq_true rfl) (by decide) (ent_32 K _) rfl rfl rfl (Nat.le_of_ble_eq_true rfl) rfl (Nat.le_of_ble_eq_true rfl) (Nat.le_of_ble_eq_true rfl)) (fun r7 M7 => ?_)
  refine V_if_le hX 6 13 17 rfl rfl (by decide) (fun c10 => ?_) (fun c10 => ?_)
  · refine V_aload_n hX (j := 0) (hj := rfl) 9 18 rfl rfl ?_
    refine V_iload_n hX (j := 1) (hj := rfl) 10 19 rfl rfl ?_
    refine V_iload_n hX (j := 2) (hj := rfl) 11 20 rfl rfl ?_
    refine V_callI hX 23 0 0 rfl rfl rfl (Nat.le_of_ble_eq_true rfl) (Nat.le_of_ble_eq_true rfl) (VR_V hX 12 (ct_Mo_at (cx_t hX) K v1 v2 M7) my_Mo_at mi_Mo_at ms_Mo_at ml_Mo_124 (Nat.le_of_ble_eq_true rfl) (Nat.le_of_ble_eq_true rfl) (by decide) (ent_32 K _) rfl rfl rfl (Nat.le_of_ble_eq_true rfl) rfl (Nat.le_of_ble_eq_true rfl) (Nat.le_of_ble_eq_true rfl)) (fun r20 M20 => ?_)
    exact V_iret hX 13 rfl (Nat.le_of_ble_eq_true rfl) (Nat.le_of_ble_eq_true rfl) rfl
  · refine V_iconst hX (v := 0) (hv := by decide) 7 14 rfl rfl ?_
    refine V_goto hX 8 23 rfl (by decide) ?_
    exact V_iret hX 13 rfl (Nat.le_of_ble_eq_true rfl) (Nat.le_of_ble_eq_true rfl) rfl
set_option maxRecDepth 20000 in
theorem ct_Mo_isRange {l : Launch} (hl : l.stackTraces = false) (K : KT) (v1 : Int32) (v2 : Int32) (v3 : Int32) (M : Mm) : CTp l K y_Mo_isRange (Cond.code y_Mo_isRange prog_15_method_50_code 4 (some .boolean)) rvI 4 0 0 [.ref (kA K 32), .int v1, .int v2, .int v3] M (fn_Mo_isRange v1 v2 v3 M) := by
  refine CTp_of (L := L_Mo_isRange) (lc := [(0, .ref (kA K 32)), (1, .int v1), (2, .int v2), (3, .int v3)]) (by decide +kernel) dec_Mo_isRange hl rfl (Nat.le_of_ble_eq_true rfl) (fun X hX => ?_)
  unfold fn_Mo_isRange
  refine V_aload_n hX (j := 0) (hj := rfl) 0 1 rfl rfl ?_
  refine V_iload_n hX (j := 1) (hj := rfl) 1 2 rfl rfl ?_
  refine V_iload_n hX (j := 2) (hj := rfl) 2 3 rfl rfl ?_
  refine V_callI hX 6 0 0 rfl rfl rfl (Nat.le_of_ble_eq_true rfl) (Nat.le_of_ble_eq_true rfl) (VR_V hX 3 (ct_Mo_isIndex (cx_t hX) K v1 v2 M) my_Mo_isIndex mi_Mo_isIndex ms_Mo_isIndex ml_Mo_120 (Nat.le_of_ble_eq_true rfl) (Nat.le_of_ble_eq_true rfl) (by decide) (ent_32 K _) rfl rfl rfl (Nat.le_of_ble_eq_true rfl) rfl (Nat.le_of_ble_eq_true rfl) (Nat.le_of_ble_eq_true rfl)) (fun r3 M3 => ?_)
  refine V_if_eq hX 4 9 27 rfl rfl (by decide) (fun c6 => ?_) (fun c6 => ?_)
  · refine V_iconst hX (v := 0) (hv := by decide) 15 28 rfl rfl ?_
    exact V_zret hX 16 rfl rfl (Nat.le_of_ble_eq_true rfl) (Nat.le_of_ble_eq_true rfl) rfl
  · refine V_aload_n hX (j := 0) (hj := rfl) 5 10 rfl rfl ?_
    refine V_iload_n hX (j := 1) (hj := rfl) 6 11 rfl rfl ?_
    refine V_iload_n hX (j := 3) (hj := rfl) 7 12 rfl rfl ?_
    refine V_callI hX 15 0 0 rfl rfl rfl (Nat.le_of_ble_eq_true rfl) (Nat.le_of_ble_eq_true rfl) (VR_V hX 8 (ct_Mo_isIndex (cx_t hX) K v1 v3 M3) my_Mo_isIndex mi_Mo_isIndex ms_Mo_isIndex ml_Mo_120 (Nat.le_of_ble_eq_true rfl) (Nat.le_of_ble_eq_true rfl) (by decide) (ent_32 K _) rfl rfl rfl (Nat.le_of_ble_eq_true rfl) rfl (Nat.le_of_ble_eq_true rfl) (Nat.le_of_ble_eq_true rfl)) (fun r12 M12 => ?_)
    refine V_if_eq hX 9 18 27 rfl rfl (by decide) (fun c15 => ?_) (fun c15 => ?_)
    · refine V_iconst hX (v := 0) (hv := by decide) 15 28 rfl rfl ?_
      exact V_zret hX 16 rfl rfl (Nat.le_of_ble_eq_true rfl) (Nat.le_of_ble_eq_true rfl) rfl
    · refine V_iload_n hX (j := 2) (hj := rfl) 10 19 rfl rfl ?_
      refine V_iload_n hX (j := 3) (hj := rfl) 11 20 rfl rfl ?_
      refine V_icmp_gt hX 12 23 27 rfl rfl (by decide) (fun c20 => ?_) (fun c20 => ?_)
      · refine V_iconst hX (v := 0) (hv := by decide) 15 28 rfl rfl ?_
        exact V_zret hX 16 rfl rfl (Nat.le_of_ble_eq_true rfl) (Nat.le_of_ble_eq_true rfl) rfl
      · refine V_iconst hX (v := 1) (hv := by decide) 13 24 rfl rfl ?_
        refine V_goto hX 14 28 rfl (by decide) ?_
        exact V_zret hX 16 rfl rfl (Nat.le_of_ble_eq_true rfl) (Nat.le_of_ble_eq_true rfl) rfl
set_option maxRecDepth 20000 in
theorem ct_Mo_summing {l : Launch} (hl : l.stackTraces = false) (K : KT) (v1 : Int32) (v2 : Int32) (v3 : Int32) (M : Mm) : CTp l K y_Mo_summing (Cond.code y_Mo_summing prog_15_method_51_code 4 (some .int)) rvI 5 0 0 [.ref (kA K 32), .int v1, .int v2, .int v3] M (fn_Mo_summing v1 v2 v3 M) := by
  refine CTp_of (L := L_Mo_summing) (lc := [(0, .ref (kA K 32)), (1, .int v1), (2, .int v2), (3, .int v3)]) (by decide +kernel) dec_Mo_summing hl rfl (Nat.le_of_ble_eq_true rfl) (fun X hX => ?_)
  unfold fn_Mo_summing
  refine V_aload_n hX (j := 0) (hj := rfl) 0 1 rfl rfl ?_
  refine V_aload_n hX (j := 0) (hj := rfl) 1 2 rfl rfl ?_
  refine V_iload_n hX (j := 1) (hj := rfl) 2 3 rfl rfl ?_
  refine V_iload_n hX (j := 2) (hj := rfl) 3 4 rfl rfl ?_
  refine V_iload_n hX (j := 3) (hj := rfl) 4 5 rfl rfl ?_
  refine V_callI hX 8 0 0 rfl rfl rfl (Nat.le_of_ble_eq_true rfl) (Nat.le_of_ble_eq_true rfl) (VR_V hX 5 (ct_Mo_isRange (cx_t hX) K v1 v2 v3 M) my_Mo_isRange mi_Mo_isRange ms_Mo_isRange ml_Mo_193 (Nat.le_of_ble_eq_true rfl) (Nat.le_of_ble_eq_true rfl) (by decide) (ent_32 K _) rfl rfl rfl (Nat.le_of_ble_eq_true rfl) rfl (Nat.le_of_ble_eq_true rfl) (Nat.le_of_ble_eq_true rfl)) (fun r5 M5 => ?_)
  refine V_callI hX 11 0 0 rfl rfl rfl (Nat.le_of_ble_eq_true rfl) (Nat.le_of_ble_eq_true rfl) (VR_V hX 6 (ct_Mo_checked (cx_t hX) K r5 M5) my_Mo_checked mi_Mo_checked ms_Mo_checked ml_Mo_189 (Nat.le_of_ble_eq_true rfl) (Nat.le_of_ble_eq_true rfl) (by decide) (ent_32 K _) rfl rfl rfl (Nat.le_of_ble_eq_true rfl) rfl (Nat.le_of_ble_eq_true rfl) (Nat.le_of_ble_eq_true rfl)) (fun r8 M8 => ?_)
  refine V_if_le hX 7 14 18 rfl rfl (by decide) (fun c11 => ?_) (fun c11 => ?_)
  · refine V_aload_n hX (j := 0) (hj := rfl) 10 19 rfl rfl ?_
    refine V_iload_n hX (j := 1) (hj := rfl) 11 20 rfl rfl ?_
    refine V_iload_n hX (j := 2) (hj := rfl) 12 21 rfl rfl ?_
    refine V_iload_n hX (j := 3) (hj := rfl) 13 22 rfl rfl ?_
    refine V_callI hX 25 0 0 rfl rfl rfl (Nat.le_of_ble_eq_true rfl) (Nat.le_of_ble_eq_true rfl) (VR_V hX 14 (ct_Mo_total (cx_t hX) K v1 v2 v3 M8) my_Mo_total mi_Mo_total ms_Mo_total ml_Mo_153 (Nat.le_of_ble_eq_true rfl) (Nat.le_of_ble_eq_true rfl) (by decide) (ent_32 K _) rfl rfl rfl (Nat.le_of_ble_eq_true rfl) rfl (Nat.le_of_ble_eq_true rfl) (Nat.le_of_ble_eq_true rfl)) (fun r22 M22 => ?_)
    exact V_iret hX 15 rfl (Nat.le_of_ble_eq_true rfl) (Nat.le_of_ble_eq_true rfl) rfl
  · refine V_iconst hX (v := 0) (hv := by decide) 8 15 rfl rfl ?_
    refine V_goto hX 9 25 rfl (by decide) ?_
    exact V_iret hX 15 rfl (Nat.le_of_ble_eq_true rfl) (Nat.le_of_ble_eq_true rfl) rfl
set_option maxRecDepth 20000 in
theorem ct_Mo_sum {l : Launch} (hl : l.stackTraces = false) (K : KT) (v1 : Int32) (v2 : Int32) (v3 : Int32) (M : Mm) : CTp l K y_Mo_sum (Cond.code y_Mo_sum prog_15_method_52_code 4 (some .int)) rvI 6 0 0 [.ref (kA K 32), .int v1, .int v2, .int v3] M (fn_Mo_sum v1 v2 v3 M) := by
  refine CTp_of (L := L_Mo_sum) (lc := [(0, .ref (kA K 32)), (1, .int v1), (2, .int v2), (3, .int v3)]) (by decide +kernel) dec_Mo_sum hl rfl (Nat.le_of_ble_eq_true rfl) (fun X hX => ?_)
  unfold fn_Mo_sum
  refine V_aload_n hX (j := 0) (hj := rfl) 0 1 rfl rfl ?_
  refine V_iload_n hX (j := 1) (hj := rfl) 1 2 rfl rfl ?_
  refine V_iload_n hX (j := 2) (hj := rfl) 2 3 rfl rfl ?_
  refine V_iload_n hX (j := 3) (hj := rfl) 3 4 rfl rfl ?_
  refine V_callI hX 7 0 0 rfl rfl rfl (Nat.le_of_ble_eq_true rfl) (Nat.le_of_ble_eq_true rfl) (VR_V hX 4 (ct_Mo_summing (cx_t hX) K v1 v2 v3 M) my_Mo_summing mi_Mo_summing ms_Mo_summing ml_Mo_196 (Nat.le_of_ble_eq_true rfl) (Nat.le_of_ble_eq_true rfl) (by decide) (ent_32 K _) rfl rfl rfl (Nat.le_of_ble_eq_true rfl) rfl (Nat.le_of_ble_eq_true rfl) (Nat.le_of_ble_eq_true rfl)) (fun r4 M4 => ?_)
  exact V_iret hX 5 rfl (Nat.le_of_ble_eq_true rfl) (Nat.le_of_ble_eq_true rfl) rfl
set_option maxRecDepth 20000 in
theorem ct_Mo_sumByTree {l : Launch} (hl : l.stackTraces = false) (K : KT) (v1 : Int32) (v2 : Int32) (v3 : Int32) (M : Mm) : CTp l K y_Mo_sumByTree (Cond.code y_Mo_sumByTree prog_15_method_53_code 4 (some .int)) rvI 6 0 0 [.ref (kA K 32), .int v1, .int v2, .int v3] M (fn_Mo_sumByTree v1 v2 v3 M) := by
  refine CTp_of (L := L_Mo_sumByTree) (lc := [(0, .ref (kA K 32)), (1, .int v1), (2, .int v2), (3, .int v3)]) (by decide +kernel) dec_Mo_sumByTree hl rfl (Nat.le_of_ble_eq_true rfl) (fun X hX => ?_)
  unfold fn_Mo_sumByTree
  refine V_aload_n hX (j := 0) (hj := rfl) 0 1 rfl rfl ?_
  refine V_iload_n hX (j := 1) (hj := rfl) 1 2 rfl rfl ?_
  refine V_iload_n hX (j := 2) (hj := rfl) 2 3 rfl rfl ?_
  refine V_iload_n hX (j := 3) (hj := rfl) 3 4 rfl rfl ?_
  refine V_callI hX 7 0 0 rfl rfl rfl (Nat.le_of_ble_eq_true rfl) (Nat.le_of_ble_eq_true rfl) (VR_V hX 4 (ct_Mo_summing (cx_t hX) K v1 v2 v3 M) my_Mo_summing mi_Mo_summing ms_Mo_summing ml_Mo_196 (Nat.le_of_ble_eq_true rfl) (Nat.le_of_ble_eq_true rfl) (by decide) (ent_32 K _) rfl rfl rfl (Nat.le_of_ble_eq_true rfl) rfl (Nat.le_of_ble_eq_true rfl) (Nat.le_of_ble_eq_true rfl)) (fun r4 M4 => ?_)
  exact V_iret hX 5 rfl (Nat.le_of_ble_eq_true rfl) (Nat.le_of_ble_eq_true rfl) rfl
set_option maxRecDepth 20000 in
theorem bt_Mo_lowest_11 {l : Launch} {K : KT} {X : XT} (hX : Cx l K 2 6 0 0 X prog_15_method_54_code "SeriesArchiveModel" (some .int) [] L_Mo_lowest) (v1 : Int32) (v3 : Int32) : ∀ (n : Nat) (v4 : Int32) (v5 : Int32) (M : Mm), VV l K 2 6 0 0 rvI X (fn_Mo_lowest_11 v1 v3 n v4 v5 M) 0 0 M 11 [(0, .ref (kA K 32)), (1, .int v1), (3, .int v3), (4, .int v4), (5, .int v5)] [] := by
  intro n
  induction n with
  | zero => intro v4 v5 M; exact VV_none
  | succ n ih =>
    intro v4 v5 M
    rw [fn_Mo_lowest_11]
    refine V_iload hX (j := 4) (hj := rfl) 7 13 rfl rfl ?_
    refine V_iload_n hX (j := 2) (hj := rfl) 8 14 rfl rfl ?_
    refine V_icmp_gt hX 9 17 37 rfl rfl (by decide) (fun c14 => ?_) (fun c14 => ?_)
    · refine V_iload hX (j := 3) (hj := rfl) 19 39 rfl rfl ?_
      exact V_iret hX 20 rfl (Nat.le_of_ble_eq_true rfl) (Nat.le_of_ble_eq_true rfl) rfl
    · refine V_iload hX (j := 3) (hj := rfl) 10 19 rfl rfl ?_
      refine V_aload_n hX (j := 0) (hj := rfl) 11 20 rfl rfl ?_
      refine V_iload_n hX (j := 1) (hj := rfl) 12 21 rfl rfl ?_
      refine V_iload hX (j := 4) (hj := rfl) 13 23 rfl rfl ?_
      refine V_callI hX 26 0 0 rfl rfl rfl (Nat.le_of_ble_eq_true rfl) (Nat.le_of_ble_eq_true rfl) (VR_V hX 14 (ct_Mo_at (cx_t hX) K v1 v5 M) my_Mo_at mi_Mo_at ms_Mo_at ml_Mo_124 (Nat.le_of_ble_eq_true rfl) (Nat.le_of_ble_eq_true rfl) (by decide) (ent_32 K _) rfl rfl rfl (Nat.le_of_ble_eq_true rfl) rfl (Nat.le_of_ble_eq_true rfl) (Nat.le_of_ble_eq_true rfl)) (fun r23 M23 => ?_)
      refine V_callI hX 29 0 0 rfl rfl rfl (Nat.le_of_ble_eq_true rfl) (Nat.le_of_ble_eq_true rfl) (VR_S hX 15 (ct_Mo_less (cx_t hX) K v4 r23 M23) my_Mo_less mt_Mo_less ml_Mo_165 (Nat.le_of_ble_eq_true rfl) (Nat.le_of_ble_eq_true rfl) rfl rfl (Nat.le_of_ble_eq_true rfl) rfl (Nat.le_of_ble_eq_true rfl) (Nat.le_of_ble_eq_true rfl)) (fun r26 M26 => ?_)
      refine V_istore hX 16 31 [(4, .int r26), (0, .ref (kA K 32)), (1, .int v1), (3, .int v3), (5, .int v5)] rfl rfl (Nat.le_of_ble_eq_true rfl) rfl ?_
      refine V_iincL hX 17 34 4 rfl rfl rfl rfl (Nat.le_of_ble_eq_true rfl) (fun x5_31 hx5_31 => ?_)
      refine VV_lc [(5, .int x5_31), (4, .int r26), (0, .ref (kA K 32)), (1, .int v1), (3, .int v3)] rfl ?_
      refine V_goto hX 18 11 rfl (by decide) ?_
      refine VV_sub [2, 3, 4, 1, 0] rfl ?_
      exact ih r26 x5_31 M26
set_option maxRecDepth 20000 in
theorem ct_Mo_lowest {l : Launch} (hl : l.stackTraces = false) (K : KT) (v1 : Int32) (v2 : Int32) (v3 : Int32) (M : Mm) : CTp l K y_Mo_lowest (Cond.code y_Mo_lowest prog_15_method_54_code 6 (some .int)) rvI 2 0 0 [.ref (kA K 32), .int v1, .int v2, .int v3] M (fn_Mo_lowest v1 v2 v3 M) := by
  refine CTp_of (L := L_Mo_lowest) (lc := [(0, .ref (kA K 32)), (1, .int v1), (2, .int v2), (3, .int v3)]) (by decide +kernel) dec_Mo_lowest hl rfl (Nat.le_of_ble_eq_true rfl) (fun X hX => ?_)
  unfold fn_Mo_lowest
  refine V_aload_n hX (j := 0) (hj := rfl) 0 1 rfl rfl ?_
  refine V_iload_n hX (j := 1) (hj := rfl) 1 2 rfl rfl ?_
  refine V_iload_n hX (j := 2) (hj := rfl) 2 3 rfl rfl ?_
  refine V_callI hX 6 0 0 rfl rfl rfl (Nat.le_of_ble_eq_true rfl) (Nat.le_of_ble_eq_true rfl) (VR_V hX 3 (ct_Mo_at (cx_t hX) K v1 v2 M) my_Mo_at mi_Mo_at ms_Mo_at ml_Mo_124 (Nat.le_of_ble_eq_true rfl) (Nat.le_of_ble_eq_true rfl) (by decide) (ent_32 K _) rfl rfl rfl (Nat.le_of_ble_eq_true rfl) rfl (Nat.le_of_ble_eq_true rfl) (Nat.le_of_ble_eq_true rfl)) (fun r3 M3 => ?_)
  refine V_istore hX 4 8 [(4, .int r3), (0, .ref (kA K 32)), (1, .int v1), (2, .int v2), (3, .int v3)] rfl rfl (Nat.le_of_ble_eq_true rfl) rfl ?_
  refine V_iload_n hX (j := 3) (hj := rfl) 5 9 rfl rfl ?_
  refine V_istore hX 6 11 [(5, .int v2), (4, .int r3), (0, .ref (kA K 32)), (1, .int v1), (2, .int v2), (3, .int v3)] rfl rfl (Nat.le_of_ble_eq_true rfl) rfl ?_
  refine VV_sub [2, 3, 5, 1, 0] rfl ?_
  exact bt_Mo_lowest_11 hX v1 v3 fuel0 r3 v2 M3
