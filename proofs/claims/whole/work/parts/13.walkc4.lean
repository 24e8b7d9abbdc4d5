set_option maxRecDepth 20000 in
theorem ct_SA_isAscending {l : Launch} (hl : l.stackTraces = false) (K : KT) (v1 : Int32) (M : Mm) : CTp l K y_SA_isAscending (Cond.code y_SA_isAscending prog_1_method_46_code 2 (some .boolean)) rvI 10 1 6 [.ref (kA K 0), .int v1] M (fn_SA_isAscending v1 M) := by
  refine CTp_of (L := L_SA_isAscending) (lc := [(0, .ref (kA K 0)), (1, .int v1)]) (by decide +kernel) dec_SA_isAscending hl rfl (Nat.le_of_ble_eq_true rfl) (fun X hX => ?_)
  unfold fn_SA_isAscending
  refine V_aload_n hX (j := 0) (hj := rfl) 0 1 rfl rfl ?_
  refine V_iload_n hX (j := 1) (hj := rfl) 1 2 rfl rfl ?_
  refine V_callL hX 5 1 6 rfl rfl rfl (Nat.le_of_ble_eq_true rfl) (Nat.le_of_ble_eq_true rfl) (VR_V hX 2 (ct_SA_seriesIn (cx_t hX) K v1 M) my_SA_seriesIn mi_SA_seriesIn ms_SA_seriesIn ml_SA_113 (Nat.le_of_ble_eq_true rfl) (Nat.le_of_ble_eq_true rfl) (by decide) (ent_0 K _) rfl rfl rfl (Nat.le_of_ble_eq_true rfl) rfl (Nat.le_of_ble_eq_true rfl) (Nat.le_of_ble_eq_true rfl)) (fun r2 M2 => VV_grd (fun hr2 => ?_))
  refine V_callI hX 8 1 6 rfl rfl rfl (Nat.le_of_ble_eq_true rfl) (Nat.le_of_ble_eq_true rfl) (VR_V hX 3 (ct_Se_neverFalls (cx_t hX) K r2 M2) my_Se_neverFalls mi_Se_neverFalls ms_Se_neverFalls ml_SA_280 (Nat.le_of_ble_eq_true rfl) (Nat.le_of_ble_eq_true rfl) (loc_ser hr2) (ent_ser K _ hr2) rfl rfl rfl (Nat.le_of_ble_eq_true rfl) rfl (Nat.le_of_ble_eq_true rfl) (Nat.le_of_ble_eq_true rfl)) (fun r5 M5 => ?_)
  refine VV_grd (fun hz1 => ?_)
  exact V_zret hX 4 rfl (vp_narZ hz1).1 (Nat.le_of_ble_eq_true rfl) (Nat.le_of_ble_eq_true rfl) rfl
set_option maxRecDepth 20000 in
theorem ct_SA_valueTotal {l : Launch} (hl : l.stackTraces = false) (K : KT) (M : Mm) : CTp l K y_SA_valueTotal (Cond.code y_SA_valueTotal prog_1_method_47_code 1 (some .int)) rvI 3 0 0 [.ref (kA K 0)] M (fn_SA_valueTotal M) := by
  refine CTp_of (L := L_SA_valueTotal) (lc := [(0, .ref (kA K 0))]) (by decide +kernel) dec_SA_valueTotal hl rfl (Nat.le_of_ble_eq_true rfl) (fun X hX => ?_)
  unfold fn_SA_valueTotal
  refine V_aload_n hX (j := 0) (hj := rfl) 0 1 rfl rfl ?_
  refine V_get hX 1 4 0 (.ref (kA K 1)) fl_SA_12 rfl rfl (by decide) (ent_0 K _) rfl ?_
  refine V_callI hX 7 0 0 rfl rfl rfl (Nat.le_of_ble_eq_true rfl) (Nat.le_of_ble_eq_true rfl) (VR_V hX 2 (ct_St_valueCount (cx_t hX) K M) my_St_valueCount mi_St_valueCount ms_St_valueCount ml_SA_283 (Nat.le_of_ble_eq_true rfl) (Nat.le_of_ble_eq_true rfl) (by decide) (ent_1 K _) rfl rfl rfl (Nat.le_of_ble_eq_true rfl) rfl (Nat.le_of_ble_eq_true rfl) (Nat.le_of_ble_eq_true rfl)) (fun r4 M4 => ?_)
  exact V_iret hX 3 rfl (Nat.le_of_ble_eq_true rfl) (Nat.le_of_ble_eq_true rfl) rfl
set_option maxRecDepth 20000 in
theorem ct_SA_appendedTotal {l : Launch} (hl : l.stackTraces = false) (K : KT) (M : Mm) : CTp l K y_SA_appendedTotal (Cond.code y_SA_appendedTotal prog_1_method_48_code 1 (some .int)) rvI 2 0 0 [.ref (kA K 0)] M (fn_SA_appendedTotal M) := by
  refine CTp_of (L := L_SA_appendedTotal) (lc := [(0, .ref (kA K 0))]) (by decide +kernel) dec_SA_appendedTotal hl rfl (Nat.le_of_ble_eq_true rfl) (fun X hX => ?_)
  unfold fn_SA_appendedTotal
  refine V_aload_n hX (j := 0) (hj := rfl) 0 1 rfl rfl ?_
  refine V_get hX 1 4 0 (.ref (kA K 1)) fl_SA_12 rfl rfl (by decide) (ent_0 K _) rfl ?_
  refine V_callI hX 7 0 0 rfl rfl rfl (Nat.le_of_ble_eq_true rfl) (Nat.le_of_ble_eq_true rfl) (VR_V hX 2 (ct_St_appendedCount (cx_t hX) K M) my_St_appendedCount mi_St_appendedCount ms_St_appendedCount ml_SA_286 (Nat.le_of_ble_eq_true rfl) (Nat.le_of_ble_eq_true rfl) (by decide) (ent_1 K _) rfl rfl rfl (Nat.le_of_ble_eq_true rfl) rfl (Nat.le_of_ble_eq_true rfl) (Nat.le_of_ble_eq_true rfl)) (fun r4 M4 => ?_)
  exact V_iret hX 3 rfl (Nat.le_of_ble_eq_true rfl) (Nat.le_of_ble_eq_true rfl) rfl
set_option maxRecDepth 20000 in
theorem ct_SA_positiveShare {l : Launch} (hl : l.stackTraces = false) (K : KT) (M : Mm) : CTp l K y_SA_positiveShare (Cond.code y_SA_positiveShare prog_1_method_49_code 2 (some .float)) rvF 9 1 6 [.ref (kA K 0)] M (fn_SA_positiveShare M) := by
  refine CTp_of (L := L_SA_positiveShare) (lc := [(0, .ref (kA K 0))]) (by decide +kernel) dec_SA_positiveShare hl rfl (Nat.le_of_ble_eq_true rfl) (fun X hX => ?_)
  unfold fn_SA_positiveShare
  refine V_aload_n hX (j := 0) (hj := rfl) 0 1 rfl rfl ?_
  refine V_get hX 1 4 0 (.ref (kA K 1)) fl_SA_12 rfl rfl (by decide) (ent_0 K _) rfl ?_
  refine V_callI hX 7 0 0 rfl rfl rfl (Nat.le_of_ble_eq_true rfl) (Nat.le_of_ble_eq_true rfl) (VR_V hX 2 (ct_St_valueCount (cx_t hX) K M) my_St_valueCount mi_St_valueCount ms_St_valueCount ml_SA_283 (Nat.le_of_ble_eq_true rfl) (Nat.le_of_ble_eq_true rfl) (by decide) (ent_1 K _) rfl rfl rfl (Nat.le_of_ble_eq_true rfl) rfl (Nat.le_of_ble_eq_true rfl) (Nat.le_of_ble_eq_true rfl)) (fun r4 M4 => ?_)
  refine V_istore_n hX 3 8 [(1, .int r4), (0, .ref (kA K 0))] rfl rfl (Nat.le_of_ble_eq_true rfl) rfl ?_
  refine V_iload_n hX (j := 0) (hj := rfl) 4 9 rfl rfl ?_
  refine V_iconst hX (v := 1) (hv := by decide) 5 10 rfl rfl ?_
  refine V_icmp_ge hX 6 13 24 rfl rfl (by decide) (fun c10 => ?_) (fun c10 => ?_)
  · refine V_aload_n hX (j := 1) (hj := rfl) 12 25 rfl rfl ?_
    refine V_get hX 13 28 0 (.ref (kA K 1)) fl_SA_12 rfl rfl (by decide) (ent_0 K _) rfl ?_
    refine V_callI hX 31 0 0 rfl rfl rfl (Nat.le_of_ble_eq_true rfl) (Nat.le_of_ble_eq_true rfl) (VR_V hX 14 (ct_St_positiveCount (cx_t hX) K M4) my_St_positiveCount mi_St_positiveCount ms_St_positiveCount ml_SA_291 (Nat.le_of_ble_eq_true rfl) (Nat.le_of_ble_eq_true rfl) (by decide) (ent_1 K _) rfl rfl rfl (Nat.le_of_ble_eq_true rfl) rfl (Nat.le_of_ble_eq_true rfl) (Nat.le_of_ble_eq_true rfl)) (fun r28 M28 => ?_)
    refine V_i2f hX 15 32 rfl rfl ?_
    refine V_iload_n hX (j := 0) (hj := rfl) 16 33 rfl rfl ?_
    refine V_i2f hX 17 34 rfl rfl ?_
    refine VV_grd (fun hz1 => ?_)
    refine V_fdiv hX (hne := hz1) 18 35 rfl rfl ?_
    exact V_fret hX 19 rfl (Nat.le_of_ble_eq_true rfl) (Nat.le_of_ble_eq_true rfl) rfl
  · exact V_throw hX 7 4 th_4_170_174 tx_289 (Nat.le_of_ble_eq_true rfl) (Nat.le_of_ble_eq_true rfl) (Nat.le_of_ble_eq_true rfl) (Nat.le_of_ble_eq_true rfl) rfl rfl rfl rfl rfl
set_option maxRecDepth 20000 in
theorem bt_SA_isConsistent_2 {l : Launch} {K : KT} {X : XT} (hX : Cx l K 51 3 0 0 X prog_1_method_50_code "SeriesArchive" (some .boolean) [] L_SA_isConsistent) : ∀ (n : Nat) (v1 : Int32) (M : Mm), VV l K 51 3 0 0 rvI X (fn_SA_isConsistent_2 n v1 M) 0 0 M 2 [(0, .ref (kA K 0)), (1, .int v1)] [] := by
  intro n
  induction n with
  | zero => intro v1 M; exact VV_none
  | succ n ih =>
    intro v1 M
    rw [fn_SA_isConsistent_2]
    refine V_iload_n hX (j := 1) (hj := rfl) 2 3 rfl rfl ?_
    refine V_iconst hX (v := 4) (hv := by decide) 3 4 rfl rfl ?_
    refine V_icmp_ge hX 4 7 46 rfl rfl (by decide) (fun c4 => ?_) (fun c4 => ?_)
    · refine V_iconst hX (v := 1) (hv := by decide) 24 47 rfl rfl ?_
      exact V_zret hX 25 rfl rfl (Nat.le_of_ble_eq_true rfl) (Nat.le_of_ble_eq_true rfl) rfl
    · refine V_aload_n hX (j := 0) (hj := rfl) 5 8 rfl rfl ?_
      refine V_get hX 6 11 0 (.ref (kA K 1)) fl_SA_12 rfl rfl (by decide) (ent_0 K _) rfl ?_
      refine V_iload_n hX (j := 1) (hj := rfl) 7 12 rfl rfl ?_
      refine V_callL hX 15 0 0 rfl rfl rfl (Nat.le_of_ble_eq_true rfl) (Nat.le_of_ble_eq_true rfl) (VR_V hX 8 (ct_St_at (cx_t hX) K v1 M) my_St_at mi_St_at ms_St_at ml_SA_265 (Nat.le_of_ble_eq_true rfl) (Nat.le_of_ble_eq_true rfl) (by decide) (ent_1 K _) rfl rfl rfl (Nat.le_of_ble_eq_true rfl) rfl (Nat.le_of_ble_eq_true rfl) (Nat.le_of_ble_eq_true rfl)) (fun r12 M12 => VV_grd (fun hr12 => ?_))
      refine V_astore_n hX 9 16 [(2, .ref (kA K r12)), (0, .ref (kA K 0)), (1, .int v1)] rfl rfl (Nat.le_of_ble_eq_true rfl) rfl ?_
      refine V_aload_n hX (j := 1) (hj := rfl) 10 17 rfl rfl ?_
      refine V_get hX 11 20 0 (.ref (kA K 21)) fl_SA_54 rfl rfl (by decide) (ent_0 K _) rfl ?_
      refine V_aload_n hX (j := 0) (hj := rfl) 12 21 rfl rfl ?_
      refine V_callI hX 24 0 0 rfl rfl rfl (Nat.le_of_ble_eq_true rfl) (Nat.le_of_ble_eq_true rfl) (VR_V hX 13 (ct_Ra_agreeOn (cx_t hX) K r12 M12) my_Ra_agreeOn mi_Ra_agreeOn ms_Ra_agreeOn ml_SA_294 (Nat.le_of_ble_eq_true rfl) (Nat.le_of_ble_eq_true rfl) (by decide) (ent_21 K _) rfl rfl rfl (Nat.le_of_ble_eq_true rfl) rfl (Nat.le_of_ble_eq_true rfl) (Nat.le_of_ble_eq_true rfl)) (fun r21 M21 => ?_)
      refine V_if_eq hX 14 27 38 rfl rfl (by decide) (fun c24 => ?_) (fun c24 => ?_)
      · refine V_iconst hX (v := 0) (hv := by decide) 20 39 rfl rfl ?_
        exact V_zret hX 21 rfl rfl (Nat.le_of_ble_eq_true rfl) (Nat.le_of_ble_eq_true rfl) rfl
      · refine V_aload_n hX (j := 1) (hj := rfl) 15 28 rfl rfl ?_
        refine V_get hX 16 31 0 (.ref (kA K 26)) fl_SA_61 rfl rfl (by decide) (ent_0 K _) rfl ?_
        refine V_aload_n hX (j := 0) (hj := rfl) 17 32 rfl rfl ?_
        refine V_callI hX 35 0 0 rfl rfl rfl (Nat.le_of_ble_eq_true rfl) (Nat.le_of_ble_eq_true rfl) (VR_V hX 18 (ct_Pa_agreeOn (cx_t hX) K r12 M21) my_Pa_agreeOn mi_Pa_agreeOn ms_Pa_agreeOn ml_SA_297 (Nat.le_of_ble_eq_true rfl) (Nat.le_of_ble_eq_true rfl) (by decide) (ent_26 K _) rfl rfl rfl (Nat.le_of_ble_eq_true rfl) rfl (Nat.le_of_ble_eq_true rfl) (Nat.le_of_ble_eq_true rfl)) (fun r32 M32 => ?_)
        refine V_if_ne hX 19 38 40 rfl rfl (by decide) (fun c35 => ?_) (fun c35 => ?_)
        · refine V_iincL hX 22 43 2 rfl rfl rfl rfl (Nat.le_of_ble_eq_true rfl) (fun x1_40 hx1_40 => ?_)
          refine VV_lc [(1, .int x1_40), (2, .ref (kA K r12)), (0, .ref (kA K 0))] rfl ?_
          refine V_goto hX 23 2 rfl (by decide) ?_
          refine VV_sub [2, 0] rfl ?_
          exact ih x1_40 M32
        · refine V_iconst hX (v := 0) (hv := by decide) 20 39 rfl rfl ?_
          exact V_zret hX 21 rfl rfl (Nat.le_of_ble_eq_true rfl) (Nat.le_of_ble_eq_true rfl) rfl
set_option maxRecDepth 20000 in
theorem ct_SA_isConsistent {l : Launch} (hl : l.stackTraces = false) (K : KT) (M : Mm) : CTp l K y_SA_isConsistent (Cond.code y_SA_isConsistent prog_1_method_50_code 3 (some .boolean)) rvI 51 0 0 [.ref (kA K 0)] M (fn_SA_isConsistent M) := by
  refine CTp_of (L := L_SA_isConsistent) (lc := [(0, .ref (kA K 0))]) (by decide +kernel) dec_SA_isConsistent hl rfl (Nat.le_of_ble_eq_true rfl) (fun X hX => ?_)
  unfold fn_SA_isConsistent
  refine V_iconst hX (v := 0) (hv := by decide) 0 1 rfl rfl ?_
  refine V_istore_n hX 1 2 [(1, .int 0), (0, .ref (kA K 0))] rfl rfl (Nat.le_of_ble_eq_true rfl) rfl ?_
  refine VV_sub [1, 0] rfl ?_
  exact bt_SA_isConsistent_2 hX fuel0 0 M
set_option maxRecDepth 20000 in
theorem ct_SA_lineChar {l : Launch} (hl : l.stackTraces = false) (K : KT) (v1 : Int32) (M : Mm) : CTp l K y_SA_lineChar (Cond.code y_SA_lineChar prog_1_method_53_code 2 (some .char)) rvI 13 1 6 [.ref (kA K 0), .int v1] M (fn_SA_lineChar v1 M) := by
  refine CTp_of (L := L_SA_lineChar) (lc := [(0, .ref (kA K 0)), (1, .int v1)]) (by decide +kernel) dec_SA_lineChar hl rfl (Nat.le_of_ble_eq_true rfl) (fun X hX => ?_)
  unfold fn_SA_lineChar
  refine V_iload_n hX (j := 1) (hj := rfl) 0 1 rfl rfl ?_
  refine V_if_lt hX 1 4 15 rfl rfl (by decide) (fun c1 => ?_) (fun c1 => ?_)
  · exact V_throw hX 7 0 th_0_315_319 tx_317 (Nat.le_of_ble_eq_true rfl) (Nat.le_of_ble_eq_true rfl) (Nat.le_of_ble_eq_true rfl) (Nat.le_of_ble_eq_true rfl) rfl rfl rfl rfl rfl
  · refine V_iload_n hX (j := 1) (hj := rfl) 2 5 rfl rfl ?_
    refine V_aload_n hX (j := 0) (hj := rfl) 3 6 rfl rfl ?_
    refine V_get hX 4 9 0 (.ref (kA K 19)) fl_SA_47 rfl rfl (by decide) (ent_0 K _) rfl ?_
    refine V_callI hX 12 0 0 rfl rfl rfl (Nat.le_of_ble_eq_true rfl) (Nat.le_of_ble_eq_true rfl) (VR_B hX 5 (ct_SB_length (cx_t hX) K M) my_SB_length mi_SB_length ms_SB_length ml_SA_305 (Nat.le_of_ble_eq_true rfl) (Nat.le_of_ble_eq_true rfl) rfl rfl (Nat.le_of_ble_eq_true rfl) rfl (Nat.le_of_ble_eq_true rfl) (Nat.le_of_ble_eq_true rfl)) (fun r9 M9 => ?_)
    refine V_icmp_lt hX 6 15 26 rfl rfl (by decide) (fun c12 => ?_) (fun c12 => ?_)
    · refine V_aload_n hX (j := 0) (hj := rfl) 12 27 rfl rfl ?_
      refine V_get hX 13 30 0 (.ref (kA K 19)) fl_SA_47 rfl rfl (by decide) (ent_0 K _) rfl ?_
      refine V_iload_n hX (j := 1) (hj := rfl) 14 31 rfl rfl ?_
      refine V_callI hX 34 0 0 rfl rfl rfl (Nat.le_of_ble_eq_true rfl) (Nat.le_of_ble_eq_true rfl) (VR_B hX 15 (ct_SB_charAt (cx_t hX) K v1 M9) my_SB_charAt mi_SB_charAt ms_SB_charAt ml_SA_320 (Nat.le_of_ble_eq_true rfl) (Nat.le_of_ble_eq_true rfl) rfl rfl (Nat.le_of_ble_eq_true rfl) rfl (Nat.le_of_ble_eq_true rfl) (Nat.le_of_ble_eq_true rfl)) (fun r31 M31 => ?_)
      refine VV_grd (fun hz1 => ?_)
      exact V_zret hX 16 rfl (vp_narC hz1) (Nat.le_of_ble_eq_true rfl) (Nat.le_of_ble_eq_true rfl) rfl
    · exact V_throw hX 7 0 th_0_315_319 tx_317 (Nat.le_of_ble_eq_true rfl) (Nat.le_of_ble_eq_true rfl) (Nat.le_of_ble_eq_true rfl) (Nat.le_of_ble_eq_true rfl) rfl rfl rfl rfl rfl
set_option maxRecDepth 20000 in
theorem ct_SA_type {l : Launch} (hl : l.stackTraces = false) (K : KT) (v1 : Int32) (M : Mm) : CTp l K y_SA_type (Cond.code y_SA_type prog_1_method_54_code 2 (some .int)) rvI 9 1 6 [.ref (kA K 0), .int v1] M (fn_SA_type v1 M) := by
  refine CTp_of (L := L_SA_type) (lc := [(0, .ref (kA K 0)), (1, .int v1)]) (by decide +kernel) dec_SA_type hl rfl (Nat.le_of_ble_eq_true rfl) (fun X hX => ?_)
  unfold fn_SA_type
  refine V_iload_n hX (j := 1) (hj := rfl) 0 1 rfl rfl ?_
  refine V_bipush hX (v := 32) (hv := by decide) 1 3 rfl rfl ?_
  refine V_icmp_lt hX 2 6 12 rfl rfl (by decide) (fun c3 => ?_) (fun c3 => ?_)
  · exact V_throw hX 6 1 th_1_324_328 tx_326 (Nat.le_of_ble_eq_true rfl) (Nat.le_of_ble_eq_true rfl) (Nat.le_of_ble_eq_true rfl) (Nat.le_of_ble_eq_true rfl) rfl rfl rfl rfl rfl
  · refine V_iload_n hX (j := 1) (hj := rfl) 3 7 rfl rfl ?_
    refine V_bipush hX (v := 126) (hv := by decide) 4 9 rfl rfl ?_
    refine V_icmp_le hX 5 12 23 rfl rfl (by decide) (fun c9 => ?_) (fun c9 => ?_)
    · refine V_aload_n hX (j := 0) (hj := rfl) 11 24 rfl rfl ?_
      refine V_get hX 12 27 0 (.ref (kA K 16)) fl_SA_33 rfl rfl (by decide) (ent_0 K _) rfl ?_
      refine V_callI hX 30 0 0 rfl rfl rfl (Nat.le_of_ble_eq_true rfl) (Nat.le_of_ble_eq_true rfl) (VR_V hX 13 (ct_In_isFull (cx_t hX) K M) my_In_isFull mi_In_isFull ms_In_isFull ml_SA_329 (Nat.le_of_ble_eq_true rfl) (Nat.le_of_ble_eq_true rfl) (by decide) (ent_16 K _) rfl rfl rfl (Nat.le_of_ble_eq_true rfl) rfl (Nat.le_of_ble_eq_true rfl) (Nat.le_of_ble_eq_true rfl)) (fun r27 M27 => ?_)
      refine V_if_eq hX 14 33 44 rfl rfl (by decide) (fun c30 => ?_) (fun c30 => ?_)
      · refine V_aload_n hX (j := 0) (hj := rfl) 20 45 rfl rfl ?_
        refine V_get hX 21 48 0 (.ref (kA K 16)) fl_SA_33 rfl rfl (by decide) (ent_0 K _) rfl ?_
        refine V_iload_n hX (j := 1) (hj := rfl) 22 49 rfl rfl ?_
        refine V_callI hX 52 0 0 rfl rfl rfl (Nat.le_of_ble_eq_true rfl) (Nat.le_of_ble_eq_true rfl) (VR_V hX 23 (ct_In_add (cx_t hX) K v1 M27) my_In_add mi_In_add ms_In_add ml_SA_337 (Nat.le_of_ble_eq_true rfl) (Nat.le_of_ble_eq_true rfl) (by decide) (ent_16 K _) rfl rfl rfl (Nat.le_of_ble_eq_true rfl) rfl (Nat.le_of_ble_eq_true rfl) (Nat.le_of_ble_eq_true rfl)) (fun r49 M49 => ?_)
        exact V_iret hX 24 rfl (Nat.le_of_ble_eq_true rfl) (Nat.le_of_ble_eq_true rfl) rfl
      · exact V_throw hX 15 2 th_2_332_336 tx_334 (Nat.le_of_ble_eq_true rfl) (Nat.le_of_ble_eq_true rfl) (Nat.le_of_ble_eq_true rfl) (Nat.le_of_ble_eq_true rfl) rfl rfl rfl rfl rfl
    · exact V_throw hX 6 1 th_1_324_328 tx_326 (Nat.le_of_ble_eq_true rfl) (Nat.le_of_ble_eq_true rfl) (Nat.le_of_ble_eq_true rfl) (Nat.le_of_ble_eq_true rfl) rfl rfl rfl rfl rfl
set_option maxRecDepth 20000 in
theorem bt_SA_execute_91 {l : Launch} {K : KT} {X : XT} (hX : Cx l K 9 9 0 0 X prog_1_method_64_code "SeriesArchive" (some .int) [] L_SA_execute) (v3 : Int32) (M : Mm) : VV l K 9 9 0 0 rvI X (fn_SA_execute_91 v3 M) 0 0 M 91 [(0, .ref (kA K 0)), (3, .int v3)] [] := by
  unfold fn_SA_execute_91
  refine V_aload_n hX (j := 0) (hj := rfl) 46 92 rfl rfl ?_
  refine V_get hX 47 95 0 (.ref (kA K 1)) fl_SA_12 rfl rfl (by decide) (ent_0 K _) rfl ?_
  refine V_aload_n hX (j := 0) (hj := rfl) 48 96 rfl rfl ?_
  refine V_get hX 49 99 0 (.ref (kA K 15)) fl_SA_27 rfl rfl (by decide) (ent_0 K _) rfl ?_
  refine V_iconst hX (v := 0) (hv := by decide) 50 100 rfl rfl ?_
  refine V_callU hX 103 0 0 rfl rfl rfl (Nat.le_of_ble_eq_true rfl) (Nat.le_of_ble_eq_true rfl) (VR_V hX 51 (ct_St_load (cx_t hX) K 15 0 M) my_St_load mi_St_load ms_St_load ml_SA_374 (Nat.le_of_ble_eq_true rfl) (Nat.le_of_ble_eq_true rfl) (by decide) (ent_1 K _) rfl rfl rfl (Nat.le_of_ble_eq_true rfl) rfl (Nat.le_of_ble_eq_true rfl) (Nat.le_of_ble_eq_true rfl)) (fun r100 M100 => ?_)
  refine V_iload_n hX (j := 1) (hj := rfl) 52 104 rfl rfl ?_
  exact V_iret hX 53 rfl (Nat.le_of_ble_eq_true rfl) (Nat.le_of_ble_eq_true rfl) rfl
set_option maxRecDepth 20000 in
theorem bt_SA_execute_132 {l : Launch} {K : KT} {X : XT} (hX : Cx l K 9 9 0 0 X prog_1_method_64_code "SeriesArchive" (some .int) [] L_SA_execute) (M : Mm) : VV l K 9 9 0 0 rvI X (fn_SA_execute_132 M) 0 0 M 132 [(0, .ref (kA K 0))] [] := by
  unfold fn_SA_execute_132
  refine V_aload_n hX (j := 0) (hj := rfl) 68 133 rfl rfl ?_
  refine V_get hX 69 136 0 (.ref (kA K 12)) fl_SA_19 rfl rfl (by decide) (ent_0 K _) rfl ?_
  refine V_aload_n hX (j := 0) (hj := rfl) 70 137 rfl rfl ?_
  refine V_get hX 71 140 0 (.ref (kA K 15)) fl_SA_27 rfl rfl (by decide) (ent_0 K _) rfl ?_
  refine V_callU hX 143 0 0 rfl rfl rfl (Nat.le_of_ble_eq_true rfl) (Nat.le_of_ble_eq_true rfl) (VR_V hX 72 (ct_Hi_keepRow (cx_t hX) K 15 M) my_Hi_keepRow mi_Hi_keepRow ms_Hi_keepRow ml_SA_423 (Nat.le_of_ble_eq_true rfl) (Nat.le_of_ble_eq_true rfl) (by decide) (ent_12 K _) rfl rfl rfl (Nat.le_of_ble_eq_true rfl) rfl (Nat.le_of_ble_eq_true rfl) (Nat.le_of_ble_eq_true rfl)) (fun r140 M140 => ?_)
  refine V_iconst hX (v := (-1)) (hv := by decide) 73 144 rfl rfl ?_
  exact V_iret hX 74 rfl (Nat.le_of_ble_eq_true rfl) (Nat.le_of_ble_eq_true rfl) rfl
set_option maxRecDepth 20000 in
theorem bt_SA_execute_16 {l : Launch} {K : KT} {X : XT} (hX : Cx l K 9 9 0 0 X prog_1_method_64_code "SeriesArchive" (some .int) [] L_SA_execute) (v1 : Int32) : ∀ (n : Nat) (v2 : Int32) (v3 : Int32) (M : Mm), VV l K 9 9 0 0 rvI X (fn_SA_execute_16 v1 n v2 v3 M) 0 0 M 16 [(0, .ref (kA K 0)), (1, .int v1), (2, .int v2), (3, .int v3)] [] := by
  intro n
  induction n with
  | zero => intro v2 v3 M; exact VV_none
  | succ n ih =>
    intro v2 v3 M
    rw [fn_SA_execute_16]
    refine V_iload_n hX (j := 3) (hj := rfl) 10 17 rfl rfl ?_
    refine V_iload_n hX (j := 1) (hj := rfl) 11 18 rfl rfl ?_
    refine V_icmp_ge hX 12 21 132 rfl rfl (by decide) (fun c18 => ?_) (fun c18 => ?_)
    · refine VV_sub [0] rfl ?_
      exact bt_SA_execute_132 hX M
    · refine V_aload_n hX (j := 0) (hj := rfl) 13 22 rfl rfl ?_
      refine V_get hX 14 25 0 (.ref (kA K 16)) fl_SA_33 rfl rfl (by decide) (ent_0 K _) rfl ?_
      refine V_iload_n hX (j := 2) (hj := rfl) 15 26 rfl rfl ?_
      refine V_callI hX 29 0 0 rfl rfl rfl (Nat.le_of_ble_eq_true rfl) (Nat.le_of_ble_eq_true rfl) (VR_V hX 16 (ct_In_readCommand (cx_t hX) K v2 M) my_In_readCommand mi_In_readCommand ms_In_readCommand ml_SA_410 (Nat.le_of_ble_eq_true rfl) (Nat.le_of_ble_eq_true rfl) (by decide) (ent_16 K _) rfl rfl rfl (Nat.le_of_ble_eq_true rfl) rfl (Nat.le_of_ble_eq_true rfl) (Nat.le_of_ble_eq_true rfl)) (fun r26 M26 => ?_)
      refine V_istore hX 17 31 [(4, .int r26), (0, .ref (kA K 0)), (1, .int v1), (2, .int v2), (3, .int v3)] rfl rfl (Nat.le_of_ble_eq_true rfl) rfl ?_
      refine V_aload_n hX (j := 1) (hj := rfl) 18 32 rfl rfl ?_
      refine V_get hX 19 35 0 (.ref (kA K 16)) fl_SA_33 rfl rfl (by decide) (ent_0 K _) rfl ?_
      refine V_callL hX 38 0 0 rfl rfl rfl (Nat.le_of_ble_eq_true rfl) (Nat.le_of_ble_eq_true rfl) (VR_V hX 20 (ct_In_kind (cx_t hX) K M26) my_In_kind mi_In_kind ms_In_kind ml_SA_413 (Nat.le_of_ble_eq_true rfl) (Nat.le_of_ble_eq_true rfl) (by decide) (ent_16 K _) rfl rfl rfl (Nat.le_of_ble_eq_true rfl) rfl (Nat.le_of_ble_eq_true rfl) (Nat.le_of_ble_eq_true rfl)) (fun r35 M35 => VV_grd (fun hr35 => ?_))
      refine V_astore hX 21 40 [(5, .ref (kA K (1000 + r35))), (4, .int r26), (0, .ref (kA K 0)), (1, .int v1), (2, .int v2), (3, .int v3)] rfl rfl (Nat.le_of_ble_eq_true rfl) rfl ?_
      refine V_aload_n hX (j := 2) (hj := rfl) 22 41 rfl rfl ?_
      refine V_get hX 23 44 0 (.ref (kA K 16)) fl_SA_33 rfl rfl (by decide) (ent_0 K _) rfl ?_
      refine V_iconst hX (v := 0) (hv := by decide) 24 45 rfl rfl ?_
      refine V_callI hX 48 0 0 rfl rfl rfl (Nat.le_of_ble_eq_true rfl) (Nat.le_of_ble_eq_true rfl) (VR_V hX 25 (ct_In_argument (cx_t hX) K 0 M35) my_In_argument mi_In_argument ms_In_argument ml_SA_417 (Nat.le_of_ble_eq_true rfl) (Nat.le_of_ble_eq_true rfl) (by decide) (ent_16 K _) rfl rfl rfl (Nat.le_of_ble_eq_true rfl) rfl (Nat.le_of_ble_eq_true rfl) (Nat.le_of_ble_eq_true rfl)) (fun r45 M45 => ?_)
      refine V_istore hX 26 50 [(6, .int r45), (5, .ref (kA K (1000 + r35))), (4, .int r26), (0, .ref (kA K 0)), (1, .int v1), (2, .int v2), (3, .int v3)] rfl rfl (Nat.le_of_ble_eq_true rfl) rfl ?_
      refine V_aload_n hX (j := 3) (hj := rfl) 27 51 rfl rfl ?_
      refine V_get hX 28 54 0 (.ref (kA K 16)) fl_SA_33 rfl rfl (by decide) (ent_0 K _) rfl ?_
      refine V_iconst hX (v := 1) (hv := by decide) 29 55 rfl rfl ?_
      refine V_callI hX 58 0 0 rfl rfl rfl (Nat.le_of_ble_eq_true rfl) (Nat.le_of_ble_eq_true rfl) (VR_V hX 30 (ct_In_argument (cx_t hX) K 1 M45) my_In_argument mi_In_argument ms_In_argument ml_SA_417 (Nat.le_of_ble_eq_true rfl) (Nat.le_of_ble_eq_true rfl) (by decide) (ent_16 K _) rfl rfl rfl (Nat.le_of_ble_eq_true rfl) rfl (Nat.le_of_ble_eq_true rfl) (Nat.le_of_ble_eq_true rfl)) (fun r55 M55 => ?_)
      refine V_istore hX 31 60 [(7, .int r55), (6, .int r45), (5, .ref (kA K (1000 + r35))), (4, .int r26), (0, .ref (kA K 0)), (1, .int v1), (2, .int v2), (3, .int v3)] rfl rfl (Nat.le_of_ble_eq_true rfl) rfl ?_
      refine V_aload_n hX (j := 4) (hj := rfl) 32 61 rfl rfl ?_
      refine V_get hX 33 64 0 (.ref (kA K 16)) fl_SA_33 rfl rfl (by decide) (ent_0 K _) rfl ?_
      refine V_iconst hX (v := 2) (hv := by decide) 34 65 rfl rfl ?_
      refine V_callI hX 68 0 0 rfl rfl rfl (Nat.le_of_ble_eq_true rfl) (Nat.le_of_ble_eq_true rfl) (VR_V hX 35 (ct_In_argument (cx_t hX) K 2 M55) my_In_argument mi_In_argument ms_In_argument ml_SA_417 (Nat.le_of_ble_eq_true rfl) (Nat.le_of_ble_eq_true rfl) (by decide) (ent_16 K _) rfl rfl rfl (Nat.le_of_ble_eq_true rfl) rfl (Nat.le_of_ble_eq_true rfl) (Nat.le_of_ble_eq_true rfl)) (fun r65 M65 => ?_)
      refine V_istore hX 36 70 [(8, .int r65), (7, .int r55), (6, .int r45), (5, .ref (kA K (1000 + r35))), (4, .int r26), (0, .ref (kA K 0)), (1, .int v1), (2, .int v2), (3, .int v3)] rfl rfl (Nat.le_of_ble_eq_true rfl) rfl ?_
      refine V_aload_n hX (j := 5) (hj := rfl) 37 71 rfl rfl ?_
      refine V_get hX 38 74 0 (.ref (kA K 1)) fl_SA_12 rfl rfl (by decide) (ent_0 K _) rfl ?_
      refine V_aload hX (j := 3) (hj := rfl) 39 76 rfl rfl ?_
      refine V_iload hX (j := 2) (hj := rfl) 40 78 rfl rfl ?_
      refine V_iload hX (j := 1) (hj := rfl) 41 80 rfl rfl ?_
      refine V_iload hX (j := 0) (hj := rfl) 42 82 rfl rfl ?_
      refine V_callL hX 85 0 0 rfl rfl rfl (Nat.le_of_ble_eq_true rfl) (Nat.le_of_ble_eq_true rfl) (VR_V hX 43 (ct_St_faultOf (cx_t hX) K r35 r45 r55 r65 M65) my_St_faultOf mi_St_faultOf ms_St_faultOf ml_SA_378 (Nat.le_of_ble_eq_true rfl) (Nat.le_of_ble_eq_true rfl) (by decide) (ent_1 K _) rfl rfl rfl (Nat.le_of_ble_eq_true rfl) rfl (Nat.le_of_ble_eq_true rfl) (Nat.le_of_ble_eq_true rfl)) (fun r82 M82 => VV_grd (fun hr82 => ?_))
      refine V_fault hX 44 88 0 (by decide) rfl fk_SA_420 rfl rfl ?_
      refine V_acmpE hX 45 91 105 hr82 (by decide) rfl rfl (by decide) (fun c88 => ?_) (fun c88 => ?_)
      · refine V_aload_n hX (j := 5) (hj := rfl) 54 106 rfl rfl ?_
        refine V_get hX 55 109 0 (.ref (kA K 1)) fl_SA_12 rfl rfl (by decide) (ent_0 K _) rfl ?_
        refine V_aload hX (j := 3) (hj := rfl) 56 111 rfl rfl ?_
        refine V_iload hX (j := 2) (hj := rfl) 57 113 rfl rfl ?_
        refine V_iload hX (j := 1) (hj := rfl) 58 115 rfl rfl ?_
        refine V_iload hX (j := 0) (hj := rfl) 59 117 rfl rfl ?_
        refine V_callI hX 120 0 0 rfl rfl rfl (Nat.le_of_ble_eq_true rfl) (Nat.le_of_ble_eq_true rfl) (VR_V hX 60 (ct_St_apply (cx_t hX) K r35 r45 r55 r65 M82) my_St_apply mi_St_apply ms_St_apply ml_SA_389 (Nat.le_of_ble_eq_true rfl) (Nat.le_of_ble_eq_true rfl) (by decide) (ent_1 K _) rfl rfl rfl (Nat.le_of_ble_eq_true rfl) rfl (Nat.le_of_ble_eq_true rfl) (Nat.le_of_ble_eq_true rfl)) (fun r117 M117 => ?_)
        refine V_pop hX (hc := rfl) 61 121 rfl rfl ?_
        refine V_iload hX (j := 4) (hj := rfl) 62 123 rfl rfl ?_
        refine V_iconst hX (v := 1) (hv := by decide) 63 124 rfl rfl ?_
        refine V_iadd hX 64 125 rfl rfl ?_
        refine VV_li (fun x2_125 hx2_125 => ?_)
        refine V_istore_n hX 65 126 [(2, .int x2_125), (8, .int r65), (7, .int r55), (6, .int r45), (5, .ref (kA K (1000 + r35))), (4, .int r26), (0, .ref (kA K 0)), (1, .int v1), (3, .int v3)] rfl rfl (Nat.le_of_ble_eq_true rfl) rfl ?_
        refine V_iincL hX 66 129 8 rfl rfl rfl rfl (Nat.le_of_ble_eq_true rfl) (fun x3_126 hx3_126 => ?_)
        refine VV_lc [(3, .int x3_126), (2, .int x2_125), (8, .int r65), (7, .int r55), (6, .int r45), (5, .ref (kA K (1000 + r35))), (4, .int r26), (0, .ref (kA K 0)), (1, .int v1)] rfl ?_
        refine V_goto hX 67 16 rfl (by decide) ?_
        refine VV_sub [7, 8, 1, 0] rfl ?_
        exact ih x2_125 x3_126 M117
      · refine VV_sub [5, 8] rfl ?_
        exact bt_SA_execute_91 hX v3 M82
set_option maxRecDepth 20000 in
theorem ct_SA_execute {l : Launch} (hl : l.stackTraces = false) (K : KT) (v1 : Int32) (M : Mm) : CTp l K y_SA_execute (Cond.code y_SA_execute prog_1_method_64_code 9 (some .int)) rvI 9 0 0 [.ref (kA K 0), .int v1] M (fn_SA_execute v1 M) := by
  refine CTp_of (L := L_SA_execute) (lc := [(0, .ref (kA K 0)), (1, .int v1)]) (by decide +kernel) dec_SA_execute hl rfl (Nat.le_of_ble_eq_true rfl) (fun X hX => ?_)
  unfold fn_SA_execute
  refine V_aload_n hX (j := 0) (hj := rfl) 0 1 rfl rfl ?_
  refine V_get hX 1 4 0 (.ref (kA K 1)) fl_SA_12 rfl rfl (by decide) (ent_0 K _) rfl ?_
  refine V_aload_n hX (j := 0) (hj := rfl) 2 5 rfl rfl ?_
  refine V_get hX 3 8 0 (.ref (kA K 15)) fl_SA_27 rfl rfl (by decide) (ent_0 K _) rfl ?_
  refine V_iconst hX (v := 0) (hv := by decide) 4 9 rfl rfl ?_
  refine V_callU hX 12 0 0 rfl rfl rfl (Nat.le_of_ble_eq_true rfl) (Nat.le_of_ble_eq_true rfl) (VR_V hX 5 (ct_St_store (cx_t hX) K 15 0 M) my_St_store mi_St_store ms_St_store ml_SA_364 (Nat.le_of_ble_eq_true rfl) (Nat.le_of_ble_eq_true rfl) (by decide) (ent_1 K _) rfl rfl rfl (Nat.le_of_ble_eq_true rfl) rfl (Nat.le_of_ble_eq_true rfl) (Nat.le_of_ble_eq_true rfl)) (fun r9 M9 => ?_)
  refine V_iconst hX (v := 0) (hv := by decide) 6 13 rfl rfl ?_
  refine V_istore_n hX 7 14 [(2, .int 0), (0, .ref (kA K 0)), (1, .int v1)] rfl rfl (Nat.le_of_ble_eq_true rfl) rfl ?_
  refine V_iconst hX (v := 0) (hv := by decide) 8 15 rfl rfl ?_
  refine V_istore_n hX 9 16 [(3, .int 0), (2, .int 0), (0, .ref (kA K 0)), (1, .int v1)] rfl rfl (Nat.le_of_ble_eq_true rfl) rfl ?_
  refine VV_sub [2, 3, 1, 0] rfl ?_
  exact bt_SA_execute_16 hX v1 fuel0 0 0 M9
set_option maxRecDepth 20000 in
theorem ct_SA_run {l : Launch} (hl : l.stackTraces = false) (K : KT) (M : Mm) : CTp l K y_SA_run (Cond.code y_SA_run prog_1_method_55_code 3 (some .int)) rvI 10 1 6 [.ref (kA K 0)] M (fn_SA_run M) := by
  refine CTp_of (L := L_SA_run) (lc := [(0, .ref (kA K 0))]) (by decide +kernel) dec_SA_run hl rfl (Nat.le_of_ble_eq_true rfl) (fun X hX => ?_)
  unfold fn_SA_run
  refine V_aload_n hX (j := 0) (hj := rfl) 0 1 rfl rfl ?_
  refine V_get hX 1 4 0 (.ref (kA K 16)) fl_SA_33 rfl rfl (by decide) (ent_0 K _) rfl ?_
  refine V_callI hX 7 0 0 rfl rfl rfl (Nat.le_of_ble_eq_true rfl) (Nat.le_of_ble_eq_true rfl) (VR_V hX 2 (ct_In_countCommands (cx_t hX) K M) my_In_countCommands mi_In_countCommands ms_In_countCommands ml_SA_341 (Nat.le_of_ble_eq_true rfl) (Nat.le_of_ble_eq_true rfl) (by decide) (ent_16 K _) rfl rfl rfl (Nat.le_of_ble_eq_true rfl) rfl (Nat.le_of_ble_eq_true rfl) (Nat.le_of_ble_eq_true rfl)) (fun r4 M4 => ?_)
  refine V_istore_n hX 3 8 [(1, .int r4), (0, .ref (kA K 0))] rfl rfl (Nat.le_of_ble_eq_true rfl) rfl ?_
  refine V_iload_n hX (j := 0) (hj := rfl) 4 9 rfl rfl ?_
  refine V_iconst hX (v := (-1)) (hv := by decide) 5 10 rfl rfl ?_
  refine V_icmp_ne hX 6 13 42 rfl rfl (by decide) (fun c10 => ?_) (fun c10 => ?_)
  · refine V_aload_n hX (j := 1) (hj := rfl) 20 43 rfl rfl ?_
    refine V_iload_n hX (j := 0) (hj := rfl) 21 44 rfl rfl ?_
    refine V_callI hX 47 0 0 rfl rfl rfl (Nat.le_of_ble_eq_true rfl) (Nat.le_of_ble_eq_true rfl) (VR_V hX 22 (ct_SA_execute (cx_t hX) K r4 M4) my_SA_execute mi_SA_execute ms_SA_execute ml_SA_352 (Nat.le_of_ble_eq_true rfl) (Nat.le_of_ble_eq_true rfl) (by decide) (ent_0 K _) rfl rfl rfl (Nat.le_of_ble_eq_true rfl) rfl (Nat.le_of_ble_eq_true rfl) (Nat.le_of_ble_eq_true rfl)) (fun r44 M44 => ?_)
    refine V_istore_n hX 23 48 [(2, .int r44), (1, .int r4), (0, .ref (kA K 0))] rfl rfl (Nat.le_of_ble_eq_true rfl) rfl ?_
    refine V_aload_n hX (j := 2) (hj := rfl) 24 49 rfl rfl ?_
    refine V_get hX 25 52 0 (.ref (kA K 16)) fl_SA_33 rfl rfl (by decide) (ent_0 K _) rfl ?_
    refine V_callU hX 55 0 0 rfl rfl rfl (Nat.le_of_ble_eq_true rfl) (Nat.le_of_ble_eq_true rfl) (VR_V hX 26 (ct_In_clear (cx_t hX) K M44) my_In_clear mi_In_clear ms_In_clear ml_SA_347 (Nat.le_of_ble_eq_true rfl) (Nat.le_of_ble_eq_true rfl) (by decide) (ent_16 K _) rfl rfl rfl (Nat.le_of_ble_eq_true rfl) rfl (Nat.le_of_ble_eq_true rfl) (Nat.le_of_ble_eq_true rfl)) (fun r52 M52 => ?_)
    refine V_iload_n hX (j := 0) (hj := rfl) 27 56 rfl rfl ?_
    refine V_iconst hX (v := (-1)) (hv := by decide) 28 57 rfl rfl ?_
    refine V_icmp_eq hX 29 60 76 rfl rfl (by decide) (fun c57 => ?_) (fun c57 => ?_)
    · refine V_iload_n hX (j := 1) (hj := rfl) 38 77 rfl rfl ?_
      exact V_iret hX 39 rfl (Nat.le_of_ble_eq_true rfl) (Nat.le_of_ble_eq_true rfl) rfl
    · refine V_aload_n hX (j := 2) (hj := rfl) 30 61 rfl rfl ?_
      refine V_iload_n hX (j := 0) (hj := rfl) 31 62 rfl rfl ?_
      refine V_putI hX 32 65 0 fp_SA_41 (by decide) rfl rfl (by decide) (ent_0 K _) (Nat.le_of_ble_eq_true rfl) (ent_0 K _) (fun M62 hM62 => ?_)
      exact V_throw hX 33 2 th_2_332_336 tx_355 (Nat.le_of_ble_eq_true rfl) (Nat.le_of_ble_eq_true rfl) (Nat.le_of_ble_eq_true rfl) (Nat.le_of_ble_eq_true rfl) rfl rfl rfl rfl rfl
  · refine V_aload_n hX (j := 1) (hj := rfl) 7 14 rfl rfl ?_
    refine V_aload_n hX (j := 1) (hj := rfl) 8 15 rfl rfl ?_
    refine V_get hX 9 18 0 (.ref (kA K 16)) fl_SA_33 rfl rfl (by decide) (ent_0 K _) rfl ?_
    refine V_callI hX 21 0 0 rfl rfl rfl (Nat.le_of_ble_eq_true rfl) (Nat.le_of_ble_eq_true rfl) (VR_V hX 10 (ct_In_errorPlace (cx_t hX) K M4) my_In_errorPlace mi_In_errorPlace ms_In_errorPlace ml_SA_344 (Nat.le_of_ble_eq_true rfl) (Nat.le_of_ble_eq_true rfl) (by decide) (ent_16 K _) rfl rfl rfl (Nat.le_of_ble_eq_true rfl) rfl (Nat.le_of_ble_eq_true rfl) (Nat.le_of_ble_eq_true rfl)) (fun r18 M18 => ?_)
    refine V_putI hX 11 24 0 fp_SA_37 (by decide) rfl rfl (by decide) (ent_0 K _) (Nat.le_of_ble_eq_true rfl) (ent_0 K _) (fun M21 hM21 => ?_)
    refine V_aload_n hX (j := 1) (hj := rfl) 12 25 rfl rfl ?_
    refine V_get hX 13 28 0 (.ref (kA K 16)) fl_SA_33 rfl rfl (by decide) (ent_0 K _) rfl ?_
    refine V_callU hX 31 0 0 rfl rfl rfl (Nat.le_of_ble_eq_true rfl) (Nat.le_of_ble_eq_true rfl) (VR_V hX 14 (ct_In_clear (cx_t hX) K M21) my_In_clear mi_In_clear ms_In_clear ml_SA_347 (Nat.le_of_ble_eq_true rfl) (Nat.le_of_ble_eq_true rfl) (by decide) (ent_16 K _) rfl rfl rfl (Nat.le_of_ble_eq_true rfl) rfl (Nat.le_of_ble_eq_true rfl) (Nat.le_of_ble_eq_true rfl)) (fun r28 M28 => ?_)
    exact V_throw hX 15 1 th_1_324_328 tx_350 (Nat.le_of_ble_eq_true rfl) (Nat.le_of_ble_eq_true rfl) (Nat.le_of_ble_eq_true rfl) (Nat.le_of_ble_eq_true rfl) rfl rfl rfl rfl rfl
set_option maxRecDepth 20000 in
theorem ct_SA_errorPosition {l : Launch} (hl : l.stackTraces = false) (K : KT) (M : Mm) : CTp l K y_SA_errorPosition (Cond.code y_SA_errorPosition prog_1_method_56_code 1 (some .int)) rvI 10 1 6 [.ref (kA K 0)] M (fn_SA_errorPosition M) := by
  refine CTp_of (L := L_SA_errorPosition) (lc := [(0, .ref (kA K 0))]) (by decide +kernel) dec_SA_errorPosition hl rfl (Nat.le_of_ble_eq_true rfl) (fun X hX => ?_)
  unfold fn_SA_errorPosition
  refine V_aload_n hX (j := 0) (hj := rfl) 0 1 rfl rfl ?_
  refine V_get hX 1 4 0 (.int (M 0 6)) fl_SA_37 rfl rfl (by decide) (ent_0 K _) rfl ?_
  refine V_callI hX 7 1 6 rfl rfl rfl (Nat.le_of_ble_eq_true rfl) (Nat.le_of_ble_eq_true rfl) (VR_S hX 2 (ct_SA_found (cx_t hX) K (M 0 6) M) my_SA_found mt_SA_found ml_SA_185 (Nat.le_of_ble_eq_true rfl) (Nat.le_of_ble_eq_true rfl) rfl rfl (Nat.le_of_ble_eq_true rfl) rfl (Nat.le_of_ble_eq_true rfl) (Nat.le_of_ble_eq_true rfl)) (fun r4 M4 => ?_)
  exact V_iret hX 3 rfl (Nat.le_of_ble_eq_true rfl) (Nat.le_of_ble_eq_true rfl) rfl
set_option maxRecDepth 20000 in
theorem ct_SA_failedCommand {l : Launch} (hl : l.stackTraces = false) (K : KT) (M : Mm) : CTp l K y_SA_failedCommand (Cond.code y_SA_failedCommand prog_1_method_57_code 1 (some .int)) rvI 10 1 6 [.ref (kA K 0)] M (fn_SA_failedCommand M) := by
  refine CTp_of (L := L_SA_failedCommand) (lc := [(0, .ref (kA K 0))]) (by decide +kernel) dec_SA_failedCommand hl rfl (Nat.le_of_ble_eq_true rfl) (fun X hX => ?_)
  unfold fn_SA_failedCommand
  refine V_aload_n hX (j := 0) (hj := rfl) 0 1 rfl rfl ?_
  refine V_get hX 1 4 0 (.int (M 0 7)) fl_SA_41 rfl rfl (by decide) (ent_0 K _) rfl ?_
  refine V_callI hX 7 1 6 rfl rfl rfl (Nat.le_of_ble_eq_true rfl) (Nat.le_of_ble_eq_true rfl) (VR_S hX 2 (ct_SA_found (cx_t hX) K (M 0 7) M) my_SA_found mt_SA_found ml_SA_185 (Nat.le_of_ble_eq_true rfl) (Nat.le_of_ble_eq_true rfl) rfl rfl (Nat.le_of_ble_eq_true rfl) rfl (Nat.le_of_ble_eq_true rfl) (Nat.le_of_ble_eq_true rfl)) (fun r4 M4 => ?_)
  exact V_iret hX 3 rfl (Nat.le_of_ble_eq_true rfl) (Nat.le_of_ble_eq_true rfl) rfl
set_option maxRecDepth 20000 in
theorem ct_SA_undoableCount {l : Launch} (hl : l.stackTraces = false) (K : KT) (M : Mm) : CTp l K y_SA_undoableCount (Cond.code y_SA_undoableCount prog_1_method_58_code 1 (some .int)) rvI 2 0 0 [.ref (kA K 0)] M (fn_SA_undoableCount M) := by
  refine CTp_of (L := L_SA_undoableCount) (lc := [(0, .ref (kA K 0))]) (by decide +kernel) dec_SA_undoableCount hl rfl (Nat.le_of_ble_eq_true rfl) (fun X hX => ?_)
  unfold fn_SA_undoableCount
  refine V_aload_n hX (j := 0) (hj := rfl) 0 1 rfl rfl ?_
  refine V_get hX 1 4 0 (.ref (kA K 12)) fl_SA_19 rfl rfl (by decide) (ent_0 K _) rfl ?_
  refine V_callI hX 7 0 0 rfl rfl rfl (Nat.le_of_ble_eq_true rfl) (Nat.le_of_ble_eq_true rfl) (VR_V hX 2 (ct_Hi_size (cx_t hX) K M) my_Hi_size mi_Hi_size ms_Hi_size ml_SA_357 (Nat.le_of_ble_eq_true rfl) (Nat.le_of_ble_eq_true rfl) (by decide) (ent_12 K _) rfl rfl rfl (Nat.le_of_ble_eq_true rfl) rfl (Nat.le_of_ble_eq_true rfl) (Nat.le_of_ble_eq_true rfl)) (fun r4 M4 => ?_)
  exact V_iret hX 3 rfl (Nat.le_of_ble_eq_true rfl) (Nat.le_of_ble_eq_true rfl) rfl
set_option maxRecDepth 20000 in
theorem ct_SA_undo {l : Launch} (hl : l.stackTraces = false) (K : KT) (M : Mm) : CTp l K y_SA_undo (Cond.code y_SA_undo prog_1_method_59_code 1 (some .int)) rvI 9 1 6 [.ref (kA K 0)] M (fn_SA_undo M) := by
  refine CTp_of (L := L_SA_undo) (lc := [(0, .ref (kA K 0))]) (by decide +kernel) dec_SA_undo hl rfl (Nat.le_of_ble_eq_true rfl) (fun X hX => ?_)
  unfold fn_SA_undo
  refine V_aload_n hX (j := 0) (hj := rfl) 0 1 rfl rfl ?_
  refine V_get hX 1 4 0 (.ref (kA K 12)) fl_SA_19 rfl rfl (by decide) (ent_0 K _) rfl ?_
  refine V_callI hX 7 0 0 rfl rfl rfl (Nat.le_of_ble_eq_true rfl) (Nat.le_of_ble_eq_true rfl) (VR_V hX 2 (ct_Hi_size (cx_t hX) K M) my_Hi_size mi_Hi_size ms_Hi_size ml_SA_357 (Nat.le_of_ble_eq_true rfl) (Nat.le_of_ble_eq_true rfl) (by decide) (ent_12 K _) rfl rfl rfl (Nat.le_of_ble_eq_true rfl) rfl (Nat.le_of_ble_eq_true rfl) (Nat.le_of_ble_eq_true rfl)) (fun r4 M4 => ?_)
  refine V_iconst hX (v := 1) (hv := by decide) 3 8 rfl rfl ?_
  refine V_icmp_ge hX 4 11 22 rfl rfl (by decide) (fun c8 => ?_) (fun c8 => ?_)
  · refine V_aload_n hX (j := 0) (hj := rfl) 10 23 rfl rfl ?_
    refine V_get hX 11 26 0 (.ref (kA K 12)) fl_SA_19 rfl rfl (by decide) (ent_0 K _) rfl ?_
    refine V_aload_n hX (j := 0) (hj := rfl) 12 27 rfl rfl ?_
    refine V_get hX 13 30 0 (.ref (kA K 1)) fl_SA_12 rfl rfl (by decide) (ent_0 K _) rfl ?_
    refine V_callU hX 33 0 0 rfl rfl rfl (Nat.le_of_ble_eq_true rfl) (Nat.le_of_ble_eq_true rfl) (VR_V hX 14 (ct_Hi_takeBack (cx_t hX) K M4) my_Hi_takeBack mi_Hi_takeBack ms_Hi_takeBack ml_SA_360 (Nat.le_of_ble_eq_true rfl) (Nat.le_of_ble_eq_true rfl) (by decide) (ent_12 K _) rfl rfl rfl (Nat.le_of_ble_eq_true rfl) rfl (Nat.le_of_ble_eq_true rfl) (Nat.le_of_ble_eq_true rfl)) (fun r30 M30 => ?_)
    refine V_aload_n hX (j := 0) (hj := rfl) 15 34 rfl rfl ?_
    refine V_get hX 16 37 0 (.ref (kA K 12)) fl_SA_19 rfl rfl (by decide) (ent_0 K _) rfl ?_
    refine V_callI hX 40 0 0 rfl rfl rfl (Nat.le_of_ble_eq_true rfl) (Nat.le_of_ble_eq_true rfl) (VR_V hX 17 (ct_Hi_size (cx_t hX) K M30) my_Hi_size mi_Hi_size ms_Hi_size ml_SA_357 (Nat.le_of_ble_eq_true rfl) (Nat.le_of_ble_eq_true rfl) (by decide) (ent_12 K _) rfl rfl rfl (Nat.le_of_ble_eq_true rfl) rfl (Nat.le_of_ble_eq_true rfl) (Nat.le_of_ble_eq_true rfl)) (fun r37 M37 => ?_)
    exact V_iret hX 18 rfl (Nat.le_of_ble_eq_true rfl) (Nat.le_of_ble_eq_true rfl) rfl
  · exact V_throw hX 5 2 th_2_332_336 tx_358 (Nat.le_of_ble_eq_true rfl) (Nat.le_of_ble_eq_true rfl) (Nat.le_of_ble_eq_true rfl) (Nat.le_of_ble_eq_true rfl) rfl rfl rfl rfl rfl
set_option maxRecDepth 20000 in
theorem ct_SA_save {l : Launch} (hl : l.stackTraces = false) (K : KT) (M : Mm) : CTp l K y_SA_save (Cond.code y_SA_save prog_1_method_60_code 1 (some .int)) rvI 4 0 0 [.ref (kA K 0)] M (fn_SA_save M) := by
  refine CTp_of (L := L_SA_save) (lc := [(0, .ref (kA K 0))]) (by decide +kernel) dec_SA_save hl rfl (Nat.le_of_ble_eq_true rfl) (fun X hX => ?_)
  unfold fn_SA_save
  refine V_aload_n hX (j := 0) (hj := rfl) 0 1 rfl rfl ?_
  refine V_get hX 1 4 0 (.ref (kA K 1)) fl_SA_12 rfl rfl (by decide) (ent_0 K _) rfl ?_
  refine V_aload_n hX (j := 0) (hj := rfl) 2 5 rfl rfl ?_
  refine V_get hX 3 8 0 (.ref (kA K 14)) fl_SA_23 rfl rfl (by decide) (ent_0 K _) rfl ?_
  refine V_iconst hX (v := 0) (hv := by decide) 4 9 rfl rfl ?_
  refine V_callU hX 12 0 0 rfl rfl rfl (Nat.le_of_ble_eq_true rfl) (Nat.le_of_ble_eq_true rfl) (VR_V hX 5 (ct_St_store (cx_t hX) K 14 0 M) my_St_store mi_St_store ms_St_store ml_SA_364 (Nat.le_of_ble_eq_true rfl) (Nat.le_of_ble_eq_true rfl) (by decide) (ent_1 K _) rfl rfl rfl (Nat.le_of_ble_eq_true rfl) rfl (Nat.le_of_ble_eq_true rfl) (Nat.le_of_ble_eq_true rfl)) (fun r9 M9 => ?_)
  refine V_aload_n hX (j := 0) (hj := rfl) 6 13 rfl rfl ?_
  refine V_iconst hX (v := 1) (hv := by decide) 7 14 rfl rfl ?_
  refine V_putZ hX 8 17 0 fp_SA_368 (by decide) (by decide) rfl rfl (by decide) (ent_0 K _) (Nat.le_of_ble_eq_true rfl) (ent_0 K _) (fun M14 hM14 => ?_)
  refine V_aload_n hX (j := 0) (hj := rfl) 9 18 rfl rfl ?_
  refine V_get hX 10 21 0 (.ref (kA K 1)) fl_SA_12 rfl rfl (by decide) (ent_0 K _) rfl ?_
  refine V_callI hX 24 0 0 rfl rfl rfl (Nat.le_of_ble_eq_true rfl) (Nat.le_of_ble_eq_true rfl) (VR_V hX 11 (ct_St_valueCount (cx_t hX) K M14) my_St_valueCount mi_St_valueCount ms_St_valueCount ml_SA_283 (Nat.le_of_ble_eq_true rfl) (Nat.le_of_ble_eq_true rfl) (by decide) (ent_1 K _) rfl rfl rfl (Nat.le_of_ble_eq_true rfl) rfl (Nat.le_of_ble_eq_true rfl) (Nat.le_of_ble_eq_true rfl)) (fun r21 M21 => ?_)
  exact V_iret hX 12 rfl (Nat.le_of_ble_eq_true rfl) (Nat.le_of_ble_eq_true rfl) rfl
set_option maxRecDepth 20000 in
theorem ct_SA_restore {l : Launch} (hl : l.stackTraces = false) (K : KT) (M : Mm) : CTp l K y_SA_restore (Cond.code y_SA_restore prog_1_method_61_code 1 (some .int)) rvI 9 1 6 [.ref (kA K 0)] M (fn_SA_restore M) := by
  refine CTp_of (L := L_SA_restore) (lc := [(0, .ref (kA K 0))]) (by decide +kernel) dec_SA_restore hl rfl (Nat.le_of_ble_eq_true rfl) (fun X hX => ?_)
  unfold fn_SA_restore
  refine V_aload_n hX (j := 0) (hj := rfl) 0 1 rfl rfl ?_
  refine V_get hX 1 4 0 (.int (M 0 3)) fl_SA_368 rfl rfl (by decide) (ent_0 K _) rfl ?_
  refine V_if_ne hX 2 7 18 rfl rfl (by decide) (fun c4 => ?_) (fun c4 => ?_)
  · refine V_aload_n hX (j := 0) (hj := rfl) 8 19 rfl rfl ?_
    refine V_get hX 9 22 0 (.ref (kA K 1)) fl_SA_12 rfl rfl (by decide) (ent_0 K _) rfl ?_
    refine V_aload_n hX (j := 0) (hj := rfl) 10 23 rfl rfl ?_
    refine V_get hX 11 26 0 (.ref (kA K 14)) fl_SA_23 rfl rfl (by decide) (ent_0 K _) rfl ?_
    refine V_iconst hX (v := 0) (hv := by decide) 12 27 rfl rfl ?_
    refine V_callU hX 30 0 0 rfl rfl rfl (Nat.le_of_ble_eq_true rfl) (Nat.le_of_ble_eq_true rfl) (VR_V hX 13 (ct_St_load (cx_t hX) K 14 0 M) my_St_load mi_St_load ms_St_load ml_SA_374 (Nat.le_of_ble_eq_true rfl) (Nat.le_of_ble_eq_true rfl) (by decide) (ent_1 K _) rfl rfl rfl (Nat.le_of_ble_eq_true rfl) rfl (Nat.le_of_ble_eq_true rfl) (Nat.le_of_ble_eq_true rfl)) (fun r27 M27 => ?_)
    refine V_aload_n hX (j := 0) (hj := rfl) 14 31 rfl rfl ?_
    refine V_get hX 15 34 0 (.ref (kA K 12)) fl_SA_19 rfl rfl (by decide) (ent_0 K _) rfl ?_
    refine V_callU hX 37 0 0 rfl rfl rfl (Nat.le_of_ble_eq_true rfl) (Nat.le_of_ble_eq_true rfl) (VR_V hX 16 (ct_Hi_clear (cx_t hX) K M27) my_Hi_clear mi_Hi_clear ms_Hi_clear ml_SA_377 (Nat.le_of_ble_eq_true rfl) (Nat.le_of_ble_eq_true rfl) (by decide) (ent_12 K _) rfl rfl rfl (Nat.le_of_ble_eq_true rfl) rfl (Nat.le_of_ble_eq_true rfl) (Nat.le_of_ble_eq_true rfl)) (fun r34 M34 => ?_)
    refine V_aload_n hX (j := 0) (hj := rfl) 17 38 rfl rfl ?_
    refine V_get hX 18 41 0 (.ref (kA K 1)) fl_SA_12 rfl rfl (by decide) (ent_0 K _) rfl ?_
    refine V_callI hX 44 0 0 rfl rfl rfl (Nat.le_of_ble_eq_true rfl) (Nat.le_of_ble_eq_true rfl) (VR_V hX 19 (ct_St_valueCount (cx_t hX) K M34) my_St_valueCount mi_St_valueCount ms_St_valueCount ml_SA_283 (Nat.le_of_ble_eq_true rfl) (Nat.le_of_ble_eq_true rfl) (by decide) (ent_1 K _) rfl rfl rfl (Nat.le_of_ble_eq_true rfl) rfl (Nat.le_of_ble_eq_true rfl) (Nat.le_of_ble_eq_true rfl)) (fun r41 M41 => ?_)
    exact V_iret hX 20 rfl (Nat.le_of_ble_eq_true rfl) (Nat.le_of_ble_eq_true rfl) rfl
  · exact V_throw hX 3 2 th_2_332_336 tx_372 (Nat.le_of_ble_eq_true rfl) (Nat.le_of_ble_eq_true rfl) (Nat.le_of_ble_eq_true rfl) (Nat.le_of_ble_eq_true rfl) rfl rfl rfl rfl rfl
set_option maxRecDepth 20000 in
theorem bt_SA_writeSeparated_20 {l : Launch} {K : KT} {X : XT} (hX : Cx l K 15 2 2 284 X prog_1_method_74_code "SeriesArchive" none [] L_SA_writeSeparated) (v1 : Int32) (M : Mm) : VV l K 15 2 2 284 rvU X (fn_SA_writeSeparated_20 v1 M) 1 142 M 20 [(0, .ref (kA K 0)), (1, .int v1)] [] := by
  unfold fn_SA_writeSeparated_20
  refine V_aload_n hX (j := 0) (hj := rfl) 9 21 rfl rfl ?_
  refine V_get hX 10 24 0 (.ref (kA K 19)) fl_SA_47 rfl rfl (by decide) (ent_0 K _) rfl ?_
  refine V_iload_n hX (j := 1) (hj := rfl) 11 25 rfl rfl ?_
  refine V_callO hX 28 2 284 rfl rfl rfl (Nat.le_of_ble_eq_true rfl) (Nat.le_of_ble_eq_true rfl) (VR_B hX 12 (ct_SB_appendI (cx_t hX) K v1 M) my_SB_appendI mi_SB_appendI ms_SB_appendI ml_SA_312 (Nat.le_of_ble_eq_true rfl) (Nat.le_of_ble_eq_true rfl) rfl rfl (Nat.le_of_ble_eq_true rfl) rfl (Nat.le_of_ble_eq_true rfl) (Nat.le_of_ble_eq_true rfl)) (fun r25 M25 => ?_)
  refine V_pop hX (hc := rfl) 13 29 rfl rfl ?_
  exact V_vret hX 14 rfl (Nat.le_of_ble_eq_true rfl) (Nat.le_of_ble_eq_true rfl) rfl
set_option maxRecDepth 20000 in
theorem ct_SA_writeSeparated {l : Launch} (hl : l.stackTraces = false) (K : KT) (v1 : Int32) (M : Mm) : CTp l K y_SA_writeSeparated (Cond.code y_SA_writeSeparated prog_1_method_74_code 2 none) rvU 15 2 284 [.ref (kA K 0), .int v1] M (fn_SA_writeSeparated v1 M) := by
  refine CTp_of (L := L_SA_writeSeparated) (lc := [(0, .ref (kA K 0)), (1, .int v1)]) (by decide +kernel) dec_SA_writeSeparated hl rfl (Nat.le_of_ble_eq_true rfl) (fun X hX => ?_)
  unfold fn_SA_writeSeparated
  refine V_aload_n hX (j := 0) (hj := rfl) 0 1 rfl rfl ?_
  refine V_get hX 1 4 0 (.ref (kA K 19)) fl_SA_47 rfl rfl (by decide) (ent_0 K _) rfl ?_
  refine V_callI hX 7 0 0 rfl rfl rfl (Nat.le_of_ble_eq_true rfl) (Nat.le_of_ble_eq_true rfl) (VR_B hX 2 (ct_SB_length (cx_t hX) K M) my_SB_length mi_SB_length ms_SB_length ml_SA_305 (Nat.le_of_ble_eq_true rfl) (Nat.le_of_ble_eq_true rfl) rfl rfl (Nat.le_of_ble_eq_true rfl) rfl (Nat.le_of_ble_eq_true rfl) (Nat.le_of_ble_eq_true rfl)) (fun r4 M4 => ?_)
  refine V_if_le hX 3 10 20 rfl rfl (by decide) (fun c7 => ?_) (fun c7 => ?_)
  · refine VV_wd 1 142 (Nat.le_of_ble_eq_true rfl) (Nat.le_of_ble_eq_true rfl) ?_
    exact bt_SA_writeSeparated_20 hX v1 M4
  · refine V_aload_n hX (j := 0) (hj := rfl) 4 11 rfl rfl ?_
    refine V_get hX 5 14 0 (.ref (kA K 19)) fl_SA_47 rfl rfl (by decide) (ent_0 K _) rfl ?_
    refine V_bipush hX (v := 32) (hv := by decide) 6 16 rfl rfl ?_
    refine V_callO hX 19 1 142 rfl rfl rfl (Nat.le_of_ble_eq_true rfl) (Nat.le_of_ble_eq_true rfl) (VR_B hX 7 (ct_SB_appendC (cx_t hX) K 32 M4) my_SB_appendC mi_SB_appendC ms_SB_appendC ml_SA_308 (Nat.le_of_ble_eq_true rfl) (Nat.le_of_ble_eq_true rfl) rfl rfl (Nat.le_of_ble_eq_true rfl) rfl (Nat.le_of_ble_eq_true rfl) (Nat.le_of_ble_eq_true rfl)) (fun r16 M16 => ?_)
    refine V_pop hX (hc := rfl) 8 20 rfl rfl ?_
    exact bt_SA_writeSeparated_20 hX v1 M16
