set_option maxRecDepth 20000 in
theorem bt_Pa_repeats_2 {l : Launch} {K : KT} {X : XT} (hX : Cx l K 2 3 0 0 X prog_8_method_6_code "SeriesArchive$Patterns" (some .boolean) [] L_Pa_repeats) (v0 : Nat) (v1 : Int32) (hv0 : isSer v0) : ∀ (n : Nat) (v2 : Int32) (M : Mm), VV l K 2 3 0 0 rvI X (fn_Pa_repeats_2 v0 v1 n v2 M) 0 0 M 2 [(0, .ref (kA K v0)), (1, .int v1), (2, .int v2)] [] := by
  intro n
  induction n with
  | zero => intro v2 M; exact VV_none
  | succ n ih =>
    intro v2 M
    rw [fn_Pa_repeats_2]
    refine V_iload_n hX (j := 2) (hj := rfl) 2 3 rfl rfl ?_
    refine V_iload_n hX (j := 1) (hj := rfl) 3 4 rfl rfl ?_
    refine V_iadd hX 4 5 rfl rfl ?_
    refine V_aload_n hX (j := 0) (hj := rfl) 5 6 rfl rfl ?_
    refine V_callI hX 9 0 0 rfl rfl rfl (Nat.le_of_ble_eq_true rfl) (Nat.le_of_ble_eq_true rfl) (VR_V hX 6 (ct_Se_size (cx_t hX) K v0 M) my_Se_size mi_Se_size ms_Se_size ml_Pa_19 (Nat.le_of_ble_eq_true rfl) (Nat.le_of_ble_eq_true rfl) (loc_ser hv0) (ent_ser K _ hv0) rfl rfl rfl (Nat.le_of_ble_eq_true rfl) rfl (Nat.le_of_ble_eq_true rfl) (Nat.le_of_ble_eq_true rfl)) (fun r6 M6 => ?_)
    refine V_icmp_ge hX 7 12 35 rfl rfl (by decide) (fun c9 => ?_) (fun c9 => ?_)
    · refine V_iconst hX (v := 1) (hv := by decide) 21 36 rfl rfl ?_
      exact V_zret hX 22 rfl rfl (Nat.le_of_ble_eq_true rfl) (Nat.le_of_ble_eq_true rfl) rfl
    · refine V_aload_n hX (j := 0) (hj := rfl) 8 13 rfl rfl ?_
      refine V_iload_n hX (j := 2) (hj := rfl) 9 14 rfl rfl ?_
      refine V_callI hX 17 0 0 rfl rfl rfl (Nat.le_of_ble_eq_true rfl) (Nat.le_of_ble_eq_true rfl) (VR_V hX 10 (ct_Se_at (cx_t hX) K v0 v2 M6) my_Se_at mi_Se_at ms_Se_at ml_Pa_33 (Nat.le_of_ble_eq_true rfl) (Nat.le_of_ble_eq_true rfl) (loc_ser hv0) (ent_ser K _ hv0) rfl rfl rfl (Nat.le_of_ble_eq_true rfl) rfl (Nat.le_of_ble_eq_true rfl) (Nat.le_of_ble_eq_true rfl)) (fun r14 M14 => ?_)
      refine V_aload_n hX (j := 0) (hj := rfl) 11 18 rfl rfl ?_
      refine V_iload_n hX (j := 2) (hj := rfl) 12 19 rfl rfl ?_
      refine V_iload_n hX (j := 1) (hj := rfl) 13 20 rfl rfl ?_
      refine V_iadd hX 14 21 rfl rfl ?_
      refine V_callI hX 24 0 0 rfl rfl rfl (Nat.le_of_ble_eq_true rfl) (Nat.le_of_ble_eq_true rfl) (VR_V hX 15 (ct_Se_at (cx_t hX) K v0 (v2 + v1) M14) my_Se_at mi_Se_at ms_Se_at ml_Pa_33 (Nat.le_of_ble_eq_true rfl) (Nat.le_of_ble_eq_true rfl) (loc_ser hv0) (ent_ser K _ hv0) rfl rfl rfl (Nat.le_of_ble_eq_true rfl) rfl (Nat.le_of_ble_eq_true rfl) (Nat.le_of_ble_eq_true rfl)) (fun r21 M21 => ?_)
      refine V_icmp_eq hX 16 27 29 rfl rfl (by decide) (fun c24 => ?_) (fun c24 => ?_)
      · refine V_iincL hX 19 32 2 rfl rfl rfl rfl (Nat.le_of_ble_eq_true rfl) (fun x2_29 hx2_29 => ?_)
        refine VV_lc [(2, .int x2_29), (0, .ref (kA K v0)), (1, .int v1)] rfl ?_
        refine V_goto hX 20 2 rfl (by decide) ?_
        refine VV_sub [1, 2, 0] rfl ?_
        exact ih x2_29 M21
      · refine V_iconst hX (v := 0) (hv := by decide) 17 28 rfl rfl ?_
        exact V_zret hX 18 rfl rfl (Nat.le_of_ble_eq_true rfl) (Nat.le_of_ble_eq_true rfl) rfl
set_option maxRecDepth 20000 in
theorem ct_Pa_repeats {l : Launch} (hl : l.stackTraces = false) (K : KT) (v0 : Nat) (v1 : Int32) (M : Mm) : CTp l K y_Pa_repeats (Cond.code y_Pa_repeats prog_8_method_6_code 3 (some .boolean)) rvI 2 0 0 [.ref (kA K v0), .int v1] M (fn_Pa_repeats v0 v1 M) := by
  refine CTp_of (L := L_Pa_repeats) (lc := [(0, .ref (kA K v0)), (1, .int v1)]) (by decide +kernel) dec_Pa_repeats hl rfl (Nat.le_of_ble_eq_true rfl) (fun X hX => ?_)
  unfold fn_Pa_repeats
  refine VV_grd (fun hv0 => ?_)
  refine V_iconst hX (v := 0) (hv := by decide) 0 1 rfl rfl ?_
  refine V_istore_n hX 1 2 [(2, .int 0), (0, .ref (kA K v0)), (1, .int v1)] rfl rfl (Nat.le_of_ble_eq_true rfl) rfl ?_
  refine VV_sub [1, 2, 0] rfl ?_
  exact bt_Pa_repeats_2 hX v0 v1 hv0 fuel0 0 M
set_option maxRecDepth 20000 in
theorem bt_Pa_periodByTrial_26 {l : Launch} {K : KT} {X : XT} (hX : Cx l K 3 2 0 0 X prog_8_method_5_code "SeriesArchive$Patterns" (some .int) [] L_Pa_periodByTrial) (v0 : Nat) (hv0 : isSer v0) (M : Mm) : VV l K 3 2 0 0 rvI X (fn_Pa_periodByTrial_26 v0 M) 0 0 M 26 [(0, .ref (kA K v0))] [] := by
  unfold fn_Pa_periodByTrial_26
  refine V_aload_n hX (j := 0) (hj := rfl) 14 27 rfl rfl ?_
  refine V_callI hX 30 0 0 rfl rfl rfl (Nat.le_of_ble_eq_true rfl) (Nat.le_of_ble_eq_true rfl) (VR_V hX 15 (ct_Se_size (cx_t hX) K v0 M) my_Se_size mi_Se_size ms_Se_size ml_Pa_19 (Nat.le_of_ble_eq_true rfl) (Nat.le_of_ble_eq_true rfl) (loc_ser hv0) (ent_ser K _ hv0) rfl rfl rfl (Nat.le_of_ble_eq_true rfl) rfl (Nat.le_of_ble_eq_true rfl) (Nat.le_of_ble_eq_true rfl)) (fun r27 M27 => ?_)
  exact V_iret hX 16 rfl (Nat.le_of_ble_eq_true rfl) (Nat.le_of_ble_eq_true rfl) rfl
set_option maxRecDepth 20000 in
theorem bt_Pa_periodByTrial_2 {l : Launch} {K : KT} {X : XT} (hX : Cx l K 3 2 0 0 X prog_8_method_5_code "SeriesArchive$Patterns" (some .int) [] L_Pa_periodByTrial) (v0 : Nat) (hv0 : isSer v0) : ∀ (n : Nat) (v1 : Int32) (M : Mm), VV l K 3 2 0 0 rvI X (fn_Pa_periodByTrial_2 v0 n v1 M) 0 0 M 2 [(0, .ref (kA K v0)), (1, .int v1)] [] := by
  intro n
  induction n with
  | zero => intro v1 M; exact VV_none
  | succ n ih =>
    intro v1 M
    rw [fn_Pa_periodByTrial_2]
    refine V_iload_n hX (j := 1) (hj := rfl) 2 3 rfl rfl ?_
    refine V_aload_n hX (j := 0) (hj := rfl) 3 4 rfl rfl ?_
    refine V_callI hX 7 0 0 rfl rfl rfl (Nat.le_of_ble_eq_true rfl) (Nat.le_of_ble_eq_true rfl) (VR_V hX 4 (ct_Se_size (cx_t hX) K v0 M) my_Se_size mi_Se_size ms_Se_size ml_Pa_19 (Nat.le_of_ble_eq_true rfl) (Nat.le_of_ble_eq_true rfl) (loc_ser hv0) (ent_ser K _ hv0) rfl rfl rfl (Nat.le_of_ble_eq_true rfl) rfl (Nat.le_of_ble_eq_true rfl) (Nat.le_of_ble_eq_true rfl)) (fun r4 M4 => ?_)
    refine V_icmp_ge hX 5 10 26 rfl rfl (by decide) (fun c7 => ?_) (fun c7 => ?_)
    · refine VV_sub [0] rfl ?_
      exact bt_Pa_periodByTrial_26 hX v0 hv0 M4
    · refine V_aload_n hX (j := 0) (hj := rfl) 6 11 rfl rfl ?_
      refine V_iload_n hX (j := 1) (hj := rfl) 7 12 rfl rfl ?_
      refine V_callI hX 15 0 0 rfl rfl rfl (Nat.le_of_ble_eq_true rfl) (Nat.le_of_ble_eq_true rfl) (VR_S hX 8 (ct_Pa_repeats (cx_t hX) K v0 v1 M4) my_Pa_repeats mt_Pa_repeats ml_Pa_41 (Nat.le_of_ble_eq_true rfl) (Nat.le_of_ble_eq_true rfl) rfl rfl (Nat.le_of_ble_eq_true rfl) rfl (Nat.le_of_ble_eq_true rfl) (Nat.le_of_ble_eq_true rfl)) (fun r12 M12 => ?_)
      refine V_if_eq hX 9 18 20 rfl rfl (by decide) (fun c15 => ?_) (fun c15 => ?_)
      · refine V_iincL hX 12 23 1 rfl rfl rfl rfl (Nat.le_of_ble_eq_true rfl) (fun x1_20 hx1_20 => ?_)
        refine VV_lc [(1, .int x1_20), (0, .ref (kA K v0))] rfl ?_
        refine V_goto hX 13 2 rfl (by decide) ?_
        refine VV_sub [1, 0] rfl ?_
        exact ih x1_20 M12
      · refine V_iload_n hX (j := 1) (hj := rfl) 10 19 rfl rfl ?_
        exact V_iret hX 11 rfl (Nat.le_of_ble_eq_true rfl) (Nat.le_of_ble_eq_true rfl) rfl
set_option maxRecDepth 20000 in
theorem ct_Pa_periodByTrial {l : Launch} (hl : l.stackTraces = false) (K : KT) (v0 : Nat) (M : Mm) : CTp l K y_Pa_periodByTrial (Cond.code y_Pa_periodByTrial prog_8_method_5_code 2 (some .int)) rvI 3 0 0 [.ref (kA K v0)] M (fn_Pa_periodByTrial v0 M) := by
  refine CTp_of (L := L_Pa_periodByTrial) (lc := [(0, .ref (kA K v0))]) (by decide +kernel) dec_Pa_periodByTrial hl rfl (Nat.le_of_ble_eq_true rfl) (fun X hX => ?_)
  unfold fn_Pa_periodByTrial
  refine VV_grd (fun hv0 => ?_)
  refine V_iconst hX (v := 1) (hv := by decide) 0 1 rfl rfl ?_
  refine V_istore_n hX 1 2 [(1, .int 1), (0, .ref (kA K v0))] rfl rfl (Nat.le_of_ble_eq_true rfl) rfl ?_
  refine VV_sub [1, 0] rfl ?_
  exact bt_Pa_periodByTrial_2 hX v0 hv0 fuel0 1 M
set_option maxRecDepth 20000 in
theorem bt_Pa_places_62 {l : Launch} {K : KT} {X : XT} (hX : Cx l K 4 6 0 0 X prog_8_method_7_code "SeriesArchive$Patterns" (some .int) [] L_Pa_places) (k13 : Int32 → Int32 → Int32 → Mm → Rs Int32) (v1 : Nat) (v2 : Nat) (v3 : Int32) (v4 : Int32) (v5 : Int32) (hk13 : ∀ (v3 : Int32) (v4 : Int32) (v5 : Int32) M, VV l K 4 6 0 0 rvI X (k13 v3 v4 v5 M) 0 0 M 13 [(0, .ref (kA K 26)), (1, .ref (kA K v1)), (2, .ref (kA K v2)), (3, .int v3), (4, .int v4), (5, .int v5)] []) (hv1 : isSer v1) (hv2 : isSer v2) (M : Mm) : VV l K 4 6 0 0 rvI X (fn_Pa_places_62 k13 v1 v2 v3 v4 v5 M) 0 0 M 62 [(0, .ref (kA K 26)), (1, .ref (kA K v1)), (2, .ref (kA K v2)), (3, .int v3), (4, .int v4), (5, .int v5)] [] := by
  unfold fn_Pa_places_62
  refine V_iincL hX 33 65 5 rfl rfl rfl rfl (Nat.le_of_ble_eq_true rfl) (fun x5_62 hx5_62 => ?_)
  refine VV_lc [(5, .int x5_62), (0, .ref (kA K 26)), (1, .ref (kA K v1)), (2, .ref (kA K v2)), (3, .int v3), (4, .int v4)] rfl ?_
  refine V_goto hX 34 13 rfl (by decide) ?_
  refine VV_sub [1, 2, 3, 4, 5, 0] rfl ?_
  exact hk13 v3 v4 x5_62 M
set_option maxRecDepth 20000 in
theorem bt_Pa_places_13 {l : Launch} {K : KT} {X : XT} (hX : Cx l K 4 6 0 0 X prog_8_method_7_code "SeriesArchive$Patterns" (some .int) [] L_Pa_places) (v1 : Nat) (v2 : Nat) (hv1 : isSer v1) (hv2 : isSer v2) : ∀ (n : Nat) (v3 : Int32) (v4 : Int32) (v5 : Int32) (M : Mm), VV l K 4 6 0 0 rvI X (fn_Pa_places_13 v1 v2 n v3 v4 v5 M) 0 0 M 13 [(0, .ref (kA K 26)), (1, .ref (kA K v1)), (2, .ref (kA K v2)), (3, .int v3), (4, .int v4), (5, .int v5)] [] := by
  intro n
  induction n with
  | zero => intro v3 v4 v5 M; exact VV_none
  | succ n ih =>
    intro v3 v4 v5 M
    rw [fn_Pa_places_13]
    refine V_iload hX (j := 5) (hj := rfl) 9 15 rfl rfl ?_
    refine V_aload_n hX (j := 1) (hj := rfl) 10 16 rfl rfl ?_
    refine V_callI hX 19 0 0 rfl rfl rfl (Nat.le_of_ble_eq_true rfl) (Nat.le_of_ble_eq_true rfl) (VR_V hX 11 (ct_Se_size (cx_t hX) K v1 M) my_Se_size mi_Se_size ms_Se_size ml_Pa_19 (Nat.le_of_ble_eq_true rfl) (Nat.le_of_ble_eq_true rfl) (loc_ser hv1) (ent_ser K _ hv1) rfl rfl rfl (Nat.le_of_ble_eq_true rfl) rfl (Nat.le_of_ble_eq_true rfl) (Nat.le_of_ble_eq_true rfl)) (fun r16 M16 => ?_)
    refine V_icmp_ge hX 12 22 68 rfl rfl (by decide) (fun c19 => ?_) (fun c19 => ?_)
    · refine V_iload_n hX (j := 3) (hj := rfl) 35 69 rfl rfl ?_
      exact V_iret hX 36 rfl (Nat.le_of_ble_eq_true rfl) (Nat.le_of_ble_eq_true rfl) rfl
    · refine V_aload_n hX (j := 0) (hj := rfl) 13 23 rfl rfl ?_
      refine V_aload_n hX (j := 2) (hj := rfl) 14 24 rfl rfl ?_
      refine V_iload hX (j := 4) (hj := rfl) 15 26 rfl rfl ?_
      refine V_aload_n hX (j := 1) (hj := rfl) 16 27 rfl rfl ?_
      refine V_iload hX (j := 5) (hj := rfl) 17 29 rfl rfl ?_
      refine V_callI hX 32 0 0 rfl rfl rfl (Nat.le_of_ble_eq_true rfl) (Nat.le_of_ble_eq_true rfl) (VR_V hX 18 (ct_Se_at (cx_t hX) K v1 v5 M16) my_Se_at mi_Se_at ms_Se_at ml_Pa_33 (Nat.le_of_ble_eq_true rfl) (Nat.le_of_ble_eq_true rfl) (loc_ser hv1) (ent_ser K _ hv1) rfl rfl rfl (Nat.le_of_ble_eq_true rfl) rfl (Nat.le_of_ble_eq_true rfl) (Nat.le_of_ble_eq_true rfl)) (fun r29 M29 => ?_)
      refine V_callI hX 35 0 0 rfl rfl rfl (Nat.le_of_ble_eq_true rfl) (Nat.le_of_ble_eq_true rfl) (VR_V hX 19 (ct_Pa_goOn (cx_t hX) K v2 v4 r29 M29) my_Pa_goOn mi_Pa_goOn ms_Pa_goOn ml_Pa_37 (Nat.le_of_ble_eq_true rfl) (Nat.le_of_ble_eq_true rfl) (by decide) (ent_26 K _) rfl rfl rfl (Nat.le_of_ble_eq_true rfl) rfl (Nat.le_of_ble_eq_true rfl) (Nat.le_of_ble_eq_true rfl)) (fun r32 M32 => ?_)
      refine V_istore hX 20 37 [(4, .int r32), (0, .ref (kA K 26)), (1, .ref (kA K v1)), (2, .ref (kA K v2)), (3, .int v3), (5, .int v5)] rfl rfl (Nat.le_of_ble_eq_true rfl) rfl ?_
      refine V_iload hX (j := 0) (hj := rfl) 21 39 rfl rfl ?_
      refine V_aload_n hX (j := 3) (hj := rfl) 22 40 rfl rfl ?_
      refine V_callI hX 43 0 0 rfl rfl rfl (Nat.le_of_ble_eq_true rfl) (Nat.le_of_ble_eq_true rfl) (VR_V hX 23 (ct_Se_size (cx_t hX) K v2 M32) my_Se_size mi_Se_size ms_Se_size ml_Pa_19 (Nat.le_of_ble_eq_true rfl) (Nat.le_of_ble_eq_true rfl) (loc_ser hv2) (ent_ser K _ hv2) rfl rfl rfl (Nat.le_of_ble_eq_true rfl) rfl (Nat.le_of_ble_eq_true rfl) (Nat.le_of_ble_eq_true rfl)) (fun r40 M40 => ?_)
      refine V_icmp_ne hX 24 46 62 rfl rfl (by decide) (fun c43 => ?_) (fun c43 => ?_)
      · refine VV_sub [1, 2, 3, 4, 0, 5] rfl ?_
        exact bt_Pa_places_62 hX (fn_Pa_places_13 v1 v2 n) v1 v2 v3 r32 v5 ih hv1 hv2 M40
      · refine V_iincL hX 25 49 4 rfl rfl rfl rfl (Nat.le_of_ble_eq_true rfl) (fun x3_46 hx3_46 => ?_)
        refine VV_lc [(3, .int x3_46), (4, .int r32), (0, .ref (kA K 26)), (1, .ref (kA K v1)), (2, .ref (kA K v2)), (5, .int v5)] rfl ?_
        refine V_aload_n hX (j := 2) (hj := rfl) 26 50 rfl rfl ?_
        refine V_get hX 27 53 26 (.ref (kA K 27)) fl_Pa_9 rfl rfl (by decide) (ent_26 K _) rfl ?_
        refine V_iload hX (j := 1) (hj := rfl) 28 55 rfl rfl ?_
        refine V_iconst hX (v := 1) (hv := by decide) 29 56 rfl rfl ?_
        refine V_isub hX 30 57 rfl rfl ?_
        refine V_callI hX 60 0 0 rfl rfl rfl (Nat.le_of_ble_eq_true rfl) (Nat.le_of_ble_eq_true rfl) (VR_SN hX 31 (ct_SA_read (cx_t hX) K 27 (r32 - 1) M40) my_SA_read mt_SA_read mn_Pa_25 (Nat.le_of_ble_eq_true rfl) (Nat.le_of_ble_eq_true rfl) rfl rfl (Nat.le_of_ble_eq_true rfl) rfl (Nat.le_of_ble_eq_true rfl) (Nat.le_of_ble_eq_true rfl)) (fun r57 M57 => ?_)
        refine V_istore hX 32 62 [(4, .int r57), (3, .int x3_46), (0, .ref (kA K 26)), (1, .ref (kA K v1)), (2, .ref (kA K v2)), (5, .int v5)] rfl rfl (Nat.le_of_ble_eq_true rfl) rfl ?_
        refine VV_sub [2, 3, 4, 1, 0, 5] rfl ?_
        exact bt_Pa_places_62 hX (fn_Pa_places_13 v1 v2 n) v1 v2 x3_46 r57 v5 ih hv1 hv2 M57
set_option maxRecDepth 20000 in
theorem ct_Pa_places {l : Launch} (hl : l.stackTraces = false) (K : KT) (v1 : Nat) (v2 : Nat) (M : Mm) : CTp l K y_Pa_places (Cond.code y_Pa_places prog_8_method_7_code 6 (some .int)) rvI 4 0 0 [.ref (kA K 26), .ref (kA K v1), .ref (kA K v2)] M (fn_Pa_places v1 v2 M) := by
  refine CTp_of (L := L_Pa_places) (lc := [(0, .ref (kA K 26)), (1, .ref (kA K v1)), (2, .ref (kA K v2))]) (by decide +kernel) dec_Pa_places hl rfl (Nat.le_of_ble_eq_true rfl) (fun X hX => ?_)
  unfold fn_Pa_places
  refine VV_grd (fun hv1 => ?_)
  refine VV_grd (fun hv2 => ?_)
  refine V_aload_n hX (j := 0) (hj := rfl) 0 1 rfl rfl ?_
  refine V_aload_n hX (j := 2) (hj := rfl) 1 2 rfl rfl ?_
  refine V_callU hX 5 0 0 rfl rfl rfl (Nat.le_of_ble_eq_true rfl) (Nat.le_of_ble_eq_true rfl) (VR_V hX 2 (ct_Pa_findBorders (cx_t hX) K v2 M) my_Pa_findBorders mi_Pa_findBorders ms_Pa_findBorders ml_Pa_15 (Nat.le_of_ble_eq_true rfl) (Nat.le_of_ble_eq_true rfl) (by decide) (ent_26 K _) rfl rfl rfl (Nat.le_of_ble_eq_true rfl) rfl (Nat.le_of_ble_eq_true rfl) (Nat.le_of_ble_eq_true rfl)) (fun r2 M2 => ?_)
  refine V_iconst hX (v := 0) (hv := by decide) 3 6 rfl rfl ?_
  refine V_istore_n hX 4 7 [(3, .int 0), (0, .ref (kA K 26)), (1, .ref (kA K v1)), (2, .ref (kA K v2))] rfl rfl (Nat.le_of_ble_eq_true rfl) rfl ?_
  refine V_iconst hX (v := 0) (hv := by decide) 5 8 rfl rfl ?_
  refine V_istore hX 6 10 [(4, .int 0), (3, .int 0), (0, .ref (kA K 26)), (1, .ref (kA K v1)), (2, .ref (kA K v2))] rfl rfl (Nat.le_of_ble_eq_true rfl) rfl ?_
  refine V_iconst hX (v := 0) (hv := by decide) 7 11 rfl rfl ?_
  refine V_istore hX 8 13 [(5, .int 0), (4, .int 0), (3, .int 0), (0, .ref (kA K 26)), (1, .ref (kA K v1)), (2, .ref (kA K v2))] rfl rfl (Nat.le_of_ble_eq_true rfl) rfl ?_
  refine VV_sub [3, 4, 5, 2, 1, 0] rfl ?_
  exact bt_Pa_places_13 hX v1 v2 hv1 hv2 fuel0 0 0 0 M2
set_option maxRecDepth 20000 in
theorem bt_Pa_standsAt_2 {l : Launch} {K : KT} {X : XT} (hX : Cx l K 2 4 0 0 X prog_8_method_9_code "SeriesArchive$Patterns" (some .boolean) [] L_Pa_standsAt) (v0 : Nat) (v1 : Nat) (v2 : Int32) (hv0 : isSer v0) (hv1 : isSer v1) : ∀ (n : Nat) (v3 : Int32) (M : Mm), VV l K 2 4 0 0 rvI X (fn_Pa_standsAt_2 v0 v1 v2 n v3 M) 0 0 M 2 [(0, .ref (kA K v0)), (1, .ref (kA K v1)), (2, .int v2), (3, .int v3)] [] := by
  intro n
  induction n with
  | zero => intro v3 M; exact VV_none
  | succ n ih =>
    intro v3 M
    rw [fn_Pa_standsAt_2]
    refine V_iload_n hX (j := 3) (hj := rfl) 2 3 rfl rfl ?_
    refine V_aload_n hX (j := 1) (hj := rfl) 3 4 rfl rfl ?_
    refine V_callI hX 7 0 0 rfl rfl rfl (Nat.le_of_ble_eq_true rfl) (Nat.le_of_ble_eq_true rfl) (VR_V hX 4 (ct_Se_size (cx_t hX) K v1 M) my_Se_size mi_Se_size ms_Se_size ml_Pa_19 (Nat.le_of_ble_eq_true rfl) (Nat.le_of_ble_eq_true rfl) (loc_ser hv1) (ent_ser K _ hv1) rfl rfl rfl (Nat.le_of_ble_eq_true rfl) rfl (Nat.le_of_ble_eq_true rfl) (Nat.le_of_ble_eq_true rfl)) (fun r4 M4 => ?_)
    refine V_icmp_ge hX 5 10 33 rfl rfl (by decide) (fun c7 => ?_) (fun c7 => ?_)
    · refine V_iconst hX (v := 1) (hv := by decide) 19 34 rfl rfl ?_
      exact V_zret hX 20 rfl rfl (Nat.le_of_ble_eq_true rfl) (Nat.le_of_ble_eq_true rfl) rfl
    · refine V_aload_n hX (j := 0) (hj := rfl) 6 11 rfl rfl ?_
      refine V_iload_n hX (j := 2) (hj := rfl) 7 12 rfl rfl ?_
      refine V_iload_n hX (j := 3) (hj := rfl) 8 13 rfl rfl ?_
      refine V_iadd hX 9 14 rfl rfl ?_
      refine V_callI hX 17 0 0 rfl rfl rfl (Nat.le_of_ble_eq_true rfl) (Nat.le_of_ble_eq_true rfl) (VR_V hX 10 (ct_Se_at (cx_t hX) K v0 (v2 + v3) M4) my_Se_at mi_Se_at ms_Se_at ml_Pa_33 (Nat.le_of_ble_eq_true rfl) (Nat.le_of_ble_eq_true rfl) (loc_ser hv0) (ent_ser K _ hv0) rfl rfl rfl (Nat.le_of_ble_eq_true rfl) rfl (Nat.le_of_ble_eq_true rfl) (Nat.le_of_ble_eq_true rfl)) (fun r14 M14 => ?_)
      refine V_aload_n hX (j := 1) (hj := rfl) 11 18 rfl rfl ?_
      refine V_iload_n hX (j := 3) (hj := rfl) 12 19 rfl rfl ?_
      refine V_callI hX 22 0 0 rfl rfl rfl (Nat.le_of_ble_eq_true rfl) (Nat.le_of_ble_eq_true rfl) (VR_V hX 13 (ct_Se_at (cx_t hX) K v1 v3 M14) my_Se_at mi_Se_at ms_Se_at ml_Pa_33 (Nat.le_of_ble_eq_true rfl) (Nat.le_of_ble_eq_true rfl) (loc_ser hv1) (ent_ser K _ hv1) rfl rfl rfl (Nat.le_of_ble_eq_true rfl) rfl (Nat.le_of_ble_eq_true rfl) (Nat.le_of_ble_eq_true rfl)) (fun r19 M19 => ?_)
      refine V_icmp_eq hX 14 25 27 rfl rfl (by decide) (fun c22 => ?_) (fun c22 => ?_)
      · refine V_iincL hX 17 30 3 rfl rfl rfl rfl (Nat.le_of_ble_eq_true rfl) (fun x3_27 hx3_27 => ?_)
        refine VV_lc [(3, .int x3_27), (0, .ref (kA K v0)), (1, .ref (kA K v1)), (2, .int v2)] rfl ?_
        refine V_goto hX 18 2 rfl (by decide) ?_
        refine VV_sub [1, 2, 3, 0] rfl ?_
        exact ih x3_27 M19
      · refine V_iconst hX (v := 0) (hv := by decide) 15 26 rfl rfl ?_
        exact V_zret hX 16 rfl rfl (Nat.le_of_ble_eq_true rfl) (Nat.le_of_ble_eq_true rfl) rfl
set_option maxRecDepth 20000 in
theorem ct_Pa_standsAt {l : Launch} (hl : l.stackTraces = false) (K : KT) (v0 : Nat) (v1 : Nat) (v2 : Int32) (M : Mm) : CTp l K y_Pa_standsAt (Cond.code y_Pa_standsAt prog_8_method_9_code 4 (some .boolean)) rvI 2 0 0 [.ref (kA K v0), .ref (kA K v1), .int v2] M (fn_Pa_standsAt v0 v1 v2 M) := by
  refine CTp_of (L := L_Pa_standsAt) (lc := [(0, .ref (kA K v0)), (1, .ref (kA K v1)), (2, .int v2)]) (by decide +kernel) dec_Pa_standsAt hl rfl (Nat.le_of_ble_eq_true rfl) (fun X hX => ?_)
  unfold fn_Pa_standsAt
  refine VV_grd (fun hv0 => ?_)
  refine VV_grd (fun hv1 => ?_)
  refine V_iconst hX (v := 0) (hv := by decide) 0 1 rfl rfl ?_
  refine V_istore_n hX 1 2 [(3, .int 0), (0, .ref (kA K v0)), (1, .ref (kA K v1)), (2, .int v2)] rfl rfl (Nat.le_of_ble_eq_true rfl) rfl ?_
  refine VV_sub [1, 2, 3, 0] rfl ?_
  exact bt_Pa_standsAt_2 hX v0 v1 v2 hv0 hv1 fuel0 0 M
set_option maxRecDepth 20000 in
theorem bt_Pa_placesByScan_32 {l : Launch} {K : KT} {X : XT} (hX : Cx l K 3 4 0 0 X prog_8_method_8_code "SeriesArchive$Patterns" (some .int) [] L_Pa_placesByScan) (k4 : Int32 → Int32 → Mm → Rs Int32) (v0 : Nat) (v1 : Nat) (v3 : Int32) (hk4 : ∀ (v2 : Int32) (v3 : Int32) M, VV l K 3 4 0 0 rvI X (k4 v2 v3 M) 0 0 M 4 [(0, .ref (kA K v0)), (1, .ref (kA K v1)), (2, .int v2), (3, .int v3)] []) (s0 : Int32) (s1 : Int32) (hv0 : isSer v0) (hv1 : isSer v1) (M : Mm) : VV l K 3 4 0 0 rvI X (fn_Pa_placesByScan_32 k4 v0 v1 v3 s0 s1 M) 0 0 M 32 [(0, .ref (kA K v0)), (1, .ref (kA K v1)), (3, .int v3)] [.int s1, .int s0] := by
  unfold fn_Pa_placesByScan_32
  refine V_iadd hX 20 33 rfl rfl ?_
  refine VV_li (fun x2_33 hx2_33 => ?_)
  refine V_istore_n hX 21 34 [(2, .int x2_33), (0, .ref (kA K v0)), (1, .ref (kA K v1)), (3, .int v3)] rfl rfl (Nat.le_of_ble_eq_true rfl) rfl ?_
  refine V_iincL hX 22 37 3 rfl rfl rfl rfl (Nat.le_of_ble_eq_true rfl) (fun x3_34 hx3_34 => ?_)
  refine VV_lc [(3, .int x3_34), (2, .int x2_33), (0, .ref (kA K v0)), (1, .ref (kA K v1))] rfl ?_
  refine V_goto hX 23 4 rfl (by decide) ?_
  refine VV_sub [2, 3, 1, 0] rfl ?_
  exact hk4 x2_33 x3_34 M
set_option maxRecDepth 20000 in
theorem bt_Pa_placesByScan_4 {l : Launch} {K : KT} {X : XT} (hX : Cx l K 3 4 0 0 X prog_8_method_8_code "SeriesArchive$Patterns" (some .int) [] L_Pa_placesByScan) (v0 : Nat) (v1 : Nat) (hv0 : isSer v0) (hv1 : isSer v1) : ∀ (n : Nat) (v2 : Int32) (v3 : Int32) (M : Mm), VV l K 3 4 0 0 rvI X (fn_Pa_placesByScan_4 v0 v1 n v2 v3 M) 0 0 M 4 [(0, .ref (kA K v0)), (1, .ref (kA K v1)), (2, .int v2), (3, .int v3)] [] := by
  intro n
  induction n with
  | zero => intro v2 v3 M; exact VV_none
  | succ n ih =>
    intro v2 v3 M
    rw [fn_Pa_placesByScan_4]
    refine V_iload_n hX (j := 3) (hj := rfl) 4 5 rfl rfl ?_
    refine V_aload_n hX (j := 1) (hj := rfl) 5 6 rfl rfl ?_
    refine V_callI hX 9 0 0 rfl rfl rfl (Nat.le_of_ble_eq_true rfl) (Nat.le_of_ble_eq_true rfl) (VR_V hX 6 (ct_Se_size (cx_t hX) K v1 M) my_Se_size mi_Se_size ms_Se_size ml_Pa_19 (Nat.le_of_ble_eq_true rfl) (Nat.le_of_ble_eq_true rfl) (loc_ser hv1) (ent_ser K _ hv1) rfl rfl rfl (Nat.le_of_ble_eq_true rfl) rfl (Nat.le_of_ble_eq_true rfl) (Nat.le_of_ble_eq_true rfl)) (fun r6 M6 => ?_)
    refine V_iadd hX 7 10 rfl rfl ?_
    refine V_aload_n hX (j := 0) (hj := rfl) 8 11 rfl rfl ?_
    refine V_callI hX 14 0 0 rfl rfl rfl (Nat.le_of_ble_eq_true rfl) (Nat.le_of_ble_eq_true rfl) (VR_V hX 9 (ct_Se_size (cx_t hX) K v0 M6) my_Se_size mi_Se_size ms_Se_size ml_Pa_19 (Nat.le_of_ble_eq_true rfl) (Nat.le_of_ble_eq_true rfl) (loc_ser hv0) (ent_ser K _ hv0) rfl rfl rfl (Nat.le_of_ble_eq_true rfl) rfl (Nat.le_of_ble_eq_true rfl) (Nat.le_of_ble_eq_true rfl)) (fun r11 M11 => ?_)
    refine V_icmp_gt hX 10 17 40 rfl rfl (by decide) (fun c14 => ?_) (fun c14 => ?_)
    · refine V_iload_n hX (j := 2) (hj := rfl) 24 41 rfl rfl ?_
      exact V_iret hX 25 rfl (Nat.le_of_ble_eq_true rfl) (Nat.le_of_ble_eq_true rfl) rfl
    · refine V_iload_n hX (j := 2) (hj := rfl) 11 18 rfl rfl ?_
      refine V_aload_n hX (j := 0) (hj := rfl) 12 19 rfl rfl ?_
      refine V_aload_n hX (j := 1) (hj := rfl) 13 20 rfl rfl ?_
      refine V_iload_n hX (j := 3) (hj := rfl) 14 21 rfl rfl ?_
      refine V_callI hX 24 0 0 rfl rfl rfl (Nat.le_of_ble_eq_true rfl) (Nat.le_of_ble_eq_true rfl) (VR_S hX 15 (ct_Pa_standsAt (cx_t hX) K v0 v1 v3 M11) my_Pa_standsAt mt_Pa_standsAt ml_Pa_45 (Nat.le_of_ble_eq_true rfl) (Nat.le_of_ble_eq_true rfl) rfl rfl (Nat.le_of_ble_eq_true rfl) rfl (Nat.le_of_ble_eq_true rfl) (Nat.le_of_ble_eq_true rfl)) (fun r21 M21 => ?_)
      refine V_if_eq hX 16 27 31 rfl rfl (by decide) (fun c24 => ?_) (fun c24 => ?_)
      · refine V_iconst hX (v := 0) (hv := by decide) 19 32 rfl rfl ?_
        refine VV_sub [0, 1, 3] rfl ?_
        exact bt_Pa_placesByScan_32 hX (fn_Pa_placesByScan_4 v0 v1 n) v0 v1 v3 ih v2 0 hv0 hv1 M21
      · refine V_iconst hX (v := 1) (hv := by decide) 17 28 rfl rfl ?_
        refine V_goto hX 18 32 rfl (by decide) ?_
        refine VV_sub [0, 1, 3] rfl ?_
        exact bt_Pa_placesByScan_32 hX (fn_Pa_placesByScan_4 v0 v1 n) v0 v1 v3 ih v2 1 hv0 hv1 M21
set_option maxRecDepth 20000 in
theorem ct_Pa_placesByScan {l : Launch} (hl : l.stackTraces = false) (K : KT) (v0 : Nat) (v1 : Nat) (M : Mm) : CTp l K y_Pa_placesByScan (Cond.code y_Pa_placesByScan prog_8_method_8_code 4 (some .int)) rvI 3 0 0 [.ref (kA K v0), .ref (kA K v1)] M (fn_Pa_placesByScan v0 v1 M) := by
  refine CTp_of (L := L_Pa_placesByScan) (lc := [(0, .ref (kA K v0)), (1, .ref (kA K v1))]) (by decide +kernel) dec_Pa_placesByScan hl rfl (Nat.le_of_ble_eq_true rfl) (fun X hX => ?_)
  unfold fn_Pa_placesByScan
  refine VV_grd (fun hv0 => ?_)
  refine VV_grd (fun hv1 => ?_)
  refine V_iconst hX (v := 0) (hv := by decide) 0 1 rfl rfl ?_
  refine V_istore_n hX 1 2 [(2, .int 0), (0, .ref (kA K v0)), (1, .ref (kA K v1))] rfl rfl (Nat.le_of_ble_eq_true rfl) rfl ?_
  refine V_iconst hX (v := 0) (hv := by decide) 2 3 rfl rfl ?_
  refine V_istore_n hX 3 4 [(3, .int 0), (2, .int 0), (0, .ref (kA K v0)), (1, .ref (kA K v1))] rfl rfl (Nat.le_of_ble_eq_true rfl) rfl ?_
  refine VV_sub [2, 3, 1, 0] rfl ?_
  exact bt_Pa_placesByScan_4 hX v0 v1 hv0 hv1 fuel0 0 0 M
set_option maxRecDepth 20000 in
theorem ct_Se_isEmpty {l : Launch} (hl : l.stackTraces = false) (K : KT) (v0 : Nat) (M : Mm) : CTp l K y_Se_isEmpty (Cond.code y_Se_isEmpty prog_11_method_3_code 1 (some .boolean)) rvI 1 0 0 [.ref (kA K v0)] M (fn_Se_isEmpty v0 M) := by
  refine CTp_of (L := L_Se_isEmpty) (lc := [(0, .ref (kA K v0))]) (by decide +kernel) dec_Se_isEmpty hl rfl (Nat.le_of_ble_eq_true rfl) (fun X hX => ?_)
  unfold fn_Se_isEmpty
  refine VV_grd (fun hv0 => ?_)
  refine V_aload_n hX (j := 0) (hj := rfl) 0 1 rfl rfl ?_
  refine V_get hX 1 4 v0 (.int (M v0 1)) fl_Se_15 rfl rfl (loc_ser hv0) (ent_ser K _ hv0) rfl ?_
  refine V_if_ne hX 2 7 11 rfl rfl (by decide) (fun c4 => ?_) (fun c4 => ?_)
  · refine V_iconst hX (v := 0) (hv := by decide) 5 12 rfl rfl ?_
    exact V_zret hX 6 rfl rfl (Nat.le_of_ble_eq_true rfl) (Nat.le_of_ble_eq_true rfl) rfl
  · refine V_iconst hX (v := 1) (hv := by decide) 3 8 rfl rfl ?_
    refine V_goto hX 4 12 rfl (by decide) ?_
    exact V_zret hX 6 rfl rfl (Nat.le_of_ble_eq_true rfl) (Nat.le_of_ble_eq_true rfl) rfl
set_option maxRecDepth 20000 in
theorem bt_Pa_agreeOn_19 {l : Launch} {K : KT} {X : XT} (hX : Cx l K 5 2 0 0 X prog_8_method_10_code "SeriesArchive$Patterns" (some .boolean) [] L_Pa_agreeOn) (M : Mm) : VV l K 5 2 0 0 rvI X (fn_Pa_agreeOn_19 M) 0 0 M 19 [] [] := by
  unfold fn_Pa_agreeOn_19
  refine V_iconst hX (v := 1) (hv := by decide) 9 20 rfl rfl ?_
  refine V_goto hX 10 24 rfl (by decide) ?_
  exact V_zret hX 12 rfl rfl (Nat.le_of_ble_eq_true rfl) (Nat.le_of_ble_eq_true rfl) rfl
set_option maxRecDepth 20000 in
theorem ct_Pa_agreeOn {l : Launch} (hl : l.stackTraces = false) (K : KT) (v1 : Nat) (M : Mm) : CTp l K y_Pa_agreeOn (Cond.code y_Pa_agreeOn prog_8_method_10_code 2 (some .boolean)) rvI 5 0 0 [.ref (kA K 26), .ref (kA K v1)] M (fn_Pa_agreeOn v1 M) := by
  refine CTp_of (L := L_Pa_agreeOn) (lc := [(0, .ref (kA K 26)), (1, .ref (kA K v1))]) (by decide +kernel) dec_Pa_agreeOn hl rfl (Nat.le_of_ble_eq_true rfl) (fun X hX => ?_)
  unfold fn_Pa_agreeOn
  refine VV_grd (fun hv1 => ?_)
  refine V_aload_n hX (j := 1) (hj := rfl) 0 1 rfl rfl ?_
  refine V_callI hX 4 0 0 rfl rfl rfl (Nat.le_of_ble_eq_true rfl) (Nat.le_of_ble_eq_true rfl) (VR_V hX 1 (ct_Se_isEmpty (cx_t hX) K v1 M) my_Se_isEmpty mi_Se_isEmpty ms_Se_isEmpty ml_Pa_49 (Nat.le_of_ble_eq_true rfl) (Nat.le_of_ble_eq_true rfl) (loc_ser hv1) (ent_ser K _ hv1) rfl rfl rfl (Nat.le_of_ble_eq_true rfl) rfl (Nat.le_of_ble_eq_true rfl) (Nat.le_of_ble_eq_true rfl)) (fun r1 M1 => ?_)
  refine V_if_ne hX 2 7 19 rfl rfl (by decide) (fun c4 => ?_) (fun c4 => ?_)
  · refine VV_sub [] rfl ?_
    exact bt_Pa_agreeOn_19 hX M1
  · refine V_aload_n hX (j := 0) (hj := rfl) 3 8 rfl rfl ?_
    refine V_aload_n hX (j := 1) (hj := rfl) 4 9 rfl rfl ?_
    refine V_callI hX 12 0 0 rfl rfl rfl (Nat.le_of_ble_eq_true rfl) (Nat.le_of_ble_eq_true rfl) (VR_V hX 5 (ct_Pa_period (cx_t hX) K v1 M1) my_Pa_period mi_Pa_period ms_Pa_period ml_Pa_53 (Nat.le_of_ble_eq_true rfl) (Nat.le_of_ble_eq_true rfl) (by decide) (ent_26 K _) rfl rfl rfl (Nat.le_of_ble_eq_true rfl) rfl (Nat.le_of_ble_eq_true rfl) (Nat.le_of_ble_eq_true rfl)) (fun r9 M9 => ?_)
    refine V_aload_n hX (j := 1) (hj := rfl) 6 13 rfl rfl ?_
    refine V_callI hX 16 0 0 rfl rfl rfl (Nat.le_of_ble_eq_true rfl) (Nat.le_of_ble_eq_true rfl) (VR_S hX 7 (ct_Pa_periodByTrial (cx_t hX) K v1 M9) my_Pa_periodByTrial mt_Pa_periodByTrial ml_Pa_57 (Nat.le_of_ble_eq_true rfl) (Nat.le_of_ble_eq_true rfl) rfl rfl (Nat.le_of_ble_eq_true rfl) rfl (Nat.le_of_ble_eq_true rfl) (Nat.le_of_ble_eq_true rfl)) (fun r13 M13 => ?_)
    refine V_icmp_ne hX 8 19 23 rfl rfl (by decide) (fun c16 => ?_) (fun c16 => ?_)
    · refine V_iconst hX (v := 0) (hv := by decide) 11 24 rfl rfl ?_
      exact V_zret hX 12 rfl rfl (Nat.le_of_ble_eq_true rfl) (Nat.le_of_ble_eq_true rfl) rfl
    · refine VV_sub [] rfl ?_
      exact bt_Pa_agreeOn_19 hX M13
set_option maxRecDepth 20000 in
theorem ct_Se_has {l : Launch} (hl : l.stackTraces = false) (K : KT) (v0 : Nat) (v1 : Int32) (M : Mm) : CTp l K y_Se_has (Cond.code y_Se_has prog_11_method_5_code 2 (some .boolean)) rvI 1 0 0 [.ref (kA K v0), .int v1] M (fn_Se_has v0 v1 M) := by
  refine CTp_of (L := L_Se_has) (lc := [(0, .ref (kA K v0)), (1, .int v1)]) (by decide +kernel) dec_Se_has hl rfl (Nat.le_of_ble_eq_true rfl) (fun X hX => ?_)
  unfold fn_Se_has
  refine VV_grd (fun hv0 => ?_)
  refine V_iload_n hX (j := 1) (hj := rfl) 0 1 rfl rfl ?_
  refine V_if_lt hX 1 4 16 rfl rfl (by decide) (fun c1 => ?_) (fun c1 => ?_)
  · refine V_iconst hX (v := 0) (hv := by decide) 8 17 rfl rfl ?_
    exact V_zret hX 9 rfl rfl (Nat.le_of_ble_eq_true rfl) (Nat.le_of_ble_eq_true rfl) rfl
  · refine V_iload_n hX (j := 1) (hj := rfl) 2 5 rfl rfl ?_
    refine V_aload_n hX (j := 0) (hj := rfl) 3 6 rfl rfl ?_
    refine V_get hX 4 9 v0 (.int (M v0 1)) fl_Se_15 rfl rfl (loc_ser hv0) (ent_ser K _ hv0) rfl ?_
    refine V_icmp_ge hX 5 12 16 rfl rfl (by decide) (fun c9 => ?_) (fun c9 => ?_)
    · refine V_iconst hX (v := 0) (hv := by decide) 8 17 rfl rfl ?_
      exact V_zret hX 9 rfl rfl (Nat.le_of_ble_eq_true rfl) (Nat.le_of_ble_eq_true rfl) rfl
    · refine V_iconst hX (v := 1) (hv := by decide) 6 13 rfl rfl ?_
      refine V_goto hX 7 17 rfl (by decide) ?_
      exact V_zret hX 9 rfl rfl (Nat.le_of_ble_eq_true rfl) (Nat.le_of_ble_eq_true rfl) rfl
set_option maxRecDepth 20000 in
theorem bt_Pe_standsOut_50 {l : Launch} {K : KT} {X : XT} (hX : Cx l K 2 2 0 0 X prog_9_method_2_code "SeriesArchive$Peaks" (some .boolean) [] L_Pe_standsOut) (M : Mm) : VV l K 2 2 0 0 rvI X (fn_Pe_standsOut_50 M) 0 0 M 50 [] [] := by
  unfold fn_Pe_standsOut_50
  refine V_iconst hX (v := 1) (hv := by decide) 30 51 rfl rfl ?_
  refine V_goto hX 31 55 rfl (by decide) ?_
  exact V_zret hX 33 rfl rfl (Nat.le_of_ble_eq_true rfl) (Nat.le_of_ble_eq_true rfl) rfl
set_option maxRecDepth 20000 in
theorem bt_Pe_standsOut_25 {l : Launch} {K : KT} {X : XT} (hX : Cx l K 2 2 0 0 X prog_9_method_2_code "SeriesArchive$Peaks" (some .boolean) [] L_Pe_standsOut) (v0 : Nat) (v1 : Int32) (hv0 : isSer v0) (M : Mm) : VV l K 2 2 0 0 rvI X (fn_Pe_standsOut_25 v0 v1 M) 0 0 M 25 [(0, .ref (kA K v0)), (1, .int v1)] [] := by
  unfold fn_Pe_standsOut_25
  refine V_aload_n hX (j := 0) (hj := rfl) 15 26 rfl rfl ?_
  refine V_iload_n hX (j := 1) (hj := rfl) 16 27 rfl rfl ?_
  refine V_iconst hX (v := 1) (hv := by decide) 17 28 rfl rfl ?_
  refine V_iadd hX 18 29 rfl rfl ?_
  refine V_callI hX 32 0 0 rfl rfl rfl (Nat.le_of_ble_eq_true rfl) (Nat.le_of_ble_eq_true rfl) (VR_V hX 19 (ct_Se_has (cx_t hX) K v0 (v1 + 1) M) my_Se_has mi_Se_has ms_Se_has ml_Pe_9 (Nat.le_of_ble_eq_true rfl) (Nat.le_of_ble_eq_true rfl) (loc_ser hv0) (ent_ser K _ hv0) rfl rfl rfl (Nat.le_of_ble_eq_true rfl) rfl (Nat.le_of_ble_eq_true rfl) (Nat.le_of_ble_eq_true rfl)) (fun r29 M29 => ?_)
  refine V_if_eq hX 20 35 50 rfl rfl (by decide) (fun c32 => ?_) (fun c32 => ?_)
  · refine VV_sub [] rfl ?_
    exact bt_Pe_standsOut_50 hX M29
  · refine V_aload_n hX (j := 0) (hj := rfl) 21 36 rfl rfl ?_
    refine V_iload_n hX (j := 1) (hj := rfl) 22 37 rfl rfl ?_
    refine V_iconst hX (v := 1) (hv := by decide) 23 38 rfl rfl ?_
    refine V_iadd hX 24 39 rfl rfl ?_
    refine V_callI hX 42 0 0 rfl rfl rfl (Nat.le_of_ble_eq_true rfl) (Nat.le_of_ble_eq_true rfl) (VR_V hX 25 (ct_Se_at (cx_t hX) K v0 (v1 + 1) M29) my_Se_at mi_Se_at ms_Se_at ml_Pe_15 (Nat.le_of_ble_eq_true rfl) (Nat.le_of_ble_eq_true rfl) (loc_ser hv0) (ent_ser K _ hv0) rfl rfl rfl (Nat.le_of_ble_eq_true rfl) rfl (Nat.le_of_ble_eq_true rfl) (Nat.le_of_ble_eq_true rfl)) (fun r39 M39 => ?_)
    refine V_aload_n hX (j := 0) (hj := rfl) 26 43 rfl rfl ?_
    refine V_iload_n hX (j := 1) (hj := rfl) 27 44 rfl rfl ?_
    refine V_callI hX 47 0 0 rfl rfl rfl (Nat.le_of_ble_eq_true rfl) (Nat.le_of_ble_eq_true rfl) (VR_V hX 28 (ct_Se_at (cx_t hX) K v0 v1 M39) my_Se_at mi_Se_at ms_Se_at ml_Pe_15 (Nat.le_of_ble_eq_true rfl) (Nat.le_of_ble_eq_true rfl) (loc_ser hv0) (ent_ser K _ hv0) rfl rfl rfl (Nat.le_of_ble_eq_true rfl) rfl (Nat.le_of_ble_eq_true rfl) (Nat.le_of_ble_eq_true rfl)) (fun r44 M44 => ?_)
    refine V_icmp_ge hX 29 50 54 rfl rfl (by decide) (fun c47 => ?_) (fun c47 => ?_)
    · refine V_iconst hX (v := 0) (hv := by decide) 32 55 rfl rfl ?_
      exact V_zret hX 33 rfl rfl (Nat.le_of_ble_eq_true rfl) (Nat.le_of_ble_eq_true rfl) rfl
    · refine VV_sub [] rfl ?_
      exact bt_Pe_standsOut_50 hX M44
set_option maxRecDepth 20000 in
theorem ct_Pe_standsOut {l : Launch} (hl : l.stackTraces = false) (K : KT) (v0 : Nat) (v1 : Int32) (M : Mm) : CTp l K y_Pe_standsOut (Cond.code y_Pe_standsOut prog_9_method_2_code 2 (some .boolean)) rvI 2 0 0 [.ref (kA K v0), .int v1] M (fn_Pe_standsOut v0 v1 M) := by
  refine CTp_of (L := L_Pe_standsOut) (lc := [(0, .ref (kA K v0)), (1, .int v1)]) (by decide +kernel) dec_Pe_standsOut hl rfl (Nat.le_of_ble_eq_true rfl) (fun X hX => ?_)
  unfold fn_Pe_standsOut
  refine VV_grd (fun hv0 => ?_)
  refine V_aload_n hX (j := 0) (hj := rfl) 0 1 rfl rfl ?_
  refine V_iload_n hX (j := 1) (hj := rfl) 1 2 rfl rfl ?_
  refine V_iconst hX (v := 1) (hv := by decide) 2 3 rfl rfl ?_
  refine V_isub hX 3 4 rfl rfl ?_
  refine V_callI hX 7 0 0 rfl rfl rfl (Nat.le_of_ble_eq_true rfl) (Nat.le_of_ble_eq_true rfl) (VR_V hX 4 (ct_Se_has (cx_t hX) K v0 (v1 - 1) M) my_Se_has mi_Se_has ms_Se_has ml_Pe_9 (Nat.le_of_ble_eq_true rfl) (Nat.le_of_ble_eq_true rfl) (loc_ser hv0) (ent_ser K _ hv0) rfl rfl rfl (Nat.le_of_ble_eq_true rfl) rfl (Nat.le_of_ble_eq_true rfl) (Nat.le_of_ble_eq_true rfl)) (fun r4 M4 => ?_)
  refine V_if_eq hX 5 10 25 rfl rfl (by decide) (fun c7 => ?_) (fun c7 => ?_)
  · exact bt_Pe_standsOut_25 hX v0 v1 hv0 M4
  · refine V_aload_n hX (j := 0) (hj := rfl) 6 11 rfl rfl ?_
    refine V_iload_n hX (j := 1) (hj := rfl) 7 12 rfl rfl ?_
    refine V_iconst hX (v := 1) (hv := by decide) 8 13 rfl rfl ?_
    refine V_isub hX 9 14 rfl rfl ?_
    refine V_callI hX 17 0 0 rfl rfl rfl (Nat.le_of_ble_eq_true rfl) (Nat.le_of_ble_eq_true rfl) (VR_V hX 10 (ct_Se_at (cx_t hX) K v0 (v1 - 1) M4) my_Se_at mi_Se_at ms_Se_at ml_Pe_15 (Nat.le_of_ble_eq_true rfl) (Nat.le_of_ble_eq_true rfl) (loc_ser hv0) (ent_ser K _ hv0) rfl rfl rfl (Nat.le_of_ble_eq_true rfl) rfl (Nat.le_of_ble_eq_true rfl) (Nat.le_of_ble_eq_true rfl)) (fun r14 M14 => ?_)
    refine V_aload_n hX (j := 0) (hj := rfl) 11 18 rfl rfl ?_
    refine V_iload_n hX (j := 1) (hj := rfl) 12 19 rfl rfl ?_
    refine V_callI hX 22 0 0 rfl rfl rfl (Nat.le_of_ble_eq_true rfl) (Nat.le_of_ble_eq_true rfl) (VR_V hX 13 (ct_Se_at (cx_t hX) K v0 v1 M14) my_Se_at mi_Se_at ms_Se_at ml_Pe_15 (Nat.le_of_ble_eq_true rfl) (Nat.le_of_ble_eq_true rfl) (loc_ser hv0) (ent_ser K _ hv0) rfl rfl rfl (Nat.le_of_ble_eq_true rfl) rfl (Nat.le_of_ble_eq_true rfl) (Nat.le_of_ble_eq_true rfl)) (fun r19 M19 => ?_)
    refine V_icmp_ge hX 14 25 54 rfl rfl (by decide) (fun c22 => ?_) (fun c22 => ?_)
    · refine V_iconst hX (v := 0) (hv := by decide) 32 55 rfl rfl ?_
      exact V_zret hX 33 rfl rfl (Nat.le_of_ble_eq_true rfl) (Nat.le_of_ble_eq_true rfl) rfl
    · exact bt_Pe_standsOut_25 hX v0 v1 hv0 M19
set_option maxRecDepth 20000 in
theorem bt_Pe_number_26 {l : Launch} {K : KT} {X : XT} (hX : Cx l K 3 3 0 0 X prog_9_method_3_code "SeriesArchive$Peaks" (some .int) [] L_Pe_number) (k4 : Int32 → Int32 → Mm → Rs Int32) (v0 : Nat) (v2 : Int32) (hk4 : ∀ (v1 : Int32) (v2 : Int32) M, VV l K 3 3 0 0 rvI X (k4 v1 v2 M) 0 0 M 4 [(0, .ref (kA K v0)), (1, .int v1), (2, .int v2)] []) (s0 : Int32) (s1 : Int32) (hv0 : isSer v0) (M : Mm) : VV l K 3 3 0 0 rvI X (fn_Pe_number_26 k4 v0 v2 s0 s1 M) 0 0 M 26 [(0, .ref (kA K v0)), (2, .int v2)] [.int s1, .int s0] := by
  unfold fn_Pe_number_26
  refine V_iadd hX 16 27 rfl rfl ?_
  refine VV_li (fun x1_27 hx1_27 => ?_)
  refine V_istore_n hX 17 28 [(1, .int x1_27), (0, .ref (kA K v0)), (2, .int v2)] rfl rfl (Nat.le_of_ble_eq_true rfl) rfl ?_
  refine V_iincL hX 18 31 2 rfl rfl rfl rfl (Nat.le_of_ble_eq_true rfl) (fun x2_28 hx2_28 => ?_)
  refine VV_lc [(2, .int x2_28), (1, .int x1_27), (0, .ref (kA K v0))] rfl ?_
  refine V_goto hX 19 4 rfl (by decide) ?_
  refine VV_sub [2, 1, 0] rfl ?_
  exact hk4 x1_27 x2_28 M
set_option maxRecDepth 20000 in
theorem bt_Pe_number_4 {l : Launch} {K : KT} {X : XT} (hX : Cx l K 3 3 0 0 X prog_9_method_3_code "SeriesArchive$Peaks" (some .int) [] L_Pe_number) (v0 : Nat) (hv0 : isSer v0) : ∀ (n : Nat) (v1 : Int32) (v2 : Int32) (M : Mm), VV l K 3 3 0 0 rvI X (fn_Pe_number_4 v0 n v1 v2 M) 0 0 M 4 [(0, .ref (kA K v0)), (1, .int v1), (2, .int v2)] [] := by
  intro n
  induction n with
  | zero => intro v1 v2 M; exact VV_none
  | succ n ih =>
    intro v1 v2 M
    rw [fn_Pe_number_4]
    refine V_iload_n hX (j := 2) (hj := rfl) 4 5 rfl rfl ?_
    refine V_aload_n hX (j := 0) (hj := rfl) 5 6 rfl rfl ?_
    refine V_callI hX 9 0 0 rfl rfl rfl (Nat.le_of_ble_eq_true rfl) (Nat.le_of_ble_eq_true rfl) (VR_V hX 6 (ct_Se_size (cx_t hX) K v0 M) my_Se_size mi_Se_size ms_Se_size ml_Pe_19 (Nat.le_of_ble_eq_true rfl) (Nat.le_of_ble_eq_true rfl) (loc_ser hv0) (ent_ser K _ hv0) rfl rfl rfl (Nat.le_of_ble_eq_true rfl) rfl (Nat.le_of_ble_eq_true rfl) (Nat.le_of_ble_eq_true rfl)) (fun r6 M6 => ?_)
    refine V_icmp_ge hX 7 12 34 rfl rfl (by decide) (fun c9 => ?_) (fun c9 => ?_)
    · refine V_iload_n hX (j := 1) (hj := rfl) 20 35 rfl rfl ?_
      exact V_iret hX 21 rfl (Nat.le_of_ble_eq_true rfl) (Nat.le_of_ble_eq_true rfl) rfl
    · refine V_iload_n hX (j := 1) (hj := rfl) 8 13 rfl rfl ?_
      refine V_aload_n hX (j := 0) (hj := rfl) 9 14 rfl rfl ?_
      refine V_iload_n hX (j := 2) (hj := rfl) 10 15 rfl rfl ?_
      refine V_callI hX 18 0 0 rfl rfl rfl (Nat.le_of_ble_eq_true rfl) (Nat.le_of_ble_eq_true rfl) (VR_S hX 11 (ct_Pe_standsOut (cx_t hX) K v0 v2 M6) my_Pe_standsOut mt_Pe_standsOut ml_Pe_23 (Nat.le_of_ble_eq_true rfl) (Nat.le_of_ble_eq_true rfl) rfl rfl (Nat.le_of_ble_eq_true rfl) rfl (Nat.le_of_ble_eq_true rfl) (Nat.le_of_ble_eq_true rfl)) (fun r15 M15 => ?_)
      refine V_if_eq hX 12 21 25 rfl rfl (by decide) (fun c18 => ?_) (fun c18 => ?_)
      · refine V_iconst hX (v := 0) (hv := by decide) 15 26 rfl rfl ?_
        refine VV_sub [0, 2] rfl ?_
        exact bt_Pe_number_26 hX (fn_Pe_number_4 v0 n) v0 v2 ih v1 0 hv0 M15
      · refine V_iconst hX (v := 1) (hv := by decide) 13 22 rfl rfl ?_
        refine V_goto hX 14 26 rfl (by decide) ?_
        refine VV_sub [0, 2] rfl ?_
        exact bt_Pe_number_26 hX (fn_Pe_number_4 v0 n) v0 v2 ih v1 1 hv0 M15
set_option maxRecDepth 20000 in
theorem ct_Pe_number {l : Launch} (hl : l.stackTraces = false) (K : KT) (v0 : Nat) (M : Mm) : CTp l K y_Pe_number (Cond.code y_Pe_number prog_9_method_3_code 3 (some .int)) rvI 3 0 0 [.ref (kA K v0)] M (fn_Pe_number v0 M) := by
  refine CTp_of (L := L_Pe_number) (lc := [(0, .ref (kA K v0))]) (by decide +kernel) dec_Pe_number hl rfl (Nat.le_of_ble_eq_true rfl) (fun X hX => ?_)
  unfold fn_Pe_number
  refine VV_grd (fun hv0 => ?_)
  refine V_iconst hX (v := 0) (hv := by decide) 0 1 rfl rfl ?_
  refine V_istore_n hX 1 2 [(1, .int 0), (0, .ref (kA K v0))] rfl rfl (Nat.le_of_ble_eq_true rfl) rfl ?_
  refine V_iconst hX (v := 0) (hv := by decide) 2 3 rfl rfl ?_
  refine V_istore_n hX 3 4 [(2, .int 0), (1, .int 0), (0, .ref (kA K v0))] rfl rfl (Nat.le_of_ble_eq_true rfl) rfl ?_
  refine VV_sub [2, 1, 0] rfl ?_
  exact bt_Pe_number_4 hX v0 hv0 fuel0 0 0 M
set_option maxRecDepth 20000 in
theorem bt_Pe_leastBeside_49 {l : Launch} {K : KT} {X : XT} (hX : Cx l K 2 6 0 0 X prog_9_method_5_code "SeriesArchive$Peaks" (some .int) [] L_Pe_leastBeside) (v3 : Int32) (M : Mm) : VV l K 2 6 0 0 rvI X (fn_Pe_leastBeside_49 v3 M) 0 0 M 49 [(3, .int v3)] [] := by
  unfold fn_Pe_leastBeside_49
  refine V_goto hX 27 69 rfl (by decide) ?_
  refine V_iload_n hX (j := 0) (hj := rfl) 36 70 rfl rfl ?_
  exact V_iret hX 37 rfl (Nat.le_of_ble_eq_true rfl) (Nat.le_of_ble_eq_true rfl) rfl
set_option maxRecDepth 20000 in
theorem bt_Pe_leastBeside_9 {l : Launch} {K : KT} {X : XT} (hX : Cx l K 2 6 0 0 X prog_9_method_5_code "SeriesArchive$Peaks" (some .int) [] L_Pe_leastBeside) (v0 : Nat) (v1 : Int32) (v2 : Int32) (hv0 : isSer v0) : ∀ (n : Nat) (v3 : Int32) (v4 : Int32) (M : Mm), VV l K 2 6 0 0 rvI X (fn_Pe_leastBeside_9 v0 v1 v2 n v3 v4 M) 0 0 M 9 [(0, .ref (kA K v0)), (1, .int v1), (2, .int v2), (3, .int v3), (4, .int v4)] [] := by
  intro n
  induction n with
  | zero => intro v3 v4 M; exact VV_none
  | succ n ih =>
    intro v3 v4 M
    rw [fn_Pe_leastBeside_9]
    refine V_iload hX (j := 4) (hj := rfl) 6 11 rfl rfl ?_
    refine V_aload_n hX (j := 0) (hj := rfl) 7 12 rfl rfl ?_
    refine V_callI hX 15 0 0 rfl rfl rfl (Nat.le_of_ble_eq_true rfl) (Nat.le_of_ble_eq_true rfl) (VR_V hX 8 (ct_Se_size (cx_t hX) K v0 M) my_Se_size mi_Se_size ms_Se_size ml_Pe_19 (Nat.le_of_ble_eq_true rfl) (Nat.le_of_ble_eq_true rfl) (loc_ser hv0) (ent_ser K _ hv0) rfl rfl rfl (Nat.le_of_ble_eq_true rfl) rfl (Nat.le_of_ble_eq_true rfl) (Nat.le_of_ble_eq_true rfl)) (fun r12 M12 => ?_)
    refine V_icmp_ge hX 9 18 69 rfl rfl (by decide) (fun c15 => ?_) (fun c15 => ?_)
    · refine V_iload_n hX (j := 3) (hj := rfl) 36 70 rfl rfl ?_
      exact V_iret hX 37 rfl (Nat.le_of_ble_eq_true rfl) (Nat.le_of_ble_eq_true rfl) rfl
    · refine V_iload_n hX (j := 1) (hj := rfl) 10 19 rfl rfl ?_
      refine V_iload hX (j := 4) (hj := rfl) 11 21 rfl rfl ?_
      refine V_iload_n hX (j := 2) (hj := rfl) 12 22 rfl rfl ?_
      refine V_imul hX 13 23 rfl rfl ?_
      refine V_iadd hX 14 24 rfl rfl ?_
      refine VV_li (fun x5_24 hx5_24 => ?_)
      refine V_istore hX 15 26 [(5, .int x5_24), (0, .ref (kA K v0)), (1, .int v1), (2, .int v2), (3, .int v3), (4, .int v4)] rfl rfl (Nat.le_of_ble_eq_true rfl) rfl ?_
      refine V_aload_n hX (j := 1) (hj := rfl) 16 27 rfl rfl ?_
      refine V_iload hX (j := 0) (hj := rfl) 17 29 rfl rfl ?_
      refine V_callI hX 32 0 0 rfl rfl rfl (Nat.le_of_ble_eq_true rfl) (Nat.le_of_ble_eq_true rfl) (VR_V hX 18 (ct_Se_has (cx_t hX) K v0 x5_24 M12) my_Se_has mi_Se_has ms_Se_has ml_Pe_9 (Nat.le_of_ble_eq_true rfl) (Nat.le_of_ble_eq_true rfl) (loc_ser hv0) (ent_ser K _ hv0) rfl rfl rfl (Nat.le_of_ble_eq_true rfl) rfl (Nat.le_of_ble_eq_true rfl) (Nat.le_of_ble_eq_true rfl)) (fun r29 M29 => ?_)
      refine V_if_eq hX 19 35 69 rfl rfl (by decide) (fun c32 => ?_) (fun c32 => ?_)
      · refine V_iload_n hX (j := 4) (hj := rfl) 36 70 rfl rfl ?_
        exact V_iret hX 37 rfl (Nat.le_of_ble_eq_true rfl) (Nat.le_of_ble_eq_true rfl) rfl
      · refine V_aload_n hX (j := 1) (hj := rfl) 20 36 rfl rfl ?_
        refine V_iload hX (j := 0) (hj := rfl) 21 38 rfl rfl ?_
        refine V_callI hX 41 0 0 rfl rfl rfl (Nat.le_of_ble_eq_true rfl) (Nat.le_of_ble_eq_true rfl) (VR_V hX 22 (ct_Se_at (cx_t hX) K v0 x5_24 M29) my_Se_at mi_Se_at ms_Se_at ml_Pe_15 (Nat.le_of_ble_eq_true rfl) (Nat.le_of_ble_eq_true rfl) (loc_ser hv0) (ent_ser K _ hv0) rfl rfl rfl (Nat.le_of_ble_eq_true rfl) rfl (Nat.le_of_ble_eq_true rfl) (Nat.le_of_ble_eq_true rfl)) (fun r38 M38 => ?_)
        refine V_aload_n hX (j := 1) (hj := rfl) 23 42 rfl rfl ?_
        refine V_iload_n hX (j := 2) (hj := rfl) 24 43 rfl rfl ?_
        refine V_callI hX 46 0 0 rfl rfl rfl (Nat.le_of_ble_eq_true rfl) (Nat.le_of_ble_eq_true rfl) (VR_V hX 25 (ct_Se_at (cx_t hX) K v0 v1 M38) my_Se_at mi_Se_at ms_Se_at ml_Pe_15 (Nat.le_of_ble_eq_true rfl) (Nat.le_of_ble_eq_true rfl) (loc_ser hv0) (ent_ser K _ hv0) rfl rfl rfl (Nat.le_of_ble_eq_true rfl) rfl (Nat.le_of_ble_eq_true rfl) (Nat.le_of_ble_eq_true rfl)) (fun r43 M43 => ?_)
        refine V_icmp_le hX 26 49 52 rfl rfl (by decide) (fun c46 => ?_) (fun c46 => ?_)
        · refine V_iload_n hX (j := 4) (hj := rfl) 28 53 rfl rfl ?_
          refine V_aload_n hX (j := 1) (hj := rfl) 29 54 rfl rfl ?_
          refine V_iload hX (j := 0) (hj := rfl) 30 56 rfl rfl ?_
          refine V_callI hX 59 0 0 rfl rfl rfl (Nat.le_of_ble_eq_true rfl) (Nat.le_of_ble_eq_true rfl) (VR_V hX 31 (ct_Se_at (cx_t hX) K v0 x5_24 M43) my_Se_at mi_Se_at ms_Se_at ml_Pe_15 (Nat.le_of_ble_eq_true rfl) (Nat.le_of_ble_eq_true rfl) (loc_ser hv0) (ent_ser K _ hv0) rfl rfl rfl (Nat.le_of_ble_eq_true rfl) rfl (Nat.le_of_ble_eq_true rfl) (Nat.le_of_ble_eq_true rfl)) (fun r56 M56 => ?_)
          refine V_min hX 32 62 mm_Pe_39 (Nat.le_of_ble_eq_true rfl) (Nat.le_of_ble_eq_true rfl) (Nat.le_of_ble_eq_true rfl) (Nat.le_of_ble_eq_true rfl) rfl rfl ?_
          refine VV_li (fun x3_62 hx3_62 => ?_)
          refine V_istore_n hX 33 63 [(3, .int x3_62), (5, .int x5_24), (0, .ref (kA K v0)), (1, .int v1), (2, .int v2), (4, .int v4)] rfl rfl (Nat.le_of_ble_eq_true rfl) rfl ?_
          refine V_iincL hX 34 66 5 rfl rfl rfl rfl (Nat.le_of_ble_eq_true rfl) (fun x4_63 hx4_63 => ?_)
          refine VV_lc [(4, .int x4_63), (3, .int x3_62), (5, .int x5_24), (0, .ref (kA K v0)), (1, .int v1), (2, .int v2)] rfl ?_
          refine V_goto hX 35 9 rfl (by decide) ?_
          refine VV_sub [3, 4, 5, 1, 0] rfl ?_
          exact ih x3_62 x4_63 M56
        · refine VV_sub [4] rfl ?_
          exact bt_Pe_leastBeside_49 hX v3 M43
set_option maxRecDepth 20000 in
theorem ct_Pe_leastBeside {l : Launch} (hl : l.stackTraces = false) (K : KT) (v0 : Nat) (v1 : Int32) (v2 : Int32) (M : Mm) : CTp l K y_Pe_leastBeside (Cond.code y_Pe_leastBeside prog_9_method_5_code 6 (some .int)) rvI 2 0 0 [.ref (kA K v0), .int v1, .int v2] M (fn_Pe_leastBeside v0 v1 v2 M) := by
  refine CTp_of (L := L_Pe_leastBeside) (lc := [(0, .ref (kA K v0)), (1, .int v1), (2, .int v2)]) (by decide +kernel) dec_Pe_leastBeside hl rfl (Nat.le_of_ble_eq_true rfl) (fun X hX => ?_)
  unfold fn_Pe_leastBeside
  refine VV_grd (fun hv0 => ?_)
  refine V_aload_n hX (j := 0) (hj := rfl) 0 1 rfl rfl ?_
  refine V_iload_n hX (j := 1) (hj := rfl) 1 2 rfl rfl ?_
  refine V_callI hX 5 0 0 rfl rfl rfl (Nat.le_of_ble_eq_true rfl) (Nat.le_of_ble_eq_true rfl) (VR_V hX 2 (ct_Se_at (cx_t hX) K v0 v1 M) my_Se_at mi_Se_at ms_Se_at ml_Pe_15 (Nat.le_of_ble_eq_true rfl) (Nat.le_of_ble_eq_true rfl) (loc_ser hv0) (ent_ser K _ hv0) rfl rfl rfl (Nat.le_of_ble_eq_true rfl) rfl (Nat.le_of_ble_eq_true rfl) (Nat.le_of_ble_eq_true rfl)) (fun r2 M2 => ?_)
  refine V_istore_n hX 3 6 [(3, .int r2), (0, .ref (kA K v0)), (1, .int v1), (2, .int v2)] rfl rfl (Nat.le_of_ble_eq_true rfl) rfl ?_
  refine V_iconst hX (v := 1) (hv := by decide) 4 7 rfl rfl ?_
  refine V_istore hX 5 9 [(4, .int 1), (3, .int r2), (0, .ref (kA K v0)), (1, .int v1), (2, .int v2)] rfl rfl (Nat.le_of_ble_eq_true rfl) rfl ?_
  refine VV_sub [2, 3, 4, 1, 0] rfl ?_
  exact bt_Pe_leastBeside_9 hX v0 v1 v2 hv0 fuel0 r2 1 M2
set_option maxRecDepth 20000 in
theorem bt_Pe_heightBySides_58 {l : Launch} {K : KT} {X : XT} (hX : Cx l K 3 6 0 0 X prog_9_method_4_code "SeriesArchive$Peaks" (some .int) [] L_Pe_heightBySides) (v0 : Nat) (v1 : Int32) (v4 : Int32) (s0 : Int32) (hv0 : isSer v0) (M : Mm) : VV l K 3 6 0 0 rvI X (fn_Pe_heightBySides_58 v0 v1 v4 s0 M) 0 0 M 58 [(0, .ref (kA K v0)), (1, .int v1), (4, .int v4)] [.int s0] := by
  unfold fn_Pe_heightBySides_58
  refine V_istore hX 35 60 [(5, .int s0), (0, .ref (kA K v0)), (1, .int v1), (4, .int v4)] rfl rfl (Nat.le_of_ble_eq_true rfl) rfl ?_
  refine V_aload_n hX (j := 1) (hj := rfl) 36 61 rfl rfl ?_
  refine V_iload_n hX (j := 2) (hj := rfl) 37 62 rfl rfl ?_
  refine V_callI hX 65 0 0 rfl rfl rfl (Nat.le_of_ble_eq_true rfl) (Nat.le_of_ble_eq_true rfl) (VR_V hX 38 (ct_Se_at (cx_t hX) K v0 v1 M) my_Se_at mi_Se_at ms_Se_at ml_Pe_15 (Nat.le_of_ble_eq_true rfl) (Nat.le_of_ble_eq_true rfl) (loc_ser hv0) (ent_ser K _ hv0) rfl rfl rfl (Nat.le_of_ble_eq_true rfl) rfl (Nat.le_of_ble_eq_true rfl) (Nat.le_of_ble_eq_true rfl)) (fun r62 M62 => ?_)
  refine V_iload hX (j := 3) (hj := rfl) 39 67 rfl rfl ?_
  refine V_iload hX (j := 0) (hj := rfl) 40 69 rfl rfl ?_
  refine V_max hX 41 72 mm_Pe_33 (Nat.le_of_ble_eq_true rfl) (Nat.le_of_ble_eq_true rfl) (Nat.le_of_ble_eq_true rfl) (Nat.le_of_ble_eq_true rfl) rfl rfl ?_
  refine V_isub hX 42 73 rfl rfl ?_
  exact V_iret hX 43 rfl (Nat.le_of_ble_eq_true rfl) (Nat.le_of_ble_eq_true rfl) rfl
set_option maxRecDepth 20000 in
theorem bt_Pe_heightBySides_41 {l : Launch} {K : KT} {X : XT} (hX : Cx l K 3 6 0 0 X prog_9_method_4_code "SeriesArchive$Peaks" (some .int) [] L_Pe_heightBySides) (v0 : Nat) (v1 : Int32) (v3 : Int32) (s0 : Int32) (hv0 : isSer v0) (M : Mm) : VV l K 3 6 0 0 rvI X (fn_Pe_heightBySides_41 v0 v1 v3 s0 M) 0 0 M 41 [(0, .ref (kA K v0)), (1, .int v1), (3, .int v3)] [.int s0] := by
  unfold fn_Pe_heightBySides_41
  refine V_istore hX 26 43 [(4, .int s0), (0, .ref (kA K v0)), (1, .int v1), (3, .int v3)] rfl rfl (Nat.le_of_ble_eq_true rfl) rfl ?_
  refine V_iload_n hX (j := 3) (hj := rfl) 27 44 rfl rfl ?_
  refine V_if_eq hX 28 47 56 rfl rfl (by decide) (fun c44 => ?_) (fun c44 => ?_)
  · refine V_bipush hX (v := (-99)) (hv := by decide) 34 58 rfl rfl ?_
    refine VV_sub [1, 2, 0] rfl ?_
    exact bt_Pe_heightBySides_58 hX v0 v1 s0 (-99) hv0 M
  · refine V_aload_n hX (j := 1) (hj := rfl) 29 48 rfl rfl ?_
    refine V_iload_n hX (j := 2) (hj := rfl) 30 49 rfl rfl ?_
    refine V_iconst hX (v := 1) (hv := by decide) 31 50 rfl rfl ?_
    refine V_callI hX 53 0 0 rfl rfl rfl (Nat.le_of_ble_eq_true rfl) (Nat.le_of_ble_eq_true rfl) (VR_S hX 32 (ct_Pe_leastBeside (cx_t hX) K v0 v1 1 M) my_Pe_leastBeside mt_Pe_leastBeside ml_Pe_29 (Nat.le_of_ble_eq_true rfl) (Nat.le_of_ble_eq_true rfl) rfl rfl (Nat.le_of_ble_eq_true rfl) rfl (Nat.le_of_ble_eq_true rfl) (Nat.le_of_ble_eq_true rfl)) (fun r50 M50 => ?_)
    refine V_goto hX 33 58 rfl (by decide) ?_
    refine VV_sub [1, 2, 0] rfl ?_
    exact bt_Pe_heightBySides_58 hX v0 v1 s0 r50 hv0 M50
set_option maxRecDepth 20000 in
theorem bt_Pe_heightBySides_26 {l : Launch} {K : KT} {X : XT} (hX : Cx l K 3 6 0 0 X prog_9_method_4_code "SeriesArchive$Peaks" (some .int) [] L_Pe_heightBySides) (v0 : Nat) (v1 : Int32) (v2 : Int32) (v3 : Int32) (hv0 : isSer v0) (M : Mm) : VV l K 3 6 0 0 rvI X (fn_Pe_heightBySides_26 v0 v1 v2 v3 M) 0 0 M 26 [(0, .ref (kA K v0)), (1, .int v1), (2, .int v2), (3, .int v3)] [] := by
  unfold fn_Pe_heightBySides_26
  refine V_iload_n hX (j := 2) (hj := rfl) 18 27 rfl rfl ?_
  refine V_if_eq hX 19 30 39 rfl rfl (by decide) (fun c27 => ?_) (fun c27 => ?_)
  · refine V_bipush hX (v := (-99)) (hv := by decide) 25 41 rfl rfl ?_
    refine VV_sub [0, 1, 3] rfl ?_
    exact bt_Pe_heightBySides_41 hX v0 v1 v3 (-99) hv0 M
  · refine V_aload_n hX (j := 0) (hj := rfl) 20 31 rfl rfl ?_
    refine V_iload_n hX (j := 1) (hj := rfl) 21 32 rfl rfl ?_
    refine V_iconst hX (v := (-1)) (hv := by decide) 22 33 rfl rfl ?_
    refine V_callI hX 36 0 0 rfl rfl rfl (Nat.le_of_ble_eq_true rfl) (Nat.le_of_ble_eq_true rfl) (VR_S hX 23 (ct_Pe_leastBeside (cx_t hX) K v0 v1 (-1) M) my_Pe_leastBeside mt_Pe_leastBeside ml_Pe_29 (Nat.le_of_ble_eq_true rfl) (Nat.le_of_ble_eq_true rfl) rfl rfl (Nat.le_of_ble_eq_true rfl) rfl (Nat.le_of_ble_eq_true rfl) (Nat.le_of_ble_eq_true rfl)) (fun r33 M33 => ?_)
    refine V_goto hX 24 41 rfl (by decide) ?_
    refine VV_sub [0, 1, 3] rfl ?_
    exact bt_Pe_heightBySides_41 hX v0 v1 v3 r33 hv0 M33
set_option maxRecDepth 20000 in
theorem ct_Pe_heightBySides {l : Launch} (hl : l.stackTraces = false) (K : KT) (v0 : Nat) (v1 : Int32) (M : Mm) : CTp l K y_Pe_heightBySides (Cond.code y_Pe_heightBySides prog_9_method_4_code 6 (some .int)) rvI 3 0 0 [.ref (kA K v0), .int v1] M (fn_Pe_heightBySides v0 v1 M) := by
  refine CTp_of (L := L_Pe_heightBySides) (lc := [(0, .ref (kA K v0)), (1, .int v1)]) (by decide +kernel) dec_Pe_heightBySides hl rfl (Nat.le_of_ble_eq_true rfl) (fun X hX => ?_)
  unfold fn_Pe_heightBySides
  refine VV_grd (fun hv0 => ?_)
  refine V_aload_n hX (j := 0) (hj := rfl) 0 1 rfl rfl ?_
  refine V_iload_n hX (j := 1) (hj := rfl) 1 2 rfl rfl ?_
  refine V_iconst hX (v := 1) (hv := by decide) 2 3 rfl rfl ?_
  refine V_isub hX 3 4 rfl rfl ?_
  refine V_callI hX 7 0 0 rfl rfl rfl (Nat.le_of_ble_eq_true rfl) (Nat.le_of_ble_eq_true rfl) (VR_V hX 4 (ct_Se_has (cx_t hX) K v0 (v1 - 1) M) my_Se_has mi_Se_has ms_Se_has ml_Pe_9 (Nat.le_of_ble_eq_true rfl) (Nat.le_of_ble_eq_true rfl) (loc_ser hv0) (ent_ser K _ hv0) rfl rfl rfl (Nat.le_of_ble_eq_true rfl) rfl (Nat.le_of_ble_eq_true rfl) (Nat.le_of_ble_eq_true rfl)) (fun r4 M4 => ?_)
  refine V_istore_n hX 5 8 [(2, .int r4), (0, .ref (kA K v0)), (1, .int v1)] rfl rfl (Nat.le_of_ble_eq_true rfl) rfl ?_
  refine V_aload_n hX (j := 1) (hj := rfl) 6 9 rfl rfl ?_
  refine V_iload_n hX (j := 2) (hj := rfl) 7 10 rfl rfl ?_
  refine V_iconst hX (v := 1) (hv := by decide) 8 11 rfl rfl ?_
  refine V_iadd hX 9 12 rfl rfl ?_
  refine V_callI hX 15 0 0 rfl rfl rfl (Nat.le_of_ble_eq_true rfl) (Nat.le_of_ble_eq_true rfl) (VR_V hX 10 (ct_Se_has (cx_t hX) K v0 (v1 + 1) M4) my_Se_has mi_Se_has ms_Se_has ml_Pe_9 (Nat.le_of_ble_eq_true rfl) (Nat.le_of_ble_eq_true rfl) (loc_ser hv0) (ent_ser K _ hv0) rfl rfl rfl (Nat.le_of_ble_eq_true rfl) rfl (Nat.le_of_ble_eq_true rfl) (Nat.le_of_ble_eq_true rfl)) (fun r12 M12 => ?_)
  refine V_istore_n hX 11 16 [(3, .int r12), (2, .int r4), (0, .ref (kA K v0)), (1, .int v1)] rfl rfl (Nat.le_of_ble_eq_true rfl) rfl ?_
  refine V_iload_n hX (j := 1) (hj := rfl) 12 17 rfl rfl ?_
  refine V_if_ne hX 13 20 26 rfl rfl (by decide) (fun c17 => ?_) (fun c17 => ?_)
  · refine VV_sub [2, 3, 1, 0] rfl ?_
    exact bt_Pe_heightBySides_26 hX v0 v1 r4 r12 hv0 M12
  · refine V_iload_n hX (j := 0) (hj := rfl) 14 21 rfl rfl ?_
    refine V_if_ne hX 15 24 26 rfl rfl (by decide) (fun c21 => ?_) (fun c21 => ?_)
    · refine VV_sub [2, 3, 1, 0] rfl ?_
      exact bt_Pe_heightBySides_26 hX v0 v1 r4 r12 hv0 M12
    · refine V_iconst hX (v := 0) (hv := by decide) 16 25 rfl rfl ?_
      exact V_iret hX 17 rfl (Nat.le_of_ble_eq_true rfl) (Nat.le_of_ble_eq_true rfl) rfl
set_option maxRecDepth 20000 in
theorem bt_Pe_reaches_3 {l : Launch} {K : KT} {X : XT} (hX : Cx l K 2 6 0 0 X prog_9_method_7_code "SeriesArchive$Peaks" (some .boolean) [] L_Pe_reaches) (v0 : Nat) (v1 : Int32) (v2 : Int32) (v3 : Int32) (hv0 : isSer v0) : ∀ (n : Nat) (v4 : Int32) (M : Mm), VV l K 2 6 0 0 rvI X (fn_Pe_reaches_3 v0 v1 v2 v3 n v4 M) 0 0 M 3 [(0, .ref (kA K v0)), (1, .int v1), (2, .int v2), (3, .int v3), (4, .int v4)] [] := by
  intro n
  induction n with
  | zero => intro v4 M; exact VV_none
  | succ n ih =>
    intro v4 M
    rw [fn_Pe_reaches_3]
    refine V_iload hX (j := 4) (hj := rfl) 2 5 rfl rfl ?_
    refine V_aload_n hX (j := 0) (hj := rfl) 3 6 rfl rfl ?_
    refine V_callI hX 9 0 0 rfl rfl rfl (Nat.le_of_ble_eq_true rfl) (Nat.le_of_ble_eq_true rfl) (VR_V hX 4 (ct_Se_size (cx_t hX) K v0 M) my_Se_size mi_Se_size ms_Se_size ml_Pe_19 (Nat.le_of_ble_eq_true rfl) (Nat.le_of_ble_eq_true rfl) (loc_ser hv0) (ent_ser K _ hv0) rfl rfl rfl (Nat.le_of_ble_eq_true rfl) rfl (Nat.le_of_ble_eq_true rfl) (Nat.le_of_ble_eq_true rfl)) (fun r6 M6 => ?_)
    refine V_icmp_ge hX 5 12 74 rfl rfl (by decide) (fun c9 => ?_) (fun c9 => ?_)
    · refine V_iconst hX (v := 0) (hv := by decide) 40 75 rfl rfl ?_
      exact V_zret hX 41 rfl rfl (Nat.le_of_ble_eq_true rfl) (Nat.le_of_ble_eq_true rfl) rfl
    · refine V_iload_n hX (j := 1) (hj := rfl) 6 13 rfl rfl ?_
      refine V_iload hX (j := 4) (hj := rfl) 7 15 rfl rfl ?_
      refine V_iload_n hX (j := 3) (hj := rfl) 8 16 rfl rfl ?_
      refine V_imul hX 9 17 rfl rfl ?_
      refine V_iadd hX 10 18 rfl rfl ?_
      refine VV_li (fun x5_18 hx5_18 => ?_)
      refine V_istore hX 11 20 [(5, .int x5_18), (0, .ref (kA K v0)), (1, .int v1), (2, .int v2), (3, .int v3), (4, .int v4)] rfl rfl (Nat.le_of_ble_eq_true rfl) rfl ?_
      refine V_aload_n hX (j := 1) (hj := rfl) 12 21 rfl rfl ?_
      refine V_iload hX (j := 0) (hj := rfl) 13 23 rfl rfl ?_
      refine V_callI hX 26 0 0 rfl rfl rfl (Nat.le_of_ble_eq_true rfl) (Nat.le_of_ble_eq_true rfl) (VR_V hX 14 (ct_Se_has (cx_t hX) K v0 x5_18 M6) my_Se_has mi_Se_has ms_Se_has ml_Pe_9 (Nat.le_of_ble_eq_true rfl) (Nat.le_of_ble_eq_true rfl) (loc_ser hv0) (ent_ser K _ hv0) rfl rfl rfl (Nat.le_of_ble_eq_true rfl) rfl (Nat.le_of_ble_eq_true rfl) (Nat.le_of_ble_eq_true rfl)) (fun r23 M23 => ?_)
      refine V_if_eq hX 15 29 39 rfl rfl (by decide) (fun c26 => ?_) (fun c26 => ?_)
      · refine V_iconst hX (v := 0) (hv := by decide) 21 40 rfl rfl ?_
        exact V_zret hX 22 rfl rfl (Nat.le_of_ble_eq_true rfl) (Nat.le_of_ble_eq_true rfl) rfl
      · refine V_aload_n hX (j := 1) (hj := rfl) 16 30 rfl rfl ?_
        refine V_iload hX (j := 0) (hj := rfl) 17 32 rfl rfl ?_
        refine V_callI hX 35 0 0 rfl rfl rfl (Nat.le_of_ble_eq_true rfl) (Nat.le_of_ble_eq_true rfl) (VR_V hX 18 (ct_Se_at (cx_t hX) K v0 x5_18 M23) my_Se_at mi_Se_at ms_Se_at ml_Pe_15 (Nat.le_of_ble_eq_true rfl) (Nat.le_of_ble_eq_true rfl) (loc_ser hv0) (ent_ser K _ hv0) rfl rfl rfl (Nat.le_of_ble_eq_true rfl) rfl (Nat.le_of_ble_eq_true rfl) (Nat.le_of_ble_eq_true rfl)) (fun r32 M32 => ?_)
        refine V_iload_n hX (j := 3) (hj := rfl) 19 36 rfl rfl ?_
        refine V_icmp_ge hX 20 39 41 rfl rfl (by decide) (fun c36 => ?_) (fun c36 => ?_)
        · refine V_aload_n hX (j := 1) (hj := rfl) 23 42 rfl rfl ?_
          refine V_iload hX (j := 0) (hj := rfl) 24 44 rfl rfl ?_
          refine V_callI hX 47 0 0 rfl rfl rfl (Nat.le_of_ble_eq_true rfl) (Nat.le_of_ble_eq_true rfl) (VR_V hX 25 (ct_Se_at (cx_t hX) K v0 x5_18 M32) my_Se_at mi_Se_at ms_Se_at ml_Pe_15 (Nat.le_of_ble_eq_true rfl) (Nat.le_of_ble_eq_true rfl) (loc_ser hv0) (ent_ser K _ hv0) rfl rfl rfl (Nat.le_of_ble_eq_true rfl) rfl (Nat.le_of_ble_eq_true rfl) (Nat.le_of_ble_eq_true rfl)) (fun r44 M44 => ?_)
          refine V_aload_n hX (j := 1) (hj := rfl) 26 48 rfl rfl ?_
          refine V_iload_n hX (j := 2) (hj := rfl) 27 49 rfl rfl ?_
          refine V_callI hX 52 0 0 rfl rfl rfl (Nat.le_of_ble_eq_true rfl) (Nat.le_of_ble_eq_true rfl) (VR_V hX 28 (ct_Se_at (cx_t hX) K v0 v1 M44) my_Se_at mi_Se_at ms_Se_at ml_Pe_15 (Nat.le_of_ble_eq_true rfl) (Nat.le_of_ble_eq_true rfl) (loc_ser hv0) (ent_ser K _ hv0) rfl rfl rfl (Nat.le_of_ble_eq_true rfl) rfl (Nat.le_of_ble_eq_true rfl) (Nat.le_of_ble_eq_true rfl)) (fun r49 M49 => ?_)
          refine V_icmp_gt hX 29 55 66 rfl rfl (by decide) (fun c52 => ?_) (fun c52 => ?_)
          · refine V_iconst hX (v := 1) (hv := by decide) 36 67 rfl rfl ?_
            exact V_zret hX 37 rfl rfl (Nat.le_of_ble_eq_true rfl) (Nat.le_of_ble_eq_true rfl) rfl
          · refine V_aload_n hX (j := 1) (hj := rfl) 30 56 rfl rfl ?_
            refine V_iload hX (j := 0) (hj := rfl) 31 58 rfl rfl ?_
            refine V_iload_n hX (j := 4) (hj := rfl) 32 59 rfl rfl ?_
            refine V_iadd hX 33 60 rfl rfl ?_
            refine V_callI hX 63 0 0 rfl rfl rfl (Nat.le_of_ble_eq_true rfl) (Nat.le_of_ble_eq_true rfl) (VR_V hX 34 (ct_Se_has (cx_t hX) K v0 (x5_18 + v3) M49) my_Se_has mi_Se_has ms_Se_has ml_Pe_9 (Nat.le_of_ble_eq_true rfl) (Nat.le_of_ble_eq_true rfl) (loc_ser hv0) (ent_ser K _ hv0) rfl rfl rfl (Nat.le_of_ble_eq_true rfl) rfl (Nat.le_of_ble_eq_true rfl) (Nat.le_of_ble_eq_true rfl)) (fun r60 M60 => ?_)
            refine V_if_ne hX 35 66 68 rfl rfl (by decide) (fun c63 => ?_) (fun c63 => ?_)
            · refine V_iincL hX 38 71 5 rfl rfl rfl rfl (Nat.le_of_ble_eq_true rfl) (fun x4_68 hx4_68 => ?_)
              refine VV_lc [(4, .int x4_68), (5, .int x5_18), (0, .ref (kA K v0)), (1, .int v1), (2, .int v2), (3, .int v3)] rfl ?_
              refine V_goto hX 39 3 rfl (by decide) ?_
              refine VV_sub [2, 3, 4, 5, 0] rfl ?_
              exact ih x4_68 M60
            · refine V_iconst hX (v := 1) (hv := by decide) 36 67 rfl rfl ?_
              exact V_zret hX 37 rfl rfl (Nat.le_of_ble_eq_true rfl) (Nat.le_of_ble_eq_true rfl) rfl
        · refine V_iconst hX (v := 0) (hv := by decide) 21 40 rfl rfl ?_
          exact V_zret hX 22 rfl rfl (Nat.le_of_ble_eq_true rfl) (Nat.le_of_ble_eq_true rfl) rfl
set_option maxRecDepth 20000 in
theorem ct_Pe_reaches {l : Launch} (hl : l.stackTraces = false) (K : KT) (v0 : Nat) (v1 : Int32) (v2 : Int32) (v3 : Int32) (M : Mm) : CTp l K y_Pe_reaches (Cond.code y_Pe_reaches prog_9_method_7_code 6 (some .boolean)) rvI 2 0 0 [.ref (kA K v0), .int v1, .int v2, .int v3] M (fn_Pe_reaches v0 v1 v2 v3 M) := by
  refine CTp_of (L := L_Pe_reaches) (lc := [(0, .ref (kA K v0)), (1, .int v1), (2, .int v2), (3, .int v3)]) (by decide +kernel) dec_Pe_reaches hl rfl (Nat.le_of_ble_eq_true rfl) (fun X hX => ?_)
  unfold fn_Pe_reaches
  refine VV_grd (fun hv0 => ?_)
  refine V_iconst hX (v := 1) (hv := by decide) 0 1 rfl rfl ?_
  refine V_istore hX 1 3 [(4, .int 1), (0, .ref (kA K v0)), (1, .int v1), (2, .int v2), (3, .int v3)] rfl rfl (Nat.le_of_ble_eq_true rfl) rfl ?_
  refine VV_sub [1, 2, 3, 4, 0] rfl ?_
  exact bt_Pe_reaches_3 hX v0 v1 v2 v3 hv0 fuel0 1 M
set_option maxRecDepth 20000 in
theorem bt_Pe_heightByLevels_34 {l : Launch} {K : KT} {X : XT} (hX : Cx l K 3 4 0 0 X prog_9_method_6_code "SeriesArchive$Peaks" (some .int) [] L_Pe_heightByLevels) (v2 : Int32) (v3 : Int32) (M : Mm) : VV l K 3 4 0 0 rvI X (fn_Pe_heightByLevels_34 v2 v3 M) 0 0 M 34 [(2, .int v2), (3, .int v3)] [] := by
  unfold fn_Pe_heightByLevels_34
  refine V_iload_n hX (j := 0) (hj := rfl) 21 35 rfl rfl ?_
  refine V_iload_n hX (j := 1) (hj := rfl) 22 36 rfl rfl ?_
  refine V_isub hX 23 37 rfl rfl ?_
  exact V_iret hX 24 rfl (Nat.le_of_ble_eq_true rfl) (Nat.le_of_ble_eq_true rfl) rfl
set_option maxRecDepth 20000 in
theorem bt_Pe_heightByLevels_8 {l : Launch} {K : KT} {X : XT} (hX : Cx l K 3 4 0 0 X prog_9_method_6_code "SeriesArchive$Peaks" (some .int) [] L_Pe_heightByLevels) (v0 : Nat) (v1 : Int32) (v2 : Int32) (hv0 : isSer v0) : ∀ (n : Nat) (v3 : Int32) (M : Mm), VV l K 3 4 0 0 rvI X (fn_Pe_heightByLevels_8 v0 v1 v2 n v3 M) 0 0 M 8 [(0, .ref (kA K v0)), (1, .int v1), (2, .int v2), (3, .int v3)] [] := by
  intro n
  induction n with
  | zero => intro v3 M; exact VV_none
  | succ n ih =>
    intro v3 M
    rw [fn_Pe_heightByLevels_8]
    refine V_iload_n hX (j := 3) (hj := rfl) 6 9 rfl rfl ?_
    refine V_bipush hX (v := (-99)) (hv := by decide) 7 11 rfl rfl ?_
    refine V_icmp_lt hX 8 14 44 rfl rfl (by decide) (fun c11 => ?_) (fun c11 => ?_)
    · refine V_iconst hX (v := 0) (hv := by decide) 27 45 rfl rfl ?_
      exact V_iret hX 28 rfl (Nat.le_of_ble_eq_true rfl) (Nat.le_of_ble_eq_true rfl) rfl
    · refine V_aload_n hX (j := 0) (hj := rfl) 9 15 rfl rfl ?_
      refine V_iload_n hX (j := 1) (hj := rfl) 10 16 rfl rfl ?_
      refine V_iload_n hX (j := 3) (hj := rfl) 11 17 rfl rfl ?_
      refine V_iconst hX (v := (-1)) (hv := by decide) 12 18 rfl rfl ?_
      refine V_callI hX 21 0 0 rfl rfl rfl (Nat.le_of_ble_eq_true rfl) (Nat.le_of_ble_eq_true rfl) (VR_S hX 13 (ct_Pe_reaches (cx_t hX) K v0 v1 v3 (-1) M) my_Pe_reaches mt_Pe_reaches ml_Pe_42 (Nat.le_of_ble_eq_true rfl) (Nat.le_of_ble_eq_true rfl) rfl rfl (Nat.le_of_ble_eq_true rfl) rfl (Nat.le_of_ble_eq_true rfl) (Nat.le_of_ble_eq_true rfl)) (fun r18 M18 => ?_)
      refine V_if_ne hX 14 24 34 rfl rfl (by decide) (fun c21 => ?_) (fun c21 => ?_)
      · refine VV_sub [2, 3] rfl ?_
        exact bt_Pe_heightByLevels_34 hX v2 v3 M18
      · refine V_aload_n hX (j := 0) (hj := rfl) 15 25 rfl rfl ?_
        refine V_iload_n hX (j := 1) (hj := rfl) 16 26 rfl rfl ?_
        refine V_iload_n hX (j := 3) (hj := rfl) 17 27 rfl rfl ?_
        refine V_iconst hX (v := 1) (hv := by decide) 18 28 rfl rfl ?_
        refine V_callI hX 31 0 0 rfl rfl rfl (Nat.le_of_ble_eq_true rfl) (Nat.le_of_ble_eq_true rfl) (VR_S hX 19 (ct_Pe_reaches (cx_t hX) K v0 v1 v3 1 M18) my_Pe_reaches mt_Pe_reaches ml_Pe_42 (Nat.le_of_ble_eq_true rfl) (Nat.le_of_ble_eq_true rfl) rfl rfl (Nat.le_of_ble_eq_true rfl) rfl (Nat.le_of_ble_eq_true rfl) (Nat.le_of_ble_eq_true rfl)) (fun r28 M28 => ?_)
        refine V_if_eq hX 20 34 38 rfl rfl (by decide) (fun c31 => ?_) (fun c31 => ?_)
        · refine V_iincL hX 25 41 3 rfl rfl rfl rfl (Nat.le_of_ble_eq_true rfl) (fun x3_38 hx3_38 => ?_)
          refine VV_lc [(3, .int x3_38), (0, .ref (kA K v0)), (1, .int v1), (2, .int v2)] rfl ?_
          refine V_goto hX 26 8 rfl (by decide) ?_
          refine VV_sub [1, 2, 3, 0] rfl ?_
          exact ih x3_38 M28
        · refine VV_sub [2, 3] rfl ?_
          exact bt_Pe_heightByLevels_34 hX v2 v3 M28
set_option maxRecDepth 20000 in
theorem ct_Pe_heightByLevels {l : Launch} (hl : l.stackTraces = false) (K : KT) (v0 : Nat) (v1 : Int32) (M : Mm) : CTp l K y_Pe_heightByLevels (Cond.code y_Pe_heightByLevels prog_9_method_6_code 4 (some .int)) rvI 3 0 0 [.ref (kA K v0), .int v1] M (fn_Pe_heightByLevels v0 v1 M) := by
  refine CTp_of (L := L_Pe_heightByLevels) (lc := [(0, .ref (kA K v0)), (1, .int v1)]) (by decide +kernel) dec_Pe_heightByLevels hl rfl (Nat.le_of_ble_eq_true rfl) (fun X hX => ?_)
  unfold fn_Pe_heightByLevels
  refine VV_grd (fun hv0 => ?_)
  refine V_aload_n hX (j := 0) (hj := rfl) 0 1 rfl rfl ?_
  refine V_iload_n hX (j := 1) (hj := rfl) 1 2 rfl rfl ?_
  refine V_callI hX 5 0 0 rfl rfl rfl (Nat.le_of_ble_eq_true rfl) (Nat.le_of_ble_eq_true rfl) (VR_V hX 2 (ct_Se_at (cx_t hX) K v0 v1 M) my_Se_at mi_Se_at ms_Se_at ml_Pe_15 (Nat.le_of_ble_eq_true rfl) (Nat.le_of_ble_eq_true rfl) (loc_ser hv0) (ent_ser K _ hv0) rfl rfl rfl (Nat.le_of_ble_eq_true rfl) rfl (Nat.le_of_ble_eq_true rfl) (Nat.le_of_ble_eq_true rfl)) (fun r2 M2 => ?_)
  refine V_istore_n hX 3 6 [(2, .int r2), (0, .ref (kA K v0)), (1, .int v1)] rfl rfl (Nat.le_of_ble_eq_true rfl) rfl ?_
  refine V_iload_n hX (j := 0) (hj := rfl) 4 7 rfl rfl ?_
  refine V_istore_n hX 5 8 [(3, .int r2), (2, .int r2), (0, .ref (kA K v0)), (1, .int v1)] rfl rfl (Nat.le_of_ble_eq_true rfl) rfl ?_
  refine VV_sub [2, 3, 1, 0] rfl ?_
  exact bt_Pe_heightByLevels_8 hX v0 v1 r2 hv0 fuel0 r2 M2
set_option maxRecDepth 20000 in
theorem bt_Pe_rankOf_63 {l : Launch} {K : KT} {X : XT} (hX : Cx l K 4 6 0 0 X prog_9_method_9_code "SeriesArchive$Peaks" (some .int) [] L_Pe_rankOf) (k11 : Int32 → Int32 → Mm → Rs Int32) (v0 : Nat) (v1 : Int32) (v2 : Int32) (v3 : Int32) (v4 : Int32) (hk11 : ∀ (v3 : Int32) (v4 : Int32) M, VV l K 4 6 0 0 rvI X (k11 v3 v4 M) 0 0 M 11 [(0, .ref (kA K v0)), (1, .int v1), (2, .int v2), (3, .int v3), (4, .int v4)] []) (hv0 : isSer v0) (M : Mm) : VV l K 4 6 0 0 rvI X (fn_Pe_rankOf_63 k11 v0 v1 v2 v3 v4 M) 0 0 M 63 [(0, .ref (kA K v0)), (1, .int v1), (2, .int v2), (3, .int v3), (4, .int v4)] [] := by
  unfold fn_Pe_rankOf_63
  refine V_iincL hX 35 66 4 rfl rfl rfl rfl (Nat.le_of_ble_eq_true rfl) (fun x4_63 hx4_63 => ?_)
  refine VV_lc [(4, .int x4_63), (0, .ref (kA K v0)), (1, .int v1), (2, .int v2), (3, .int v3)] rfl ?_
  refine V_goto hX 36 11 rfl (by decide) ?_
  refine VV_sub [1, 2, 3, 4, 0] rfl ?_
  exact hk11 v3 x4_63 M
set_option maxRecDepth 20000 in
theorem bt_Pe_rankOf_61 {l : Launch} {K : KT} {X : XT} (hX : Cx l K 4 6 0 0 X prog_9_method_9_code "SeriesArchive$Peaks" (some .int) [] L_Pe_rankOf) (k11 : Int32 → Int32 → Mm → Rs Int32) (v0 : Nat) (v1 : Int32) (v2 : Int32) (v4 : Int32) (hk11 : ∀ (v3 : Int32) (v4 : Int32) M, VV l K 4 6 0 0 rvI X (k11 v3 v4 M) 0 0 M 11 [(0, .ref (kA K v0)), (1, .int v1), (2, .int v2), (3, .int v3), (4, .int v4)] []) (s0 : Int32) (s1 : Int32) (hv0 : isSer v0) (M : Mm) : VV l K 4 6 0 0 rvI X (fn_Pe_rankOf_61 k11 v0 v1 v2 v4 s0 s1 M) 0 0 M 61 [(0, .ref (kA K v0)), (1, .int v1), (2, .int v2), (4, .int v4)] [.int s1, .int s0] := by
  unfold fn_Pe_rankOf_61
  refine V_iadd hX 33 62 rfl rfl ?_
  refine VV_li (fun x3_62 hx3_62 => ?_)
  refine V_istore_n hX 34 63 [(3, .int x3_62), (0, .ref (kA K v0)), (1, .int v1), (2, .int v2), (4, .int v4)] rfl rfl (Nat.le_of_ble_eq_true rfl) rfl ?_
  refine VV_sub [1, 2, 3, 0, 4] rfl ?_
  exact bt_Pe_rankOf_63 hX k11 v0 v1 v2 x3_62 v4 hk11 hv0 M
set_option maxRecDepth 20000 in
theorem bt_Pe_rankOf_56 {l : Launch} {K : KT} {X : XT} (hX : Cx l K 4 6 0 0 X prog_9_method_9_code "SeriesArchive$Peaks" (some .int) [] L_Pe_rankOf) (k11 : Int32 → Int32 → Mm → Rs Int32) (v0 : Nat) (v1 : Int32) (v2 : Int32) (v4 : Int32) (hk11 : ∀ (v3 : Int32) (v4 : Int32) M, VV l K 4 6 0 0 rvI X (k11 v3 v4 M) 0 0 M 11 [(0, .ref (kA K v0)), (1, .int v1), (2, .int v2), (3, .int v3), (4, .int v4)] []) (s0 : Int32) (hv0 : isSer v0) (M : Mm) : VV l K 4 6 0 0 rvI X (fn_Pe_rankOf_56 k11 v0 v1 v2 v4 s0 M) 0 0 M 56 [(0, .ref (kA K v0)), (1, .int v1), (2, .int v2), (4, .int v4)] [.int s0] := by
  unfold fn_Pe_rankOf_56
  refine V_iconst hX (v := 1) (hv := by decide) 30 57 rfl rfl ?_
  refine V_goto hX 31 61 rfl (by decide) ?_
  exact bt_Pe_rankOf_61 hX k11 v0 v1 v2 v4 hk11 s0 1 hv0 M
set_option maxRecDepth 20000 in
theorem bt_Pe_rankOf_60 {l : Launch} {K : KT} {X : XT} (hX : Cx l K 4 6 0 0 X prog_9_method_9_code "SeriesArchive$Peaks" (some .int) [] L_Pe_rankOf) (k11 : Int32 → Int32 → Mm → Rs Int32) (v0 : Nat) (v1 : Int32) (v2 : Int32) (v4 : Int32) (hk11 : ∀ (v3 : Int32) (v4 : Int32) M, VV l K 4 6 0 0 rvI X (k11 v3 v4 M) 0 0 M 11 [(0, .ref (kA K v0)), (1, .int v1), (2, .int v2), (3, .int v3), (4, .int v4)] []) (s0 : Int32) (hv0 : isSer v0) (M : Mm) : VV l K 4 6 0 0 rvI X (fn_Pe_rankOf_60 k11 v0 v1 v2 v4 s0 M) 0 0 M 60 [(0, .ref (kA K v0)), (1, .int v1), (2, .int v2), (4, .int v4)] [.int s0] := by
  unfold fn_Pe_rankOf_60
  refine V_iconst hX (v := 0) (hv := by decide) 32 61 rfl rfl ?_
  exact bt_Pe_rankOf_61 hX k11 v0 v1 v2 v4 hk11 s0 0 hv0 M
set_option maxRecDepth 20000 in
theorem bt_Pe_rankOf_11 {l : Launch} {K : KT} {X : XT} (hX : Cx l K 4 6 0 0 X prog_9_method_9_code "SeriesArchive$Peaks" (some .int) [] L_Pe_rankOf) (v0 : Nat) (v1 : Int32) (v2 : Int32) (hv0 : isSer v0) : ∀ (n : Nat) (v3 : Int32) (v4 : Int32) (M : Mm), VV l K 4 6 0 0 rvI X (fn_Pe_rankOf_11 v0 v1 v2 n v3 v4 M) 0 0 M 11 [(0, .ref (kA K v0)), (1, .int v1), (2, .int v2), (3, .int v3), (4, .int v4)] [] := by
  intro n
  induction n with
  | zero => intro v3 v4 M; exact VV_none
  | succ n ih =>
    intro v3 v4 M
    rw [fn_Pe_rankOf_11]
    refine V_iload hX (j := 4) (hj := rfl) 8 13 rfl rfl ?_
    refine V_aload_n hX (j := 0) (hj := rfl) 9 14 rfl rfl ?_
    refine V_callI hX 17 0 0 rfl rfl rfl (Nat.le_of_ble_eq_true rfl) (Nat.le_of_ble_eq_true rfl) (VR_V hX 10 (ct_Se_size (cx_t hX) K v0 M) my_Se_size mi_Se_size ms_Se_size ml_Pe_19 (Nat.le_of_ble_eq_true rfl) (Nat.le_of_ble_eq_true rfl) (loc_ser hv0) (ent_ser K _ hv0) rfl rfl rfl (Nat.le_of_ble_eq_true rfl) rfl (Nat.le_of_ble_eq_true rfl) (Nat.le_of_ble_eq_true rfl)) (fun r14 M14 => ?_)
    refine V_icmp_ge hX 11 20 69 rfl rfl (by decide) (fun c17 => ?_) (fun c17 => ?_)
    · refine V_iload_n hX (j := 3) (hj := rfl) 37 70 rfl rfl ?_
      exact V_iret hX 38 rfl (Nat.le_of_ble_eq_true rfl) (Nat.le_of_ble_eq_true rfl) rfl
    · refine V_aload_n hX (j := 0) (hj := rfl) 12 21 rfl rfl ?_
      refine V_iload hX (j := 4) (hj := rfl) 13 23 rfl rfl ?_
      refine V_callI hX 26 0 0 rfl rfl rfl (Nat.le_of_ble_eq_true rfl) (Nat.le_of_ble_eq_true rfl) (VR_S hX 14 (ct_Pe_standsOut (cx_t hX) K v0 v4 M14) my_Pe_standsOut mt_Pe_standsOut ml_Pe_23 (Nat.le_of_ble_eq_true rfl) (Nat.le_of_ble_eq_true rfl) rfl rfl (Nat.le_of_ble_eq_true rfl) rfl (Nat.le_of_ble_eq_true rfl) (Nat.le_of_ble_eq_true rfl)) (fun r23 M23 => ?_)
      refine V_if_eq hX 15 29 63 rfl rfl (by decide) (fun c26 => ?_) (fun c26 => ?_)
      · exact bt_Pe_rankOf_63 hX (fn_Pe_rankOf_11 v0 v1 v2 n) v0 v1 v2 v3 v4 ih hv0 M23
      · refine V_aload_n hX (j := 0) (hj := rfl) 16 30 rfl rfl ?_
        refine V_iload hX (j := 4) (hj := rfl) 17 32 rfl rfl ?_
        refine V_callI hX 35 0 0 rfl rfl rfl (Nat.le_of_ble_eq_true rfl) (Nat.le_of_ble_eq_true rfl) (VR_S hX 18 (ct_Pe_heightBySides (cx_t hX) K v0 v4 M23) my_Pe_heightBySides mt_Pe_heightBySides ml_Pe_50 (Nat.le_of_ble_eq_true rfl) (Nat.le_of_ble_eq_true rfl) rfl rfl (Nat.le_of_ble_eq_true rfl) rfl (Nat.le_of_ble_eq_true rfl) (Nat.le_of_ble_eq_true rfl)) (fun r32 M32 => ?_)
        refine V_istore hX 19 37 [(5, .int r32), (0, .ref (kA K v0)), (1, .int v1), (2, .int v2), (3, .int v3), (4, .int v4)] rfl rfl (Nat.le_of_ble_eq_true rfl) rfl ?_
        refine V_iload_n hX (j := 4) (hj := rfl) 20 38 rfl rfl ?_
        refine V_iload hX (j := 0) (hj := rfl) 21 40 rfl rfl ?_
        refine V_iload_n hX (j := 3) (hj := rfl) 22 41 rfl rfl ?_
        refine V_icmp_gt hX 23 44 56 rfl rfl (by decide) (fun c41 => ?_) (fun c41 => ?_)
        · refine VV_sub [1, 2, 3, 5] rfl ?_
          exact bt_Pe_rankOf_56 hX (fn_Pe_rankOf_11 v0 v1 v2 n) v0 v1 v2 v4 ih v3 hv0 M32
        · refine V_iload hX (j := 0) (hj := rfl) 24 46 rfl rfl ?_
          refine V_iload_n hX (j := 3) (hj := rfl) 25 47 rfl rfl ?_
          refine V_icmp_ne hX 26 50 60 rfl rfl (by decide) (fun c47 => ?_) (fun c47 => ?_)
          · refine VV_sub [1, 2, 3, 5] rfl ?_
            exact bt_Pe_rankOf_60 hX (fn_Pe_rankOf_11 v0 v1 v2 n) v0 v1 v2 v4 ih v3 hv0 M32
          · refine V_iload hX (j := 5) (hj := rfl) 27 52 rfl rfl ?_
            refine V_iload_n hX (j := 2) (hj := rfl) 28 53 rfl rfl ?_
            refine V_icmp_ge hX 29 56 60 rfl rfl (by decide) (fun c53 => ?_) (fun c53 => ?_)
            · refine VV_sub [1, 2, 3, 5] rfl ?_
              exact bt_Pe_rankOf_60 hX (fn_Pe_rankOf_11 v0 v1 v2 n) v0 v1 v2 v4 ih v3 hv0 M32
            · refine VV_sub [1, 2, 3, 5] rfl ?_
              exact bt_Pe_rankOf_56 hX (fn_Pe_rankOf_11 v0 v1 v2 n) v0 v1 v2 v4 ih v3 hv0 M32
set_option maxRecDepth 20000 in
theorem ct_Pe_rankOf {l : Launch} (hl : l.stackTraces = false) (K : KT) (v0 : Nat) (v1 : Int32) (M : Mm) : CTp l K y_Pe_rankOf (Cond.code y_Pe_rankOf prog_9_method_9_code 6 (some .int)) rvI 4 0 0 [.ref (kA K v0), .int v1] M (fn_Pe_rankOf v0 v1 M) := by
  refine CTp_of (L := L_Pe_rankOf) (lc := [(0, .ref (kA K v0)), (1, .int v1)]) (by decide +kernel) dec_Pe_rankOf hl rfl (Nat.le_of_ble_eq_true rfl) (fun X hX => ?_)
  unfold fn_Pe_rankOf
  refine VV_grd (fun hv0 => ?_)
  refine V_aload_n hX (j := 0) (hj := rfl) 0 1 rfl rfl ?_
  refine V_iload_n hX (j := 1) (hj := rfl) 1 2 rfl rfl ?_
  refine V_callI hX 5 0 0 rfl rfl rfl (Nat.le_of_ble_eq_true rfl) (Nat.le_of_ble_eq_true rfl) (VR_S hX 2 (ct_Pe_heightBySides (cx_t hX) K v0 v1 M) my_Pe_heightBySides mt_Pe_heightBySides ml_Pe_50 (Nat.le_of_ble_eq_true rfl) (Nat.le_of_ble_eq_true rfl) rfl rfl (Nat.le_of_ble_eq_true rfl) rfl (Nat.le_of_ble_eq_true rfl) (Nat.le_of_ble_eq_true rfl)) (fun r2 M2 => ?_)
  refine V_istore_n hX 3 6 [(2, .int r2), (0, .ref (kA K v0)), (1, .int v1)] rfl rfl (Nat.le_of_ble_eq_true rfl) rfl ?_
  refine V_iconst hX (v := 0) (hv := by decide) 4 7 rfl rfl ?_
  refine V_istore_n hX 5 8 [(3, .int 0), (2, .int r2), (0, .ref (kA K v0)), (1, .int v1)] rfl rfl (Nat.le_of_ble_eq_true rfl) rfl ?_
  refine V_iconst hX (v := 0) (hv := by decide) 6 9 rfl rfl ?_
  refine V_istore hX 7 11 [(4, .int 0), (3, .int 0), (2, .int r2), (0, .ref (kA K v0)), (1, .int v1)] rfl rfl (Nat.le_of_ble_eq_true rfl) rfl ?_
  refine VV_sub [3, 4, 2, 1, 0] rfl ?_
  exact bt_Pe_rankOf_11 hX v0 v1 r2 hv0 fuel0 0 0 M2
set_option maxRecDepth 20000 in
theorem bt_Pe_ofRank_29 {l : Launch} {K : KT} {X : XT} (hX : Cx l K 5 3 0 0 X prog_9_method_8_code "SeriesArchive$Peaks" (some .int) [] L_Pe_ofRank) (k2 : Int32 → Mm → Rs Int32) (v0 : Nat) (v1 : Int32) (v2 : Int32) (hk2 : ∀ (v2 : Int32) M, VV l K 5 3 0 0 rvI X (k2 v2 M) 0 0 M 2 [(0, .ref (kA K v0)), (1, .int v1), (2, .int v2)] []) (hv0 : isSer v0) (M : Mm) : VV l K 5 3 0 0 rvI X (fn_Pe_ofRank_29 k2 v0 v1 v2 M) 0 0 M 29 [(0, .ref (kA K v0)), (1, .int v1), (2, .int v2)] [] := by
  unfold fn_Pe_ofRank_29
  refine V_iincL hX 17 32 2 rfl rfl rfl rfl (Nat.le_of_ble_eq_true rfl) (fun x2_29 hx2_29 => ?_)
  refine VV_lc [(2, .int x2_29), (0, .ref (kA K v0)), (1, .int v1)] rfl ?_
  refine V_goto hX 18 2 rfl (by decide) ?_
  refine VV_sub [1, 2, 0] rfl ?_
  exact hk2 x2_29 M
set_option maxRecDepth 20000 in
theorem bt_Pe_ofRank_2 {l : Launch} {K : KT} {X : XT} (hX : Cx l K 5 3 0 0 X prog_9_method_8_code "SeriesArchive$Peaks" (some .int) [] L_Pe_ofRank) (v0 : Nat) (v1 : Int32) (hv0 : isSer v0) : ∀ (n : Nat) (v2 : Int32) (M : Mm), VV l K 5 3 0 0 rvI X (fn_Pe_ofRank_2 v0 v1 n v2 M) 0 0 M 2 [(0, .ref (kA K v0)), (1, .int v1), (2, .int v2)] [] := by
  intro n
  induction n with
  | zero => intro v2 M; exact VV_none
  | succ n ih =>
    intro v2 M
    rw [fn_Pe_ofRank_2]
    refine V_iload_n hX (j := 2) (hj := rfl) 2 3 rfl rfl ?_
    refine V_aload_n hX (j := 0) (hj := rfl) 3 4 rfl rfl ?_
    refine V_callI hX 7 0 0 rfl rfl rfl (Nat.le_of_ble_eq_true rfl) (Nat.le_of_ble_eq_true rfl) (VR_V hX 4 (ct_Se_size (cx_t hX) K v0 M) my_Se_size mi_Se_size ms_Se_size ml_Pe_19 (Nat.le_of_ble_eq_true rfl) (Nat.le_of_ble_eq_true rfl) (loc_ser hv0) (ent_ser K _ hv0) rfl rfl rfl (Nat.le_of_ble_eq_true rfl) rfl (Nat.le_of_ble_eq_true rfl) (Nat.le_of_ble_eq_true rfl)) (fun r4 M4 => ?_)
    refine V_icmp_ge hX 5 10 35 rfl rfl (by decide) (fun c7 => ?_) (fun c7 => ?_)
    · refine V_iconst hX (v := (-1)) (hv := by decide) 19 36 rfl rfl ?_
      exact V_iret hX 20 rfl (Nat.le_of_ble_eq_true rfl) (Nat.le_of_ble_eq_true rfl) rfl
    · refine V_aload_n hX (j := 0) (hj := rfl) 6 11 rfl rfl ?_
      refine V_iload_n hX (j := 2) (hj := rfl) 7 12 rfl rfl ?_
      refine V_callI hX 15 0 0 rfl rfl rfl (Nat.le_of_ble_eq_true rfl) (Nat.le_of_ble_eq_true rfl) (VR_S hX 8 (ct_Pe_standsOut (cx_t hX) K v0 v2 M4) my_Pe_standsOut mt_Pe_standsOut ml_Pe_23 (Nat.le_of_ble_eq_true rfl) (Nat.le_of_ble_eq_true rfl) rfl rfl (Nat.le_of_ble_eq_true rfl) rfl (Nat.le_of_ble_eq_true rfl) (Nat.le_of_ble_eq_true rfl)) (fun r12 M12 => ?_)
      refine V_if_eq hX 9 18 29 rfl rfl (by decide) (fun c15 => ?_) (fun c15 => ?_)
      · exact bt_Pe_ofRank_29 hX (fn_Pe_ofRank_2 v0 v1 n) v0 v1 v2 ih hv0 M12
      · refine V_aload_n hX (j := 0) (hj := rfl) 10 19 rfl rfl ?_
        refine V_iload_n hX (j := 2) (hj := rfl) 11 20 rfl rfl ?_
        refine V_callI hX 23 0 0 rfl rfl rfl (Nat.le_of_ble_eq_true rfl) (Nat.le_of_ble_eq_true rfl) (VR_S hX 12 (ct_Pe_rankOf (cx_t hX) K v0 v2 M12) my_Pe_rankOf mt_Pe_rankOf ml_Pe_46 (Nat.le_of_ble_eq_true rfl) (Nat.le_of_ble_eq_true rfl) rfl rfl (Nat.le_of_ble_eq_true rfl) rfl (Nat.le_of_ble_eq_true rfl) (Nat.le_of_ble_eq_true rfl)) (fun r20 M20 => ?_)
        refine V_iload_n hX (j := 1) (hj := rfl) 13 24 rfl rfl ?_
        refine V_icmp_ne hX 14 27 29 rfl rfl (by decide) (fun c24 => ?_) (fun c24 => ?_)
        · exact bt_Pe_ofRank_29 hX (fn_Pe_ofRank_2 v0 v1 n) v0 v1 v2 ih hv0 M20
        · refine V_iload_n hX (j := 2) (hj := rfl) 15 28 rfl rfl ?_
          exact V_iret hX 16 rfl (Nat.le_of_ble_eq_true rfl) (Nat.le_of_ble_eq_true rfl) rfl
set_option maxRecDepth 20000 in
theorem ct_Pe_ofRank {l : Launch} (hl : l.stackTraces = false) (K : KT) (v0 : Nat) (v1 : Int32) (M : Mm) : CTp l K y_Pe_ofRank (Cond.code y_Pe_ofRank prog_9_method_8_code 3 (some .int)) rvI 5 0 0 [.ref (kA K v0), .int v1] M (fn_Pe_ofRank v0 v1 M) := by
  refine CTp_of (L := L_Pe_ofRank) (lc := [(0, .ref (kA K v0)), (1, .int v1)]) (by decide +kernel) dec_Pe_ofRank hl rfl (Nat.le_of_ble_eq_true rfl) (fun X hX => ?_)
  unfold fn_Pe_ofRank
  refine VV_grd (fun hv0 => ?_)
  refine V_iconst hX (v := 0) (hv := by decide) 0 1 rfl rfl ?_
  refine V_istore_n hX 1 2 [(2, .int 0), (0, .ref (kA K v0)), (1, .int v1)] rfl rfl (Nat.le_of_ble_eq_true rfl) rfl ?_
  refine VV_sub [1, 2, 0] rfl ?_
  exact bt_Pe_ofRank_2 hX v0 v1 hv0 fuel0 0 M
set_option maxRecDepth 20000 in
theorem bt_Ra_growTree_79 {l : Launch} {K : KT} {X : XT} (hX : Cx l K 2 4 0 0 X prog_10_method_3_code "SeriesArchive$Ranges" none [] L_Ra_growTree) (k27 : Int32 → Mm → Rs Unit) (v1 : Nat) (v2 : Int32) (hk27 : ∀ (v2 : Int32) M, VV l K 2 4 0 0 rvU X (k27 v2 M) 0 0 M 27 [(0, .ref (kA K 21)), (1, .ref (kA K v1)), (2, .int v2)] []) (hv1 : isSer v1) (M : Mm) : VV l K 2 4 0 0 rvU X (fn_Ra_growTree_79 k27 v1 v2 M) 0 0 M 79 [(0, .ref (kA K 21)), (1, .ref (kA K v1)), (2, .int v2)] [] := by
  unfold fn_Ra_growTree_79
  refine V_iincL hX 47 82 2 rfl rfl rfl rfl (Nat.le_of_ble_eq_true rfl) (fun x2_79 hx2_79 => ?_)
  refine VV_lc [(2, .int x2_79), (0, .ref (kA K 21)), (1, .ref (kA K v1))] rfl ?_
  refine V_goto hX 48 27 rfl (by decide) ?_
  refine VV_sub [1, 2, 0] rfl ?_
  exact hk27 x2_79 M
set_option maxRecDepth 20000 in
theorem bt_Ra_growTree_37 {l : Launch} {K : KT} {X : XT} (hX : Cx l K 2 4 0 0 X prog_10_method_3_code "SeriesArchive$Ranges" none [] L_Ra_growTree) (k27 : Int32 → Mm → Rs Unit) (v1 : Nat) (v2 : Int32) (hk27 : ∀ (v2 : Int32) M, VV l K 2 4 0 0 rvU X (k27 v2 M) 0 0 M 27 [(0, .ref (kA K 21)), (1, .ref (kA K v1)), (2, .int v2)] []) (hv1 : isSer v1) : ∀ (n : Nat) (v3 : Int32) (M : Mm), VV l K 2 4 0 0 rvU X (fn_Ra_growTree_37 k27 v1 v2 n v3 M) 0 0 M 37 [(0, .ref (kA K 21)), (1, .ref (kA K v1)), (2, .int v2), (3, .int v3)] [] := by
  intro n
  induction n with
  | zero => intro v3 M; exact VV_none
  | succ n ih =>
    intro v3 M
    rw [fn_Ra_growTree_37]
    refine V_iload_n hX (j := 3) (hj := rfl) 21 38 rfl rfl ?_
    refine V_aload_n hX (j := 1) (hj := rfl) 22 39 rfl rfl ?_
    refine V_callI hX 42 0 0 rfl rfl rfl (Nat.le_of_ble_eq_true rfl) (Nat.le_of_ble_eq_true rfl) (VR_V hX 23 (ct_Se_size (cx_t hX) K v1 M) my_Se_size mi_Se_size ms_Se_size ml_Ra_32 (Nat.le_of_ble_eq_true rfl) (Nat.le_of_ble_eq_true rfl) (loc_ser hv1) (ent_ser K _ hv1) rfl rfl rfl (Nat.le_of_ble_eq_true rfl) rfl (Nat.le_of_ble_eq_true rfl) (Nat.le_of_ble_eq_true rfl)) (fun r39 M39 => ?_)
    refine V_icmp_gt hX 24 45 79 rfl rfl (by decide) (fun c42 => ?_) (fun c42 => ?_)
    · refine VV_sub [0, 1, 2] rfl ?_
      exact bt_Ra_growTree_79 hX k27 v1 v2 hk27 hv1 M39
    · refine V_aload_n hX (j := 0) (hj := rfl) 25 46 rfl rfl ?_
      refine V_get hX 26 49 21 (.ref (kA K 22)) fl_Ra_9 rfl rfl (by decide) (ent_21 K _) rfl ?_
      refine V_iload_n hX (j := 3) (hj := rfl) 27 50 rfl rfl ?_
      refine V_aload_n hX (j := 0) (hj := rfl) 28 51 rfl rfl ?_
      refine V_get hX 29 54 21 (.ref (kA K 22)) fl_Ra_9 rfl rfl (by decide) (ent_21 K _) rfl ?_
      refine V_iload_n hX (j := 3) (hj := rfl) 30 55 rfl rfl ?_
      refine V_callI hX 58 0 0 rfl rfl rfl (Nat.le_of_ble_eq_true rfl) (Nat.le_of_ble_eq_true rfl) (VR_SN hX 31 (ct_SA_read (cx_t hX) K 22 v3 M39) my_SA_read mt_SA_read mn_Ra_42 (Nat.le_of_ble_eq_true rfl) (Nat.le_of_ble_eq_true rfl) rfl rfl (Nat.le_of_ble_eq_true rfl) rfl (Nat.le_of_ble_eq_true rfl) (Nat.le_of_ble_eq_true rfl)) (fun r55 M55 => ?_)
      refine V_aload_n hX (j := 1) (hj := rfl) 32 59 rfl rfl ?_
      refine V_iload_n hX (j := 2) (hj := rfl) 33 60 rfl rfl ?_
      refine V_iconst hX (v := 1) (hv := by decide) 34 61 rfl rfl ?_
      refine V_isub hX 35 62 rfl rfl ?_
      refine V_callI hX 65 0 0 rfl rfl rfl (Nat.le_of_ble_eq_true rfl) (Nat.le_of_ble_eq_true rfl) (VR_V hX 36 (ct_Se_at (cx_t hX) K v1 (v2 - 1) M55) my_Se_at mi_Se_at ms_Se_at ml_Ra_46 (Nat.le_of_ble_eq_true rfl) (Nat.le_of_ble_eq_true rfl) (loc_ser hv1) (ent_ser K _ hv1) rfl rfl rfl (Nat.le_of_ble_eq_true rfl) rfl (Nat.le_of_ble_eq_true rfl) (Nat.le_of_ble_eq_true rfl)) (fun r62 M62 => ?_)
      refine V_iadd hX 37 66 rfl rfl ?_
      refine V_callU hX 69 0 0 rfl rfl rfl (Nat.le_of_ble_eq_true rfl) (Nat.le_of_ble_eq_true rfl) (VR_SN hX 38 (ct_SA_write (cx_t hX) K 22 v3 (r55 + r62) M62) my_SA_write mt_SA_write mn_Ra_38 (Nat.le_of_ble_eq_true rfl) (Nat.le_of_ble_eq_true rfl) rfl rfl (Nat.le_of_ble_eq_true rfl) rfl (Nat.le_of_ble_eq_true rfl) (Nat.le_of_ble_eq_true rfl)) (fun r66 M66 => ?_)
      refine V_iload_n hX (j := 3) (hj := rfl) 39 70 rfl rfl ?_
      refine V_iload_n hX (j := 3) (hj := rfl) 40 71 rfl rfl ?_
      refine V_iload_n hX (j := 3) (hj := rfl) 41 72 rfl rfl ?_
      refine V_ineg hX 42 73 rfl rfl ?_
      refine V_iand hX 43 74 rfl rfl ?_
      refine V_iadd hX 44 75 rfl rfl ?_
      refine VV_li (fun x3_75 hx3_75 => ?_)
      refine V_istore_n hX 45 76 [(3, .int x3_75), (0, .ref (kA K 21)), (1, .ref (kA K v1)), (2, .int v2)] rfl rfl (Nat.le_of_ble_eq_true rfl) rfl ?_
      refine V_goto hX 46 37 rfl (by decide) ?_
      refine VV_sub [1, 2, 3, 0] rfl ?_
      exact ih x3_75 M66
set_option maxRecDepth 20000 in
theorem bt_Ra_growTree_27 {l : Launch} {K : KT} {X : XT} (hX : Cx l K 2 4 0 0 X prog_10_method_3_code "SeriesArchive$Ranges" none [] L_Ra_growTree) (v1 : Nat) (hv1 : isSer v1) : ∀ (n : Nat) (v2 : Int32) (M : Mm), VV l K 2 4 0 0 rvU X (fn_Ra_growTree_27 v1 n v2 M) 0 0 M 27 [(0, .ref (kA K 21)), (1, .ref (kA K v1)), (2, .int v2)] [] := by
  intro n
  induction n with
  | zero => intro v2 M; exact VV_none
  | succ n ih =>
    intro v2 M
    rw [fn_Ra_growTree_27]
    refine V_iload_n hX (j := 2) (hj := rfl) 15 28 rfl rfl ?_
    refine V_aload_n hX (j := 1) (hj := rfl) 16 29 rfl rfl ?_
    refine V_callI hX 32 0 0 rfl rfl rfl (Nat.le_of_ble_eq_true rfl) (Nat.le_of_ble_eq_true rfl) (VR_V hX 17 (ct_Se_size (cx_t hX) K v1 M) my_Se_size mi_Se_size ms_Se_size ml_Ra_32 (Nat.le_of_ble_eq_true rfl) (Nat.le_of_ble_eq_true rfl) (loc_ser hv1) (ent_ser K _ hv1) rfl rfl rfl (Nat.le_of_ble_eq_true rfl) rfl (Nat.le_of_ble_eq_true rfl) (Nat.le_of_ble_eq_true rfl)) (fun r29 M29 => ?_)
    refine V_icmp_gt hX 18 35 85 rfl rfl (by decide) (fun c32 => ?_) (fun c32 => ?_)
    · exact V_vret hX 49 rfl (Nat.le_of_ble_eq_true rfl) (Nat.le_of_ble_eq_true rfl) rfl
    · refine V_iload_n hX (j := 2) (hj := rfl) 19 36 rfl rfl ?_
      refine V_istore_n hX 20 37 [(3, .int v2), (0, .ref (kA K 21)), (1, .ref (kA K v1)), (2, .int v2)] rfl rfl (Nat.le_of_ble_eq_true rfl) rfl ?_
      refine VV_sub [1, 2, 3, 0] rfl ?_
      exact bt_Ra_growTree_37 hX (fn_Ra_growTree_27 v1 n) v1 v2 ih hv1 fuel0 v2 M29
set_option maxRecDepth 20000 in
theorem bt_Ra_growTree_25 {l : Launch} {K : KT} {X : XT} (hX : Cx l K 2 4 0 0 X prog_10_method_3_code "SeriesArchive$Ranges" none [] L_Ra_growTree) (v1 : Nat) (hv1 : isSer v1) (M : Mm) : VV l K 2 4 0 0 rvU X (fn_Ra_growTree_25 v1 M) 0 0 M 25 [(0, .ref (kA K 21)), (1, .ref (kA K v1))] [] := by
  unfold fn_Ra_growTree_25
  refine V_iconst hX (v := 1) (hv := by decide) 13 26 rfl rfl ?_
  refine V_istore_n hX 14 27 [(2, .int 1), (0, .ref (kA K 21)), (1, .ref (kA K v1))] rfl rfl (Nat.le_of_ble_eq_true rfl) rfl ?_
  refine VV_sub [1, 2, 0] rfl ?_
  exact bt_Ra_growTree_27 hX v1 hv1 fuel0 1 M
set_option maxRecDepth 20000 in
theorem bt_Ra_growTree_2 {l : Launch} {K : KT} {X : XT} (hX : Cx l K 2 4 0 0 X prog_10_method_3_code "SeriesArchive$Ranges" none [] L_Ra_growTree) (v1 : Nat) (hv1 : isSer v1) : ∀ (n : Nat) (v2 : Int32) (M : Mm), VV l K 2 4 0 0 rvU X (fn_Ra_growTree_2 v1 n v2 M) 0 0 M 2 [(0, .ref (kA K 21)), (1, .ref (kA K v1)), (2, .int v2)] [] := by
  intro n
  induction n with
  | zero => intro v2 M; exact VV_none
  | succ n ih =>
    intro v2 M
    rw [fn_Ra_growTree_2]
    refine V_iload_n hX (j := 2) (hj := rfl) 2 3 rfl rfl ?_
    refine V_aload_n hX (j := 1) (hj := rfl) 3 4 rfl rfl ?_
    refine V_callI hX 7 0 0 rfl rfl rfl (Nat.le_of_ble_eq_true rfl) (Nat.le_of_ble_eq_true rfl) (VR_V hX 4 (ct_Se_size (cx_t hX) K v1 M) my_Se_size mi_Se_size ms_Se_size ml_Ra_32 (Nat.le_of_ble_eq_true rfl) (Nat.le_of_ble_eq_true rfl) (loc_ser hv1) (ent_ser K _ hv1) rfl rfl rfl (Nat.le_of_ble_eq_true rfl) rfl (Nat.le_of_ble_eq_true rfl) (Nat.le_of_ble_eq_true rfl)) (fun r4 M4 => ?_)
    refine V_icmp_gt hX 5 10 25 rfl rfl (by decide) (fun c7 => ?_) (fun c7 => ?_)
    · refine VV_sub [0, 1] rfl ?_
      exact bt_Ra_growTree_25 hX v1 hv1 M4
    · refine V_aload_n hX (j := 0) (hj := rfl) 6 11 rfl rfl ?_
      refine V_get hX 7 14 21 (.ref (kA K 22)) fl_Ra_9 rfl rfl (by decide) (ent_21 K _) rfl ?_
      refine V_iload_n hX (j := 2) (hj := rfl) 8 15 rfl rfl ?_
      refine V_iconst hX (v := 0) (hv := by decide) 9 16 rfl rfl ?_
      refine V_callU hX 19 0 0 rfl rfl rfl (Nat.le_of_ble_eq_true rfl) (Nat.le_of_ble_eq_true rfl) (VR_SN hX 10 (ct_SA_write (cx_t hX) K 22 v2 0 M4) my_SA_write mt_SA_write mn_Ra_38 (Nat.le_of_ble_eq_true rfl) (Nat.le_of_ble_eq_true rfl) rfl rfl (Nat.le_of_ble_eq_true rfl) rfl (Nat.le_of_ble_eq_true rfl) (Nat.le_of_ble_eq_true rfl)) (fun r16 M16 => ?_)
      refine V_iincL hX 11 22 2 rfl rfl rfl rfl (Nat.le_of_ble_eq_true rfl) (fun x2_19 hx2_19 => ?_)
      refine VV_lc [(2, .int x2_19), (0, .ref (kA K 21)), (1, .ref (kA K v1))] rfl ?_
      refine V_goto hX 12 2 rfl (by decide) ?_
      refine VV_sub [1, 2, 0] rfl ?_
      exact ih x2_19 M16
set_option maxRecDepth 20000 in
theorem ct_Ra_growTree {l : Launch} (hl : l.stackTraces = false) (K : KT) (v1 : Nat) (M : Mm) : CTp l K y_Ra_growTree (Cond.code y_Ra_growTree prog_10_method_3_code 4 none) rvU 2 0 0 [.ref (kA K 21), .ref (kA K v1)] M (fn_Ra_growTree v1 M) := by
  refine CTp_of (L := L_Ra_growTree) (lc := [(0, .ref (kA K 21)), (1, .ref (kA K v1))]) (by decide +kernel) dec_Ra_growTree hl rfl (Nat.le_of_ble_eq_true rfl) (fun X hX => ?_)
  unfold fn_Ra_growTree
  refine VV_grd (fun hv1 => ?_)
  refine V_iconst hX (v := 1) (hv := by decide) 0 1 rfl rfl ?_
  refine V_istore_n hX 1 2 [(2, .int 1), (0, .ref (kA K 21)), (1, .ref (kA K v1))] rfl rfl (Nat.le_of_ble_eq_true rfl) rfl ?_
  refine VV_sub [1, 2, 0] rfl ?_
  exact bt_Ra_growTree_2 hX v1 hv1 fuel0 1 M
set_option maxRecDepth 20000 in
theorem bt_Ra_treeTotal_4 {l : Launch} {K : KT} {X : XT} (hX : Cx l K 2 4 0 0 X prog_10_method_4_code "SeriesArchive$Ranges" (some .int) [] L_Ra_treeTotal) : ∀ (n : Nat) (v2 : Int32) (v3 : Int32) (M : Mm), VV l K 2 4 0 0 rvI X (fn_Ra_treeTotal_4 n v2 v3 M) 0 0 M 4 [(0, .ref (kA K 21)), (2, .int v2), (3, .int v3)] [] := by
  intro n
  induction n with
  | zero => intro v2 v3 M; exact VV_none
  | succ n ih =>
    intro v2 v3 M
    rw [fn_Ra_treeTotal_4]
    refine V_iload_n hX (j := 2) (hj := rfl) 4 5 rfl rfl ?_
    refine V_if_le hX 5 8 29 rfl rfl (by decide) (fun c5 => ?_) (fun c5 => ?_)
    · refine V_iload_n hX (j := 1) (hj := rfl) 21 30 rfl rfl ?_
      exact V_iret hX 22 rfl (Nat.le_of_ble_eq_true rfl) (Nat.le_of_ble_eq_true rfl) rfl
    · refine V_iload_n hX (j := 1) (hj := rfl) 6 9 rfl rfl ?_
      refine V_aload_n hX (j := 0) (hj := rfl) 7 10 rfl rfl ?_
      refine V_get hX 8 13 21 (.ref (kA K 22)) fl_Ra_9 rfl rfl (by decide) (ent_21 K _) rfl ?_
      refine V_iload_n hX (j := 2) (hj := rfl) 9 14 rfl rfl ?_
      refine V_callI hX 17 0 0 rfl rfl rfl (Nat.le_of_ble_eq_true rfl) (Nat.le_of_ble_eq_true rfl) (VR_SN hX 10 (ct_SA_read (cx_t hX) K 22 v3 M) my_SA_read mt_SA_read mn_Ra_42 (Nat.le_of_ble_eq_true rfl) (Nat.le_of_ble_eq_true rfl) rfl rfl (Nat.le_of_ble_eq_true rfl) rfl (Nat.le_of_ble_eq_true rfl) (Nat.le_of_ble_eq_true rfl)) (fun r14 M14 => ?_)
      refine V_iadd hX 11 18 rfl rfl ?_
      refine VV_li (fun x2_18 hx2_18 => ?_)
      refine V_istore_n hX 12 19 [(2, .int x2_18), (0, .ref (kA K 21)), (3, .int v3)] rfl rfl (Nat.le_of_ble_eq_true rfl) rfl ?_
      refine V_iload_n hX (j := 2) (hj := rfl) 13 20 rfl rfl ?_
      refine V_iload_n hX (j := 2) (hj := rfl) 14 21 rfl rfl ?_
      refine V_iload_n hX (j := 2) (hj := rfl) 15 22 rfl rfl ?_
      refine V_ineg hX 16 23 rfl rfl ?_
      refine V_iand hX 17 24 rfl rfl ?_
      refine V_isub hX 18 25 rfl rfl ?_
      refine VV_li (fun x3_25 hx3_25 => ?_)
      refine V_istore_n hX 19 26 [(3, .int x3_25), (2, .int x2_18), (0, .ref (kA K 21))] rfl rfl (Nat.le_of_ble_eq_true rfl) rfl ?_
      refine V_goto hX 20 4 rfl (by decide) ?_
      refine VV_sub [2, 1, 0] rfl ?_
      exact ih x2_18 x3_25 M14
set_option maxRecDepth 20000 in
theorem ct_Ra_treeTotal {l : Launch} (hl : l.stackTraces = false) (K : KT) (v1 : Int32) (M : Mm) : CTp l K y_Ra_treeTotal (Cond.code y_Ra_treeTotal prog_10_method_4_code 4 (some .int)) rvI 2 0 0 [.ref (kA K 21), .int v1] M (fn_Ra_treeTotal v1 M) := by
  refine CTp_of (L := L_Ra_treeTotal) (lc := [(0, .ref (kA K 21)), (1, .int v1)]) (by decide +kernel) dec_Ra_treeTotal hl rfl (Nat.le_of_ble_eq_true rfl) (fun X hX => ?_)
  unfold fn_Ra_treeTotal
  refine V_iconst hX (v := 0) (hv := by decide) 0 1 rfl rfl ?_
  refine V_istore_n hX 1 2 [(2, .int 0), (0, .ref (kA K 21)), (1, .int v1)] rfl rfl (Nat.le_of_ble_eq_true rfl) rfl ?_
  refine V_iload_n hX (j := 2) (hj := rfl) 2 3 rfl rfl ?_
  refine V_istore_n hX 3 4 [(3, .int v1), (2, .int 0), (0, .ref (kA K 21)), (1, .int v1)] rfl rfl (Nat.le_of_ble_eq_true rfl) rfl ?_
  refine VV_sub [2, 1, 0] rfl ?_
  exact bt_Ra_treeTotal_4 hX fuel0 0 v1 M
set_option maxRecDepth 20000 in
theorem ct_Ra_totalByTree {l : Launch} (hl : l.stackTraces = false) (K : KT) (v1 : Nat) (v2 : Int32) (v3 : Int32) (M : Mm) : CTp l K y_Ra_totalByTree (Cond.code y_Ra_totalByTree prog_10_method_2_code 4 (some .int)) rvI 3 0 0 [.ref (kA K 21), .ref (kA K v1), .int v2, .int v3] M (fn_Ra_totalByTree v1 v2 v3 M) := by
  refine CTp_of (L := L_Ra_totalByTree) (lc := [(0, .ref (kA K 21)), (1, .ref (kA K v1)), (2, .int v2), (3, .int v3)]) (by decide +kernel) dec_Ra_totalByTree hl rfl (Nat.le_of_ble_eq_true rfl) (fun X hX => ?_)
  unfold fn_Ra_totalByTree
  refine VV_grd (fun hv1 => ?_)
  refine V_aload_n hX (j := 0) (hj := rfl) 0 1 rfl rfl ?_
  refine V_aload_n hX (j := 1) (hj := rfl) 1 2 rfl rfl ?_
  refine V_callU hX 5 0 0 rfl rfl rfl (Nat.le_of_ble_eq_true rfl) (Nat.le_of_ble_eq_true rfl) (VR_V hX 2 (ct_Ra_growTree (cx_t hX) K v1 M) my_Ra_growTree mi_Ra_growTree ms_Ra_growTree ml_Ra_24 (Nat.le_of_ble_eq_true rfl) (Nat.le_of_ble_eq_true rfl) (by decide) (ent_21 K _) rfl rfl rfl (Nat.le_of_ble_eq_true rfl) rfl (Nat.le_of_ble_eq_true rfl) (Nat.le_of_ble_eq_true rfl)) (fun r2 M2 => ?_)
  refine V_aload_n hX (j := 0) (hj := rfl) 3 6 rfl rfl ?_
  refine V_iload_n hX (j := 3) (hj := rfl) 4 7 rfl rfl ?_
  refine V_iconst hX (v := 1) (hv := by decide) 5 8 rfl rfl ?_
  refine V_iadd hX 6 9 rfl rfl ?_
  refine V_callI hX 12 0 0 rfl rfl rfl (Nat.le_of_ble_eq_true rfl) (Nat.le_of_ble_eq_true rfl) (VR_V hX 7 (ct_Ra_treeTotal (cx_t hX) K (v3 + 1) M2) my_Ra_treeTotal mi_Ra_treeTotal ms_Ra_treeTotal ml_Ra_28 (Nat.le_of_ble_eq_true rfl) (Nat.le_of_ble_eq_true rfl) (by decide) (ent_21 K _) rfl rfl rfl (Nat.le_of_ble_eq_true rfl) rfl (Nat.le_of_ble_eq_true rfl) (Nat.le_of_ble_eq_true rfl)) (fun r9 M9 => ?_)
  refine V_aload_n hX (j := 0) (hj := rfl) 8 13 rfl rfl ?_
  refine V_iload_n hX (j := 2) (hj := rfl) 9 14 rfl rfl ?_
  refine V_callI hX 17 0 0 rfl rfl rfl (Nat.le_of_ble_eq_true rfl) (Nat.le_of_ble_eq_true rfl) (VR_V hX 10 (ct_Ra_treeTotal (cx_t hX) K v2 M9) my_Ra_treeTotal mi_Ra_treeTotal ms_Ra_treeTotal ml_Ra_28 (Nat.le_of_ble_eq_true rfl) (Nat.le_of_ble_eq_true rfl) (by decide) (ent_21 K _) rfl rfl rfl (Nat.le_of_ble_eq_true rfl) rfl (Nat.le_of_ble_eq_true rfl) (Nat.le_of_ble_eq_true rfl)) (fun r14 M14 => ?_)
  refine V_isub hX 11 18 rfl rfl ?_
  exact V_iret hX 12 rfl (Nat.le_of_ble_eq_true rfl) (Nat.le_of_ble_eq_true rfl) rfl
set_option maxRecDepth 20000 in
theorem bt_Ra_windowTop_85 {l : Launch} {K : KT} {X : XT} (hX : Cx l K 2 7 0 0 X prog_10_method_5_code "SeriesArchive$Ranges" (some .int) [] L_Ra_windowTop) (k9 : Int32 → Int32 → Int32 → Mm → Rs Int32) (v1 : Nat) (v2 : Int32) (v3 : Int32) (v4 : Int32) (v5 : Int32) (v6 : Int32) (hk9 : ∀ (v4 : Int32) (v5 : Int32) (v6 : Int32) M, VV l K 2 7 0 0 rvI X (k9 v4 v5 v6 M) 0 0 M 9 [(0, .ref (kA K 21)), (1, .ref (kA K v1)), (2, .int v2), (3, .int v3), (4, .int v4), (5, .int v5), (6, .int v6)] []) (hv1 : isSer v1) (M : Mm) : VV l K 2 7 0 0 rvI X (fn_Ra_windowTop_85 k9 v1 v2 v3 v4 v5 v6 M) 0 0 M 85 [(0, .ref (kA K 21)), (1, .ref (kA K v1)), (2, .int v2), (3, .int v3), (4, .int v4), (5, .int v5), (6, .int v6)] [] := by
  unfold fn_Ra_windowTop_85
  refine V_iincL hX 41 88 6 rfl rfl rfl rfl (Nat.le_of_ble_eq_true rfl) (fun x6_85 hx6_85 => ?_)
  refine VV_lc [(6, .int x6_85), (0, .ref (kA K 21)), (1, .ref (kA K v1)), (2, .int v2), (3, .int v3), (4, .int v4), (5, .int v5)] rfl ?_
  refine V_goto hX 42 9 rfl (by decide) ?_
  refine VV_sub [1, 2, 3, 4, 5, 6, 0] rfl ?_
  exact hk9 v4 v5 x6_85 M
set_option maxRecDepth 20000 in
theorem bt_Ra_windowTop_52 {l : Launch} {K : KT} {X : XT} (hX : Cx l K 2 7 0 0 X prog_10_method_5_code "SeriesArchive$Ranges" (some .int) [] L_Ra_windowTop) (k9 : Int32 → Int32 → Int32 → Mm → Rs Int32) (v1 : Nat) (v2 : Int32) (v3 : Int32) (v4 : Int32) (v5 : Int32) (v6 : Int32) (hk9 : ∀ (v4 : Int32) (v5 : Int32) (v6 : Int32) M, VV l K 2 7 0 0 rvI X (k9 v4 v5 v6 M) 0 0 M 9 [(0, .ref (kA K 21)), (1, .ref (kA K v1)), (2, .int v2), (3, .int v3), (4, .int v4), (5, .int v5), (6, .int v6)] []) (hv1 : isSer v1) (M : Mm) : VV l K 2 7 0 0 rvI X (fn_Ra_windowTop_52 k9 v1 v2 v3 v4 v5 v6 M) 0 0 M 52 [(0, .ref (kA K 21)), (1, .ref (kA K v1)), (2, .int v2), (3, .int v3), (4, .int v4), (5, .int v5), (6, .int v6)] [] := by
  unfold fn_Ra_windowTop_52
  refine V_aload_n hX (j := 0) (hj := rfl) 26 53 rfl rfl ?_
  refine V_get hX 27 56 21 (.ref (kA K 23)) fl_Ra_15 rfl rfl (by decide) (ent_21 K _) rfl ?_
  refine V_iload hX (j := 5) (hj := rfl) 28 58 rfl rfl ?_
  refine V_iload hX (j := 6) (hj := rfl) 29 60 rfl rfl ?_
  refine V_callU hX 63 0 0 rfl rfl rfl (Nat.le_of_ble_eq_true rfl) (Nat.le_of_ble_eq_true rfl) (VR_SN hX 30 (ct_SA_write (cx_t hX) K 23 v5 v6 M) my_SA_write mt_SA_write mn_Ra_38 (Nat.le_of_ble_eq_true rfl) (Nat.le_of_ble_eq_true rfl) rfl rfl (Nat.le_of_ble_eq_true rfl) rfl (Nat.le_of_ble_eq_true rfl) (Nat.le_of_ble_eq_true rfl)) (fun r60 M60 => ?_)
  refine V_iincL hX 31 66 5 rfl rfl rfl rfl (Nat.le_of_ble_eq_true rfl) (fun x5_63 hx5_63 => ?_)
  refine VV_lc [(5, .int x5_63), (0, .ref (kA K 21)), (1, .ref (kA K v1)), (2, .int v2), (3, .int v3), (4, .int v4), (6, .int v6)] rfl ?_
  refine V_aload_n hX (j := 1) (hj := rfl) 32 67 rfl rfl ?_
  refine V_get hX 33 70 21 (.ref (kA K 23)) fl_Ra_15 rfl rfl (by decide) (ent_21 K _) rfl ?_
  refine V_iload hX (j := 5) (hj := rfl) 34 72 rfl rfl ?_
  refine V_callI hX 75 0 0 rfl rfl rfl (Nat.le_of_ble_eq_true rfl) (Nat.le_of_ble_eq_true rfl) (VR_SN hX 35 (ct_SA_read (cx_t hX) K 23 v4 M60) my_SA_read mt_SA_read mn_Ra_42 (Nat.le_of_ble_eq_true rfl) (Nat.le_of_ble_eq_true rfl) rfl rfl (Nat.le_of_ble_eq_true rfl) rfl (Nat.le_of_ble_eq_true rfl) (Nat.le_of_ble_eq_true rfl)) (fun r72 M72 => ?_)
  refine V_iload hX (j := 6) (hj := rfl) 36 77 rfl rfl ?_
  refine V_iload_n hX (j := 3) (hj := rfl) 37 78 rfl rfl ?_
  refine V_isub hX 38 79 rfl rfl ?_
  refine V_icmp_gt hX 39 82 85 rfl rfl (by decide) (fun c79 => ?_) (fun c79 => ?_)
  · refine VV_sub [1, 2, 3, 4, 5, 0, 6] rfl ?_
    exact bt_Ra_windowTop_85 hX k9 v1 v2 v3 v4 x5_63 v6 hk9 hv1 M72
  · refine V_iincL hX 40 85 5 rfl rfl rfl rfl (Nat.le_of_ble_eq_true rfl) (fun x4_82 hx4_82 => ?_)
    refine VV_lc [(4, .int x4_82), (5, .int x5_63), (0, .ref (kA K 21)), (1, .ref (kA K v1)), (2, .int v2), (3, .int v3), (6, .int v6)] rfl ?_
    refine VV_sub [2, 3, 4, 5, 0, 1, 6] rfl ?_
    exact bt_Ra_windowTop_85 hX k9 v1 v2 v3 x4_82 x5_63 v6 hk9 hv1 M72
set_option maxRecDepth 20000 in
theorem bt_Ra_windowTop_15 {l : Launch} {K : KT} {X : XT} (hX : Cx l K 2 7 0 0 X prog_10_method_5_code "SeriesArchive$Ranges" (some .int) [] L_Ra_windowTop) (k9 : Int32 → Int32 → Int32 → Mm → Rs Int32) (v1 : Nat) (v2 : Int32) (v3 : Int32) (v4 : Int32) (v6 : Int32) (hk9 : ∀ (v4 : Int32) (v5 : Int32) (v6 : Int32) M, VV l K 2 7 0 0 rvI X (k9 v4 v5 v6 M) 0 0 M 9 [(0, .ref (kA K 21)), (1, .ref (kA K v1)), (2, .int v2), (3, .int v3), (4, .int v4), (5, .int v5), (6, .int v6)] []) (hv1 : isSer v1) : ∀ (n : Nat) (v5 : Int32) (M : Mm), VV l K 2 7 0 0 rvI X (fn_Ra_windowTop_15 k9 v1 v2 v3 v4 v6 n v5 M) 0 0 M 15 [(0, .ref (kA K 21)), (1, .ref (kA K v1)), (2, .int v2), (3, .int v3), (4, .int v4), (5, .int v5), (6, .int v6)] [] := by
  intro n
  induction n with
  | zero => intro v5 M; exact VV_none
  | succ n ih =>
    intro v5 M
    rw [fn_Ra_windowTop_15]
    refine V_iload hX (j := 5) (hj := rfl) 9 17 rfl rfl ?_
    refine V_iload hX (j := 4) (hj := rfl) 10 19 rfl rfl ?_
    refine V_icmp_le hX 11 22 52 rfl rfl (by decide) (fun c19 => ?_) (fun c19 => ?_)
    · exact bt_Ra_windowTop_52 hX k9 v1 v2 v3 v4 v5 v6 hk9 hv1 M
    · refine V_aload_n hX (j := 1) (hj := rfl) 12 23 rfl rfl ?_
      refine V_aload_n hX (j := 0) (hj := rfl) 13 24 rfl rfl ?_
      refine V_get hX 14 27 21 (.ref (kA K 23)) fl_Ra_15 rfl rfl (by decide) (ent_21 K _) rfl ?_
      refine V_iload hX (j := 5) (hj := rfl) 15 29 rfl rfl ?_
      refine V_iconst hX (v := 1) (hv := by decide) 16 30 rfl rfl ?_
      refine V_isub hX 17 31 rfl rfl ?_
      refine V_callI hX 34 0 0 rfl rfl rfl (Nat.le_of_ble_eq_true rfl) (Nat.le_of_ble_eq_true rfl) (VR_SN hX 18 (ct_SA_read (cx_t hX) K 23 (v5 - 1) M) my_SA_read mt_SA_read mn_Ra_42 (Nat.le_of_ble_eq_true rfl) (Nat.le_of_ble_eq_true rfl) rfl rfl (Nat.le_of_ble_eq_true rfl) rfl (Nat.le_of_ble_eq_true rfl) (Nat.le_of_ble_eq_true rfl)) (fun r31 M31 => ?_)
      refine V_callI hX 37 0 0 rfl rfl rfl (Nat.le_of_ble_eq_true rfl) (Nat.le_of_ble_eq_true rfl) (VR_V hX 19 (ct_Se_at (cx_t hX) K v1 r31 M31) my_Se_at mi_Se_at ms_Se_at ml_Ra_46 (Nat.le_of_ble_eq_true rfl) (Nat.le_of_ble_eq_true rfl) (loc_ser hv1) (ent_ser K _ hv1) rfl rfl rfl (Nat.le_of_ble_eq_true rfl) rfl (Nat.le_of_ble_eq_true rfl) (Nat.le_of_ble_eq_true rfl)) (fun r34 M34 => ?_)
      refine V_aload_n hX (j := 1) (hj := rfl) 20 38 rfl rfl ?_
      refine V_iload hX (j := 6) (hj := rfl) 21 40 rfl rfl ?_
      refine V_callI hX 43 0 0 rfl rfl rfl (Nat.le_of_ble_eq_true rfl) (Nat.le_of_ble_eq_true rfl) (VR_V hX 22 (ct_Se_at (cx_t hX) K v1 v6 M34) my_Se_at mi_Se_at ms_Se_at ml_Ra_46 (Nat.le_of_ble_eq_true rfl) (Nat.le_of_ble_eq_true rfl) (loc_ser hv1) (ent_ser K _ hv1) rfl rfl rfl (Nat.le_of_ble_eq_true rfl) rfl (Nat.le_of_ble_eq_true rfl) (Nat.le_of_ble_eq_true rfl)) (fun r40 M40 => ?_)
      refine V_icmp_gt hX 23 46 52 rfl rfl (by decide) (fun c43 => ?_) (fun c43 => ?_)
      · exact bt_Ra_windowTop_52 hX k9 v1 v2 v3 v4 v5 v6 hk9 hv1 M40
      · refine V_iincL hX 24 49 5 rfl rfl rfl rfl (Nat.le_of_ble_eq_true rfl) (fun x5_46 hx5_46 => ?_)
        refine VV_lc [(5, .int x5_46), (0, .ref (kA K 21)), (1, .ref (kA K v1)), (2, .int v2), (3, .int v3), (4, .int v4), (6, .int v6)] rfl ?_
        refine V_goto hX 25 15 rfl (by decide) ?_
        refine VV_sub [1, 2, 3, 4, 5, 0, 6] rfl ?_
        exact ih x5_46 M40
set_option maxRecDepth 20000 in
theorem bt_Ra_windowTop_91 {l : Launch} {K : KT} {X : XT} (hX : Cx l K 2 7 0 0 X prog_10_method_5_code "SeriesArchive$Ranges" (some .int) [] L_Ra_windowTop) (v1 : Nat) (v4 : Int32) (hv1 : isSer v1) (M : Mm) : VV l K 2 7 0 0 rvI X (fn_Ra_windowTop_91 v1 v4 M) 0 0 M 91 [(0, .ref (kA K 21)), (1, .ref (kA K v1)), (4, .int v4)] [] := by
  unfold fn_Ra_windowTop_91
  refine V_aload_n hX (j := 1) (hj := rfl) 43 92 rfl rfl ?_
  refine V_aload_n hX (j := 0) (hj := rfl) 44 93 rfl rfl ?_
  refine V_get hX 45 96 21 (.ref (kA K 23)) fl_Ra_15 rfl rfl (by decide) (ent_21 K _) rfl ?_
  refine V_iload hX (j := 2) (hj := rfl) 46 98 rfl rfl ?_
  refine V_callI hX 101 0 0 rfl rfl rfl (Nat.le_of_ble_eq_true rfl) (Nat.le_of_ble_eq_true rfl) (VR_SN hX 47 (ct_SA_read (cx_t hX) K 23 v4 M) my_SA_read mt_SA_read mn_Ra_42 (Nat.le_of_ble_eq_true rfl) (Nat.le_of_ble_eq_true rfl) rfl rfl (Nat.le_of_ble_eq_true rfl) rfl (Nat.le_of_ble_eq_true rfl) (Nat.le_of_ble_eq_true rfl)) (fun r98 M98 => ?_)
  refine V_callI hX 104 0 0 rfl rfl rfl (Nat.le_of_ble_eq_true rfl) (Nat.le_of_ble_eq_true rfl) (VR_V hX 48 (ct_Se_at (cx_t hX) K v1 r98 M98) my_Se_at mi_Se_at ms_Se_at ml_Ra_46 (Nat.le_of_ble_eq_true rfl) (Nat.le_of_ble_eq_true rfl) (loc_ser hv1) (ent_ser K _ hv1) rfl rfl rfl (Nat.le_of_ble_eq_true rfl) rfl (Nat.le_of_ble_eq_true rfl) (Nat.le_of_ble_eq_true rfl)) (fun r101 M101 => ?_)
  exact V_iret hX 49 rfl (Nat.le_of_ble_eq_true rfl) (Nat.le_of_ble_eq_true rfl) rfl
set_option maxRecDepth 20000 in
theorem bt_Ra_windowTop_9 {l : Launch} {K : KT} {X : XT} (hX : Cx l K 2 7 0 0 X prog_10_method_5_code "SeriesArchive$Ranges" (some .int) [] L_Ra_windowTop) (v1 : Nat) (v2 : Int32) (v3 : Int32) (hv1 : isSer v1) : ∀ (n : Nat) (v4 : Int32) (v5 : Int32) (v6 : Int32) (M : Mm), VV l K 2 7 0 0 rvI X (fn_Ra_windowTop_9 v1 v2 v3 n v4 v5 v6 M) 0 0 M 9 [(0, .ref (kA K 21)), (1, .ref (kA K v1)), (2, .int v2), (3, .int v3), (4, .int v4), (5, .int v5), (6, .int v6)] [] := by
  intro n
  induction n with
  | zero => intro v4 v5 v6 M; exact VV_none
  | succ n ih =>
    intro v4 v5 v6 M
    rw [fn_Ra_windowTop_9]
    refine V_iload hX (j := 6) (hj := rfl) 6 11 rfl rfl ?_
    refine V_iload_n hX (j := 3) (hj := rfl) 7 12 rfl rfl ?_
    refine V_icmp_gt hX 8 15 91 rfl rfl (by decide) (fun c12 => ?_) (fun c12 => ?_)
    · refine VV_sub [0, 1, 4] rfl ?_
      exact bt_Ra_windowTop_91 hX v1 v4 hv1 M
    · exact bt_Ra_windowTop_15 hX (fn_Ra_windowTop_9 v1 v2 v3 n) v1 v2 v3 v4 v6 ih hv1 fuel0 v5 M
set_option maxRecDepth 20000 in
theorem ct_Ra_windowTop {l : Launch} (hl : l.stackTraces = false) (K : KT) (v1 : Nat) (v2 : Int32) (v3 : Int32) (M : Mm) : CTp l K y_Ra_windowTop (Cond.code y_Ra_windowTop prog_10_method_5_code 7 (some .int)) rvI 2 0 0 [.ref (kA K 21), .ref (kA K v1), .int v2, .int v3] M (fn_Ra_windowTop v1 v2 v3 M) := by
  refine CTp_of (L := L_Ra_windowTop) (lc := [(0, .ref (kA K 21)), (1, .ref (kA K v1)), (2, .int v2), (3, .int v3)]) (by decide +kernel) dec_Ra_windowTop hl rfl (Nat.le_of_ble_eq_true rfl) (fun X hX => ?_)
  unfold fn_Ra_windowTop
  refine VV_grd (fun hv1 => ?_)
  refine V_iconst hX (v := 0) (hv := by decide) 0 1 rfl rfl ?_
  refine V_istore hX 1 3 [(4, .int 0), (0, .ref (kA K 21)), (1, .ref (kA K v1)), (2, .int v2), (3, .int v3)] rfl rfl (Nat.le_of_ble_eq_true rfl) rfl ?_
  refine V_iconst hX (v := 0) (hv := by decide) 2 4 rfl rfl ?_
  refine V_istore hX 3 6 [(5, .int 0), (4, .int 0), (0, .ref (kA K 21)), (1, .ref (kA K v1)), (2, .int v2), (3, .int v3)] rfl rfl (Nat.le_of_ble_eq_true rfl) rfl ?_
  refine V_iconst hX (v := 0) (hv := by decide) 4 7 rfl rfl ?_
  refine V_istore hX 5 9 [(6, .int 0), (5, .int 0), (4, .int 0), (0, .ref (kA K 21)), (1, .ref (kA K v1)), (2, .int v2), (3, .int v3)] rfl rfl (Nat.le_of_ble_eq_true rfl) rfl ?_
  refine VV_sub [3, 4, 5, 6, 2, 1, 0] rfl ?_
  exact bt_Ra_windowTop_9 hX v1 v2 v3 hv1 fuel0 0 0 0 M
set_option maxRecDepth 20000 in
theorem bt_Ra_nextAbove_70 {l : Launch} {K : KT} {X : XT} (hX : Cx l K 2 6 0 0 X prog_10_method_6_code "SeriesArchive$Ranges" (some .int) [] L_Ra_nextAbove) (k13 : Int32 → Int32 → Int32 → Mm → Rs Int32) (v1 : Nat) (v2 : Int32) (v3 : Int32) (v5 : Int32) (hk13 : ∀ (v3 : Int32) (v4 : Int32) (v5 : Int32) M, VV l K 2 6 0 0 rvI X (k13 v3 v4 v5 M) 0 0 M 13 [(0, .ref (kA K 21)), (1, .ref (kA K v1)), (2, .int v2), (3, .int v3), (4, .int v4), (5, .int v5)] []) (s0 : Int32) (hv1 : isSer v1) (M : Mm) : VV l K 2 6 0 0 rvI X (fn_Ra_nextAbove_70 k13 v1 v2 v3 v5 s0 M) 0 0 M 70 [(0, .ref (kA K 21)), (1, .ref (kA K v1)), (2, .int v2), (3, .int v3), (5, .int v5)] [.int s0] := by
  unfold fn_Ra_nextAbove_70
  refine V_istore hX 38 72 [(4, .int s0), (0, .ref (kA K 21)), (1, .ref (kA K v1)), (2, .int v2), (3, .int v3), (5, .int v5)] rfl rfl (Nat.le_of_ble_eq_true rfl) rfl ?_
  refine V_aload_n hX (j := 1) (hj := rfl) 39 73 rfl rfl ?_
  refine V_get hX 40 76 21 (.ref (kA K 23)) fl_Ra_15 rfl rfl (by decide) (ent_21 K _) rfl ?_
  refine V_iload_n hX (j := 4) (hj := rfl) 41 77 rfl rfl ?_
  refine V_iload hX (j := 5) (hj := rfl) 42 79 rfl rfl ?_
  refine V_callU hX 82 0 0 rfl rfl rfl (Nat.le_of_ble_eq_true rfl) (Nat.le_of_ble_eq_true rfl) (VR_SN hX 43 (ct_SA_write (cx_t hX) K 23 v3 v5 M) my_SA_write mt_SA_write mn_Ra_38 (Nat.le_of_ble_eq_true rfl) (Nat.le_of_ble_eq_true rfl) rfl rfl (Nat.le_of_ble_eq_true rfl) rfl (Nat.le_of_ble_eq_true rfl) (Nat.le_of_ble_eq_true rfl)) (fun r79 M79 => ?_)
  refine V_iincL hX 44 85 4 rfl rfl rfl rfl (Nat.le_of_ble_eq_true rfl) (fun x3_82 hx3_82 => ?_)
  refine VV_lc [(3, .int x3_82), (4, .int s0), (0, .ref (kA K 21)), (1, .ref (kA K v1)), (2, .int v2), (5, .int v5)] rfl ?_
  refine V_iincL hX 45 88 5 rfl rfl rfl rfl (Nat.le_of_ble_eq_true rfl) (fun x5_85 hx5_85 => ?_)
  refine VV_lc [(5, .int x5_85), (3, .int x3_82), (4, .int s0), (0, .ref (kA K 21)), (1, .ref (kA K v1)), (2, .int v2)] rfl ?_
  refine V_goto hX 46 13 rfl (by decide) ?_
  refine VV_sub [3, 4, 5, 1, 2, 0] rfl ?_
  exact hk13 x3_82 s0 x5_85 M79
set_option maxRecDepth 20000 in
theorem bt_Ra_nextAbove_52 {l : Launch} {K : KT} {X : XT} (hX : Cx l K 2 6 0 0 X prog_10_method_6_code "SeriesArchive$Ranges" (some .int) [] L_Ra_nextAbove) (k13 : Int32 → Int32 → Int32 → Mm → Rs Int32) (v1 : Nat) (v2 : Int32) (v3 : Int32) (v5 : Int32) (hk13 : ∀ (v3 : Int32) (v4 : Int32) (v5 : Int32) M, VV l K 2 6 0 0 rvI X (k13 v3 v4 v5 M) 0 0 M 13 [(0, .ref (kA K 21)), (1, .ref (kA K v1)), (2, .int v2), (3, .int v3), (4, .int v4), (5, .int v5)] []) (hv1 : isSer v1) (M : Mm) : VV l K 2 6 0 0 rvI X (fn_Ra_nextAbove_52 k13 v1 v2 v3 v5 M) 0 0 M 52 [(0, .ref (kA K 21)), (1, .ref (kA K v1)), (2, .int v2), (3, .int v3), (5, .int v5)] [] := by
  unfold fn_Ra_nextAbove_52
  refine V_iload_n hX (j := 3) (hj := rfl) 28 53 rfl rfl ?_
  refine V_if_le hX 29 56 69 rfl rfl (by decide) (fun c53 => ?_) (fun c53 => ?_)
  · refine V_iconst hX (v := (-1)) (hv := by decide) 37 70 rfl rfl ?_
    exact bt_Ra_nextAbove_70 hX k13 v1 v2 v3 v5 hk13 (-1) hv1 M
  · refine V_aload_n hX (j := 0) (hj := rfl) 30 57 rfl rfl ?_
    refine V_get hX 31 60 21 (.ref (kA K 23)) fl_Ra_15 rfl rfl (by decide) (ent_21 K _) rfl ?_
    refine V_iload_n hX (j := 3) (hj := rfl) 32 61 rfl rfl ?_
    refine V_iconst hX (v := 1) (hv := by decide) 33 62 rfl rfl ?_
    refine V_isub hX 34 63 rfl rfl ?_
    refine V_callI hX 66 0 0 rfl rfl rfl (Nat.le_of_ble_eq_true rfl) (Nat.le_of_ble_eq_true rfl) (VR_SN hX 35 (ct_SA_read (cx_t hX) K 23 (v3 - 1) M) my_SA_read mt_SA_read mn_Ra_42 (Nat.le_of_ble_eq_true rfl) (Nat.le_of_ble_eq_true rfl) rfl rfl (Nat.le_of_ble_eq_true rfl) rfl (Nat.le_of_ble_eq_true rfl) (Nat.le_of_ble_eq_true rfl)) (fun r63 M63 => ?_)
    refine V_goto hX 36 70 rfl (by decide) ?_
    exact bt_Ra_nextAbove_70 hX k13 v1 v2 v3 v5 hk13 r63 hv1 M63
set_option maxRecDepth 20000 in
theorem bt_Ra_nextAbove_19 {l : Launch} {K : KT} {X : XT} (hX : Cx l K 2 6 0 0 X prog_10_method_6_code "SeriesArchive$Ranges" (some .int) [] L_Ra_nextAbove) (k13 : Int32 → Int32 → Int32 → Mm → Rs Int32) (v1 : Nat) (v2 : Int32) (v5 : Int32) (hk13 : ∀ (v3 : Int32) (v4 : Int32) (v5 : Int32) M, VV l K 2 6 0 0 rvI X (k13 v3 v4 v5 M) 0 0 M 13 [(0, .ref (kA K 21)), (1, .ref (kA K v1)), (2, .int v2), (3, .int v3), (4, .int v4), (5, .int v5)] []) (hv1 : isSer v1) : ∀ (n : Nat) (v3 : Int32) (M : Mm), VV l K 2 6 0 0 rvI X (fn_Ra_nextAbove_19 k13 v1 v2 v5 n v3 M) 0 0 M 19 [(0, .ref (kA K 21)), (1, .ref (kA K v1)), (2, .int v2), (3, .int v3), (5, .int v5)] [] := by
  intro n
  induction n with
  | zero => intro v3 M; exact VV_none
  | succ n ih =>
    intro v3 M
    rw [fn_Ra_nextAbove_19]
    refine V_iload_n hX (j := 3) (hj := rfl) 12 20 rfl rfl ?_
    refine V_if_le hX 13 23 52 rfl rfl (by decide) (fun c20 => ?_) (fun c20 => ?_)
    · exact bt_Ra_nextAbove_52 hX k13 v1 v2 v3 v5 hk13 hv1 M
    · refine V_aload_n hX (j := 1) (hj := rfl) 14 24 rfl rfl ?_
      refine V_aload_n hX (j := 0) (hj := rfl) 15 25 rfl rfl ?_
      refine V_get hX 16 28 21 (.ref (kA K 23)) fl_Ra_15 rfl rfl (by decide) (ent_21 K _) rfl ?_
      refine V_iload_n hX (j := 3) (hj := rfl) 17 29 rfl rfl ?_
      refine V_iconst hX (v := 1) (hv := by decide) 18 30 rfl rfl ?_
      refine V_isub hX 19 31 rfl rfl ?_
      refine V_callI hX 34 0 0 rfl rfl rfl (Nat.le_of_ble_eq_true rfl) (Nat.le_of_ble_eq_true rfl) (VR_SN hX 20 (ct_SA_read (cx_t hX) K 23 (v3 - 1) M) my_SA_read mt_SA_read mn_Ra_42 (Nat.le_of_ble_eq_true rfl) (Nat.le_of_ble_eq_true rfl) rfl rfl (Nat.le_of_ble_eq_true rfl) rfl (Nat.le_of_ble_eq_true rfl) (Nat.le_of_ble_eq_true rfl)) (fun r31 M31 => ?_)
      refine V_callI hX 37 0 0 rfl rfl rfl (Nat.le_of_ble_eq_true rfl) (Nat.le_of_ble_eq_true rfl) (VR_V hX 21 (ct_Se_at (cx_t hX) K v1 r31 M31) my_Se_at mi_Se_at ms_Se_at ml_Ra_46 (Nat.le_of_ble_eq_true rfl) (Nat.le_of_ble_eq_true rfl) (loc_ser hv1) (ent_ser K _ hv1) rfl rfl rfl (Nat.le_of_ble_eq_true rfl) rfl (Nat.le_of_ble_eq_true rfl) (Nat.le_of_ble_eq_true rfl)) (fun r34 M34 => ?_)
      refine V_aload_n hX (j := 1) (hj := rfl) 22 38 rfl rfl ?_
      refine V_iload hX (j := 4) (hj := rfl) 23 40 rfl rfl ?_
      refine V_callI hX 43 0 0 rfl rfl rfl (Nat.le_of_ble_eq_true rfl) (Nat.le_of_ble_eq_true rfl) (VR_V hX 24 (ct_Se_at (cx_t hX) K v1 v5 M34) my_Se_at mi_Se_at ms_Se_at ml_Ra_46 (Nat.le_of_ble_eq_true rfl) (Nat.le_of_ble_eq_true rfl) (loc_ser hv1) (ent_ser K _ hv1) rfl rfl rfl (Nat.le_of_ble_eq_true rfl) rfl (Nat.le_of_ble_eq_true rfl) (Nat.le_of_ble_eq_true rfl)) (fun r40 M40 => ?_)
      refine V_icmp_gt hX 25 46 52 rfl rfl (by decide) (fun c43 => ?_) (fun c43 => ?_)
      · exact bt_Ra_nextAbove_52 hX k13 v1 v2 v3 v5 hk13 hv1 M40
      · refine V_iincL hX 26 49 3 rfl rfl rfl rfl (Nat.le_of_ble_eq_true rfl) (fun x3_46 hx3_46 => ?_)
        refine VV_lc [(3, .int x3_46), (0, .ref (kA K 21)), (1, .ref (kA K v1)), (2, .int v2), (5, .int v5)] rfl ?_
        refine V_goto hX 27 19 rfl (by decide) ?_
        refine VV_sub [1, 2, 3, 0, 4] rfl ?_
        exact ih x3_46 M40
set_option maxRecDepth 20000 in
theorem bt_Ra_nextAbove_13 {l : Launch} {K : KT} {X : XT} (hX : Cx l K 2 6 0 0 X prog_10_method_6_code "SeriesArchive$Ranges" (some .int) [] L_Ra_nextAbove) (v1 : Nat) (v2 : Int32) (hv1 : isSer v1) : ∀ (n : Nat) (v3 : Int32) (v4 : Int32) (v5 : Int32) (M : Mm), VV l K 2 6 0 0 rvI X (fn_Ra_nextAbove_13 v1 v2 n v3 v4 v5 M) 0 0 M 13 [(0, .ref (kA K 21)), (1, .ref (kA K v1)), (2, .int v2), (3, .int v3), (4, .int v4), (5, .int v5)] [] := by
  intro n
  induction n with
  | zero => intro v3 v4 v5 M; exact VV_none
  | succ n ih =>
    intro v3 v4 v5 M
    rw [fn_Ra_nextAbove_13]
    refine V_iload hX (j := 5) (hj := rfl) 9 15 rfl rfl ?_
    refine V_iload_n hX (j := 2) (hj := rfl) 10 16 rfl rfl ?_
    refine V_icmp_lt hX 11 19 91 rfl rfl (by decide) (fun c16 => ?_) (fun c16 => ?_)
    · refine V_iload hX (j := 4) (hj := rfl) 47 93 rfl rfl ?_
      exact V_iret hX 48 rfl (Nat.le_of_ble_eq_true rfl) (Nat.le_of_ble_eq_true rfl) rfl
    · refine VV_sub [0, 1, 2, 3, 5] rfl ?_
      exact bt_Ra_nextAbove_19 hX (fn_Ra_nextAbove_13 v1 v2 n) v1 v2 v5 ih hv1 fuel0 v3 M
set_option maxRecDepth 20000 in
theorem ct_Ra_nextAbove {l : Launch} (hl : l.stackTraces = false) (K : KT) (v1 : Nat) (v2 : Int32) (M : Mm) : CTp l K y_Ra_nextAbove (Cond.code y_Ra_nextAbove prog_10_method_6_code 6 (some .int)) rvI 2 0 0 [.ref (kA K 21), .ref (kA K v1), .int v2] M (fn_Ra_nextAbove v1 v2 M) := by
  refine CTp_of (L := L_Ra_nextAbove) (lc := [(0, .ref (kA K 21)), (1, .ref (kA K v1)), (2, .int v2)]) (by decide +kernel) dec_Ra_nextAbove hl rfl (Nat.le_of_ble_eq_true rfl) (fun X hX => ?_)
  unfold fn_Ra_nextAbove
  refine VV_grd (fun hv1 => ?_)
  refine V_iconst hX (v := 0) (hv := by decide) 0 1 rfl rfl ?_
  refine V_istore_n hX 1 2 [(3, .int 0), (0, .ref (kA K 21)), (1, .ref (kA K v1)), (2, .int v2)] rfl rfl (Nat.le_of_ble_eq_true rfl) rfl ?_
  refine V_iconst hX (v := (-1)) (hv := by decide) 2 3 rfl rfl ?_
  refine V_istore hX 3 5 [(4, .int (-1)), (3, .int 0), (0, .ref (kA K 21)), (1, .ref (kA K v1)), (2, .int v2)] rfl rfl (Nat.le_of_ble_eq_true rfl) rfl ?_
  refine V_aload_n hX (j := 3) (hj := rfl) 4 6 rfl rfl ?_
  refine V_callI hX 9 0 0 rfl rfl rfl (Nat.le_of_ble_eq_true rfl) (Nat.le_of_ble_eq_true rfl) (VR_V hX 5 (ct_Se_size (cx_t hX) K v1 M) my_Se_size mi_Se_size ms_Se_size ml_Ra_32 (Nat.le_of_ble_eq_true rfl) (Nat.le_of_ble_eq_true rfl) (loc_ser hv1) (ent_ser K _ hv1) rfl rfl rfl (Nat.le_of_ble_eq_true rfl) rfl (Nat.le_of_ble_eq_true rfl) (Nat.le_of_ble_eq_true rfl)) (fun r6 M6 => ?_)
  refine V_iconst hX (v := 1) (hv := by decide) 6 10 rfl rfl ?_
  refine V_isub hX 7 11 rfl rfl ?_
  refine VV_li (fun x5_11 hx5_11 => ?_)
  refine V_istore hX 8 13 [(5, .int x5_11), (4, .int (-1)), (3, .int 0), (0, .ref (kA K 21)), (1, .ref (kA K v1)), (2, .int v2)] rfl rfl (Nat.le_of_ble_eq_true rfl) rfl ?_
  refine VV_sub [3, 4, 5, 2, 1, 0] rfl ?_
  exact bt_Ra_nextAbove_13 hX v1 v2 hv1 fuel0 0 (-1) x5_11 M6
set_option maxRecDepth 20000 in
theorem bt_Ra_nextAboveByScan_4 {l : Launch} {K : KT} {X : XT} (hX : Cx l K 2 3 0 0 X prog_10_method_7_code "SeriesArchive$Ranges" (some .int) [] L_Ra_nextAboveByScan) (v0 : Nat) (v1 : Int32) (hv0 : isSer v0) : ∀ (n : Nat) (v2 : Int32) (M : Mm), VV l K 2 3 0 0 rvI X (fn_Ra_nextAboveByScan_4 v0 v1 n v2 M) 0 0 M 4 [(0, .ref (kA K v0)), (1, .int v1), (2, .int v2)] [] := by
  intro n
  induction n with
  | zero => intro v2 M; exact VV_none
  | succ n ih =>
    intro v2 M
    rw [fn_Ra_nextAboveByScan_4]
    refine V_iload_n hX (j := 2) (hj := rfl) 4 5 rfl rfl ?_
    refine V_aload_n hX (j := 0) (hj := rfl) 5 6 rfl rfl ?_
    refine V_callI hX 9 0 0 rfl rfl rfl (Nat.le_of_ble_eq_true rfl) (Nat.le_of_ble_eq_true rfl) (VR_V hX 6 (ct_Se_size (cx_t hX) K v0 M) my_Se_size mi_Se_size ms_Se_size ml_Ra_32 (Nat.le_of_ble_eq_true rfl) (Nat.le_of_ble_eq_true rfl) (loc_ser hv0) (ent_ser K _ hv0) rfl rfl rfl (Nat.le_of_ble_eq_true rfl) rfl (Nat.le_of_ble_eq_true rfl) (Nat.le_of_ble_eq_true rfl)) (fun r6 M6 => ?_)
    refine V_icmp_ge hX 7 12 33 rfl rfl (by decide) (fun c9 => ?_) (fun c9 => ?_)
    · refine V_iconst hX (v := (-1)) (hv := by decide) 19 34 rfl rfl ?_
      exact V_iret hX 20 rfl (Nat.le_of_ble_eq_true rfl) (Nat.le_of_ble_eq_true rfl) rfl
    · refine V_aload_n hX (j := 0) (hj := rfl) 8 13 rfl rfl ?_
      refine V_iload_n hX (j := 2) (hj := rfl) 9 14 rfl rfl ?_
      refine V_callI hX 17 0 0 rfl rfl rfl (Nat.le_of_ble_eq_true rfl) (Nat.le_of_ble_eq_true rfl) (VR_V hX 10 (ct_Se_at (cx_t hX) K v0 v2 M6) my_Se_at mi_Se_at ms_Se_at ml_Ra_46 (Nat.le_of_ble_eq_true rfl) (Nat.le_of_ble_eq_true rfl) (loc_ser hv0) (ent_ser K _ hv0) rfl rfl rfl (Nat.le_of_ble_eq_true rfl) rfl (Nat.le_of_ble_eq_true rfl) (Nat.le_of_ble_eq_true rfl)) (fun r14 M14 => ?_)
      refine V_aload_n hX (j := 0) (hj := rfl) 11 18 rfl rfl ?_
      refine V_iload_n hX (j := 1) (hj := rfl) 12 19 rfl rfl ?_
      refine V_callI hX 22 0 0 rfl rfl rfl (Nat.le_of_ble_eq_true rfl) (Nat.le_of_ble_eq_true rfl) (VR_V hX 13 (ct_Se_at (cx_t hX) K v0 v1 M14) my_Se_at mi_Se_at ms_Se_at ml_Ra_46 (Nat.le_of_ble_eq_true rfl) (Nat.le_of_ble_eq_true rfl) (loc_ser hv0) (ent_ser K _ hv0) rfl rfl rfl (Nat.le_of_ble_eq_true rfl) rfl (Nat.le_of_ble_eq_true rfl) (Nat.le_of_ble_eq_true rfl)) (fun r19 M19 => ?_)
      refine V_icmp_le hX 14 25 27 rfl rfl (by decide) (fun c22 => ?_) (fun c22 => ?_)
      · refine V_iincL hX 17 30 2 rfl rfl rfl rfl (Nat.le_of_ble_eq_true rfl) (fun x2_27 hx2_27 => ?_)
        refine VV_lc [(2, .int x2_27), (0, .ref (kA K v0)), (1, .int v1)] rfl ?_
        refine V_goto hX 18 4 rfl (by decide) ?_
        refine VV_sub [1, 2, 0] rfl ?_
        exact ih x2_27 M19
      · refine V_iload_n hX (j := 2) (hj := rfl) 15 26 rfl rfl ?_
        exact V_iret hX 16 rfl (Nat.le_of_ble_eq_true rfl) (Nat.le_of_ble_eq_true rfl) rfl
set_option maxRecDepth 20000 in
theorem ct_Ra_nextAboveByScan {l : Launch} (hl : l.stackTraces = false) (K : KT) (v0 : Nat) (v1 : Int32) (M : Mm) : CTp l K y_Ra_nextAboveByScan (Cond.code y_Ra_nextAboveByScan prog_10_method_7_code 3 (some .int)) rvI 2 0 0 [.ref (kA K v0), .int v1] M (fn_Ra_nextAboveByScan v0 v1 M) := by
  refine CTp_of (L := L_Ra_nextAboveByScan) (lc := [(0, .ref (kA K v0)), (1, .int v1)]) (by decide +kernel) dec_Ra_nextAboveByScan hl rfl (Nat.le_of_ble_eq_true rfl) (fun X hX => ?_)
  unfold fn_Ra_nextAboveByScan
  refine VV_grd (fun hv0 => ?_)
  refine V_iload_n hX (j := 1) (hj := rfl) 0 1 rfl rfl ?_
  refine V_iconst hX (v := 1) (hv := by decide) 1 2 rfl rfl ?_
  refine V_iadd hX 2 3 rfl rfl ?_
  refine VV_li (fun x2_3 hx2_3 => ?_)
  refine V_istore_n hX 3 4 [(2, .int x2_3), (0, .ref (kA K v0)), (1, .int v1)] rfl rfl (Nat.le_of_ble_eq_true rfl) rfl ?_
  refine VV_sub [1, 2, 0] rfl ?_
  exact bt_Ra_nextAboveByScan_4 hX v0 v1 hv0 fuel0 x2_3 M
set_option maxRecDepth 20000 in
theorem bt_Ra_bestTotal_10 {l : Launch} {K : KT} {X : XT} (hX : Cx l K 2 4 0 0 X prog_10_method_8_code "SeriesArchive$Ranges" (some .int) [] L_Ra_bestTotal) (v0 : Nat) (hv0 : isSer v0) : ∀ (n : Nat) (v1 : Int32) (v2 : Int32) (v3 : Int32) (M : Mm), VV l K 2 4 0 0 rvI X (fn_Ra_bestTotal_10 v0 n v1 v2 v3 M) 0 0 M 10 [(0, .ref (kA K v0)), (1, .int v1), (2, .int v2), (3, .int v3)] [] := by
  intro n
  induction n with
  | zero => intro v1 v2 v3 M; exact VV_none
  | succ n ih =>
    intro v1 v2 v3 M
    rw [fn_Ra_bestTotal_10]
    refine V_iload_n hX (j := 3) (hj := rfl) 8 11 rfl rfl ?_
    refine V_aload_n hX (j := 0) (hj := rfl) 9 12 rfl rfl ?_
    refine V_callI hX 15 0 0 rfl rfl rfl (Nat.le_of_ble_eq_true rfl) (Nat.le_of_ble_eq_true rfl) (VR_V hX 10 (ct_Se_size (cx_t hX) K v0 M) my_Se_size mi_Se_size ms_Se_size ml_Ra_32 (Nat.le_of_ble_eq_true rfl) (Nat.le_of_ble_eq_true rfl) (loc_ser hv0) (ent_ser K _ hv0) rfl rfl rfl (Nat.le_of_ble_eq_true rfl) rfl (Nat.le_of_ble_eq_true rfl) (Nat.le_of_ble_eq_true rfl)) (fun r12 M12 => ?_)
    refine V_icmp_ge hX 11 18 42 rfl rfl (by decide) (fun c15 => ?_) (fun c15 => ?_)
    · refine V_iload_n hX (j := 2) (hj := rfl) 26 43 rfl rfl ?_
      exact V_iret hX 27 rfl (Nat.le_of_ble_eq_true rfl) (Nat.le_of_ble_eq_true rfl) rfl
    · refine V_iload_n hX (j := 1) (hj := rfl) 12 19 rfl rfl ?_
      refine V_iconst hX (v := 0) (hv := by decide) 13 20 rfl rfl ?_
      refine V_max hX 14 23 mm_Ra_49 (Nat.le_of_ble_eq_true rfl) (Nat.le_of_ble_eq_true rfl) (Nat.le_of_ble_eq_true rfl) (Nat.le_of_ble_eq_true rfl) rfl rfl ?_
      refine V_aload_n hX (j := 0) (hj := rfl) 15 24 rfl rfl ?_
      refine V_iload_n hX (j := 3) (hj := rfl) 16 25 rfl rfl ?_
      refine V_callI hX 28 0 0 rfl rfl rfl (Nat.le_of_ble_eq_true rfl) (Nat.le_of_ble_eq_true rfl) (VR_V hX 17 (ct_Se_at (cx_t hX) K v0 v3 M12) my_Se_at mi_Se_at ms_Se_at ml_Ra_46 (Nat.le_of_ble_eq_true rfl) (Nat.le_of_ble_eq_true rfl) (loc_ser hv0) (ent_ser K _ hv0) rfl rfl rfl (Nat.le_of_ble_eq_true rfl) rfl (Nat.le_of_ble_eq_true rfl) (Nat.le_of_ble_eq_true rfl)) (fun r25 M25 => ?_)
      refine V_iadd hX 18 29 rfl rfl ?_
      refine VV_li (fun x1_29 hx1_29 => ?_)
      refine V_istore_n hX 19 30 [(1, .int x1_29), (0, .ref (kA K v0)), (2, .int v2), (3, .int v3)] rfl rfl (Nat.le_of_ble_eq_true rfl) rfl ?_
      refine V_iload_n hX (j := 2) (hj := rfl) 20 31 rfl rfl ?_
      refine V_iload_n hX (j := 0) (hj := rfl) 21 32 rfl rfl ?_
      refine V_max hX 22 35 mm_Ra_49 (Nat.le_of_ble_eq_true rfl) (Nat.le_of_ble_eq_true rfl) (Nat.le_of_ble_eq_true rfl) (Nat.le_of_ble_eq_true rfl) rfl rfl ?_
      refine VV_li (fun x2_35 hx2_35 => ?_)
      refine V_istore_n hX 23 36 [(2, .int x2_35), (1, .int x1_29), (0, .ref (kA K v0)), (3, .int v3)] rfl rfl (Nat.le_of_ble_eq_true rfl) rfl ?_
      refine V_iincL hX 24 39 3 rfl rfl rfl rfl (Nat.le_of_ble_eq_true rfl) (fun x3_36 hx3_36 => ?_)
      refine VV_lc [(3, .int x3_36), (2, .int x2_35), (1, .int x1_29), (0, .ref (kA K v0))] rfl ?_
      refine V_goto hX 25 10 rfl (by decide) ?_
      refine VV_sub [3, 2, 1, 0] rfl ?_
      exact ih x1_29 x2_35 x3_36 M25
set_option maxRecDepth 20000 in
theorem ct_Ra_bestTotal {l : Launch} (hl : l.stackTraces = false) (K : KT) (v0 : Nat) (M : Mm) : CTp l K y_Ra_bestTotal (Cond.code y_Ra_bestTotal prog_10_method_8_code 4 (some .int)) rvI 2 0 0 [.ref (kA K v0)] M (fn_Ra_bestTotal v0 M) := by
  refine CTp_of (L := L_Ra_bestTotal) (lc := [(0, .ref (kA K v0))]) (by decide +kernel) dec_Ra_bestTotal hl rfl (Nat.le_of_ble_eq_true rfl) (fun X hX => ?_)
  unfold fn_Ra_bestTotal
  refine VV_grd (fun hv0 => ?_)
  refine V_aload_n hX (j := 0) (hj := rfl) 0 1 rfl rfl ?_
  refine V_iconst hX (v := 0) (hv := by decide) 1 2 rfl rfl ?_
  refine V_callI hX 5 0 0 rfl rfl rfl (Nat.le_of_ble_eq_true rfl) (Nat.le_of_ble_eq_true rfl) (VR_V hX 2 (ct_Se_at (cx_t hX) K v0 0 M) my_Se_at mi_Se_at ms_Se_at ml_Ra_46 (Nat.le_of_ble_eq_true rfl) (Nat.le_of_ble_eq_true rfl) (loc_ser hv0) (ent_ser K _ hv0) rfl rfl rfl (Nat.le_of_ble_eq_true rfl) rfl (Nat.le_of_ble_eq_true rfl) (Nat.le_of_ble_eq_true rfl)) (fun r2 M2 => ?_)
  refine V_istore_n hX 3 6 [(1, .int r2), (0, .ref (kA K v0))] rfl rfl (Nat.le_of_ble_eq_true rfl) rfl ?_
  refine V_iload_n hX (j := 0) (hj := rfl) 4 7 rfl rfl ?_
  refine V_istore_n hX 5 8 [(2, .int r2), (1, .int r2), (0, .ref (kA K v0))] rfl rfl (Nat.le_of_ble_eq_true rfl) rfl ?_
  refine V_iconst hX (v := 1) (hv := by decide) 6 9 rfl rfl ?_
  refine V_istore_n hX 7 10 [(3, .int 1), (2, .int r2), (1, .int r2), (0, .ref (kA K v0))] rfl rfl (Nat.le_of_ble_eq_true rfl) rfl ?_
  refine VV_sub [3, 2, 1, 0] rfl ?_
  exact bt_Ra_bestTotal_10 hX v0 hv0 fuel0 r2 r2 1 M2
set_option maxRecDepth 20000 in
theorem bt_Ra_bestTotalByRanges_51 {l : Launch} {K : KT} {X : XT} (hX : Cx l K 2 5 0 0 X prog_10_method_9_code "SeriesArchive$Ranges" (some .int) [] L_Ra_bestTotalByRanges) (k8 : Int32 → Int32 → Mm → Rs Int32) (v0 : Nat) (v1 : Int32) (v2 : Int32) (hk8 : ∀ (v1 : Int32) (v2 : Int32) M, VV l K 2 5 0 0 rvI X (k8 v1 v2 M) 0 0 M 8 [(0, .ref (kA K v0)), (1, .int v1), (2, .int v2)] []) (hv0 : isSer v0) (M : Mm) : VV l K 2 5 0 0 rvI X (fn_Ra_bestTotalByRanges_51 k8 v0 v1 v2 M) 0 0 M 51 [(0, .ref (kA K v0)), (1, .int v1), (2, .int v2)] [] := by
  unfold fn_Ra_bestTotalByRanges_51
  refine V_iincL hX 30 54 2 rfl rfl rfl rfl (Nat.le_of_ble_eq_true rfl) (fun x2_51 hx2_51 => ?_)
  refine VV_lc [(2, .int x2_51), (0, .ref (kA K v0)), (1, .int v1)] rfl ?_
  refine V_goto hX 31 8 rfl (by decide) ?_
  refine VV_sub [1, 2, 0] rfl ?_
  exact hk8 v1 x2_51 M
set_option maxRecDepth 20000 in
theorem bt_Ra_bestTotalByRanges_21 {l : Launch} {K : KT} {X : XT} (hX : Cx l K 2 5 0 0 X prog_10_method_9_code "SeriesArchive$Ranges" (some .int) [] L_Ra_bestTotalByRanges) (k8 : Int32 → Int32 → Mm → Rs Int32) (v0 : Nat) (v2 : Int32) (hk8 : ∀ (v1 : Int32) (v2 : Int32) M, VV l K 2 5 0 0 rvI X (k8 v1 v2 M) 0 0 M 8 [(0, .ref (kA K v0)), (1, .int v1), (2, .int v2)] []) (hv0 : isSer v0) : ∀ (n : Nat) (v1 : Int32) (v3 : Int32) (v4 : Int32) (M : Mm), VV l K 2 5 0 0 rvI X (fn_Ra_bestTotalByRanges_21 k8 v0 v2 n v1 v3 v4 M) 0 0 M 21 [(0, .ref (kA K v0)), (1, .int v1), (2, .int v2), (3, .int v3), (4, .int v4)] [] := by
  intro n
  induction n with
  | zero => intro v1 v3 v4 M; exact VV_none
  | succ n ih =>
    intro v1 v3 v4 M
    rw [fn_Ra_bestTotalByRanges_21]
    refine V_iload hX (j := 4) (hj := rfl) 14 23 rfl rfl ?_
    refine V_aload_n hX (j := 0) (hj := rfl) 15 24 rfl rfl ?_
    refine V_callI hX 27 0 0 rfl rfl rfl (Nat.le_of_ble_eq_true rfl) (Nat.le_of_ble_eq_true rfl) (VR_V hX 16 (ct_Se_size (cx_t hX) K v0 M) my_Se_size mi_Se_size ms_Se_size ml_Ra_32 (Nat.le_of_ble_eq_true rfl) (Nat.le_of_ble_eq_true rfl) (loc_ser hv0) (ent_ser K _ hv0) rfl rfl rfl (Nat.le_of_ble_eq_true rfl) rfl (Nat.le_of_ble_eq_true rfl) (Nat.le_of_ble_eq_true rfl)) (fun r24 M24 => ?_)
    refine V_icmp_ge hX 17 30 51 rfl rfl (by decide) (fun c27 => ?_) (fun c27 => ?_)
    · refine VV_sub [0, 1, 2] rfl ?_
      exact bt_Ra_bestTotalByRanges_51 hX k8 v0 v1 v2 hk8 hv0 M24
    · refine V_iload_n hX (j := 3) (hj := rfl) 18 31 rfl rfl ?_
      refine V_aload_n hX (j := 0) (hj := rfl) 19 32 rfl rfl ?_
      refine V_iload hX (j := 4) (hj := rfl) 20 34 rfl rfl ?_
      refine V_callI hX 37 0 0 rfl rfl rfl (Nat.le_of_ble_eq_true rfl) (Nat.le_of_ble_eq_true rfl) (VR_V hX 21 (ct_Se_at (cx_t hX) K v0 v4 M24) my_Se_at mi_Se_at ms_Se_at ml_Ra_46 (Nat.le_of_ble_eq_true rfl) (Nat.le_of_ble_eq_true rfl) (loc_ser hv0) (ent_ser K _ hv0) rfl rfl rfl (Nat.le_of_ble_eq_true rfl) rfl (Nat.le_of_ble_eq_true rfl) (Nat.le_of_ble_eq_true rfl)) (fun r34 M34 => ?_)
      refine V_iadd hX 22 38 rfl rfl ?_
      refine VV_li (fun x3_38 hx3_38 => ?_)
      refine V_istore_n hX 23 39 [(3, .int x3_38), (0, .ref (kA K v0)), (1, .int v1), (2, .int v2), (4, .int v4)] rfl rfl (Nat.le_of_ble_eq_true rfl) rfl ?_
      refine V_iload_n hX (j := 2) (hj := rfl) 24 40 rfl rfl ?_
      refine V_iload_n hX (j := 0) (hj := rfl) 25 41 rfl rfl ?_
      refine V_max hX 26 44 mm_Ra_49 (Nat.le_of_ble_eq_true rfl) (Nat.le_of_ble_eq_true rfl) (Nat.le_of_ble_eq_true rfl) (Nat.le_of_ble_eq_true rfl) rfl rfl ?_
      refine VV_li (fun x1_44 hx1_44 => ?_)
      refine V_istore_n hX 27 45 [(1, .int x1_44), (3, .int x3_38), (0, .ref (kA K v0)), (2, .int v2), (4, .int v4)] rfl rfl (Nat.le_of_ble_eq_true rfl) rfl ?_
      refine V_iincL hX 28 48 4 rfl rfl rfl rfl (Nat.le_of_ble_eq_true rfl) (fun x4_45 hx4_45 => ?_)
      refine VV_lc [(4, .int x4_45), (1, .int x1_44), (3, .int x3_38), (0, .ref (kA K v0)), (2, .int v2)] rfl ?_
      refine V_goto hX 29 21 rfl (by decide) ?_
      refine VV_sub [3, 1, 4, 2, 0] rfl ?_
      exact ih x1_44 x3_38 x4_45 M34
set_option maxRecDepth 20000 in
theorem bt_Ra_bestTotalByRanges_8 {l : Launch} {K : KT} {X : XT} (hX : Cx l K 2 5 0 0 X prog_10_method_9_code "SeriesArchive$Ranges" (some .int) [] L_Ra_bestTotalByRanges) (v0 : Nat) (hv0 : isSer v0) : ∀ (n : Nat) (v1 : Int32) (v2 : Int32) (M : Mm), VV l K 2 5 0 0 rvI X (fn_Ra_bestTotalByRanges_8 v0 n v1 v2 M) 0 0 M 8 [(0, .ref (kA K v0)), (1, .int v1), (2, .int v2)] [] := by
  intro n
  induction n with
  | zero => intro v1 v2 M; exact VV_none
  | succ n ih =>
    intro v1 v2 M
    rw [fn_Ra_bestTotalByRanges_8]
    refine V_iload_n hX (j := 2) (hj := rfl) 6 9 rfl rfl ?_
    refine V_aload_n hX (j := 0) (hj := rfl) 7 10 rfl rfl ?_
    refine V_callI hX 13 0 0 rfl rfl rfl (Nat.le_of_ble_eq_true rfl) (Nat.le_of_ble_eq_true rfl) (VR_V hX 8 (ct_Se_size (cx_t hX) K v0 M) my_Se_size mi_Se_size ms_Se_size ml_Ra_32 (Nat.le_of_ble_eq_true rfl) (Nat.le_of_ble_eq_true rfl) (loc_ser hv0) (ent_ser K _ hv0) rfl rfl rfl (Nat.le_of_ble_eq_true rfl) rfl (Nat.le_of_ble_eq_true rfl) (Nat.le_of_ble_eq_true rfl)) (fun r10 M10 => ?_)
    refine V_icmp_ge hX 9 16 57 rfl rfl (by decide) (fun c13 => ?_) (fun c13 => ?_)
    · refine V_iload_n hX (j := 1) (hj := rfl) 32 58 rfl rfl ?_
      exact V_iret hX 33 rfl (Nat.le_of_ble_eq_true rfl) (Nat.le_of_ble_eq_true rfl) rfl
    · refine V_iconst hX (v := 0) (hv := by decide) 10 17 rfl rfl ?_
      refine V_istore_n hX 11 18 [(3, .int 0), (0, .ref (kA K v0)), (1, .int v1), (2, .int v2)] rfl rfl (Nat.le_of_ble_eq_true rfl) rfl ?_
      refine V_iload_n hX (j := 3) (hj := rfl) 12 19 rfl rfl ?_
      refine V_istore hX 13 21 [(4, .int v2), (3, .int 0), (0, .ref (kA K v0)), (1, .int v1), (2, .int v2)] rfl rfl (Nat.le_of_ble_eq_true rfl) rfl ?_
      refine VV_sub [2, 3, 4, 1, 0] rfl ?_
      exact bt_Ra_bestTotalByRanges_21 hX (fn_Ra_bestTotalByRanges_8 v0 n) v0 v2 ih hv0 fuel0 v1 0 v2 M10
set_option maxRecDepth 20000 in
theorem ct_Ra_bestTotalByRanges {l : Launch} (hl : l.stackTraces = false) (K : KT) (v0 : Nat) (M : Mm) : CTp l K y_Ra_bestTotalByRanges (Cond.code y_Ra_bestTotalByRanges prog_10_method_9_code 5 (some .int)) rvI 2 0 0 [.ref (kA K v0)] M (fn_Ra_bestTotalByRanges v0 M) := by
  refine CTp_of (L := L_Ra_bestTotalByRanges) (lc := [(0, .ref (kA K v0))]) (by decide +kernel) dec_Ra_bestTotalByRanges hl rfl (Nat.le_of_ble_eq_true rfl) (fun X hX => ?_)
  unfold fn_Ra_bestTotalByRanges
  refine VV_grd (fun hv0 => ?_)
  refine V_aload_n hX (j := 0) (hj := rfl) 0 1 rfl rfl ?_
  refine V_iconst hX (v := 0) (hv := by decide) 1 2 rfl rfl ?_
  refine V_callI hX 5 0 0 rfl rfl rfl (Nat.le_of_ble_eq_true rfl) (Nat.le_of_ble_eq_true rfl) (VR_V hX 2 (ct_Se_at (cx_t hX) K v0 0 M) my_Se_at mi_Se_at ms_Se_at ml_Ra_46 (Nat.le_of_ble_eq_true rfl) (Nat.le_of_ble_eq_true rfl) (loc_ser hv0) (ent_ser K _ hv0) rfl rfl rfl (Nat.le_of_ble_eq_true rfl) rfl (Nat.le_of_ble_eq_true rfl) (Nat.le_of_ble_eq_true rfl)) (fun r2 M2 => ?_)
  refine V_istore_n hX 3 6 [(1, .int r2), (0, .ref (kA K v0))] rfl rfl (Nat.le_of_ble_eq_true rfl) rfl ?_
  refine V_iconst hX (v := 0) (hv := by decide) 4 7 rfl rfl ?_
  refine V_istore_n hX 5 8 [(2, .int 0), (1, .int r2), (0, .ref (kA K v0))] rfl rfl (Nat.le_of_ble_eq_true rfl) rfl ?_
  refine VV_sub [2, 1, 0] rfl ?_
  exact bt_Ra_bestTotalByRanges_8 hX v0 hv0 fuel0 r2 0 M2
set_option maxRecDepth 20000 in
theorem bt_Ra_endOfTotal_5 {l : Launch} {K : KT} {X : XT} (hX : Cx l K 2 5 0 0 X prog_10_method_12_code "SeriesArchive$Ranges" (some .int) [] L_Ra_endOfTotal) (v0 : Nat) (v2 : Int32) (hv0 : isSer v0) : ∀ (n : Nat) (v3 : Int32) (v4 : Int32) (M : Mm), VV l K 2 5 0 0 rvI X (fn_Ra_endOfTotal_5 v0 v2 n v3 v4 M) 0 0 M 5 [(0, .ref (kA K v0)), (2, .int v2), (3, .int v3), (4, .int v4)] [] := by
  intro n
  induction n with
  | zero => intro v3 v4 M; exact VV_none
  | succ n ih =>
    intro v3 v4 M
    rw [fn_Ra_endOfTotal_5]
    refine V_iload hX (j := 3) (hj := rfl) 4 7 rfl rfl ?_
    refine V_aload_n hX (j := 0) (hj := rfl) 5 8 rfl rfl ?_
    refine V_callI hX 11 0 0 rfl rfl rfl (Nat.le_of_ble_eq_true rfl) (Nat.le_of_ble_eq_true rfl) (VR_V hX 6 (ct_Se_size (cx_t hX) K v0 M) my_Se_size mi_Se_size ms_Se_size ml_Ra_32 (Nat.le_of_ble_eq_true rfl) (Nat.le_of_ble_eq_true rfl) (loc_ser hv0) (ent_ser K _ hv0) rfl rfl rfl (Nat.le_of_ble_eq_true rfl) rfl (Nat.le_of_ble_eq_true rfl) (Nat.le_of_ble_eq_true rfl)) (fun r8 M8 => ?_)
    refine V_icmp_ge hX 7 14 37 rfl rfl (by decide) (fun c11 => ?_) (fun c11 => ?_)
    · refine V_iconst hX (v := (-1)) (hv := by decide) 21 38 rfl rfl ?_
      exact V_iret hX 22 rfl (Nat.le_of_ble_eq_true rfl) (Nat.le_of_ble_eq_true rfl) rfl
    · refine V_iload_n hX (j := 2) (hj := rfl) 8 15 rfl rfl ?_
      refine V_aload_n hX (j := 0) (hj := rfl) 9 16 rfl rfl ?_
      refine V_iload hX (j := 3) (hj := rfl) 10 18 rfl rfl ?_
      refine V_callI hX 21 0 0 rfl rfl rfl (Nat.le_of_ble_eq_true rfl) (Nat.le_of_ble_eq_true rfl) (VR_V hX 11 (ct_Se_at (cx_t hX) K v0 v4 M8) my_Se_at mi_Se_at ms_Se_at ml_Ra_46 (Nat.le_of_ble_eq_true rfl) (Nat.le_of_ble_eq_true rfl) (loc_ser hv0) (ent_ser K _ hv0) rfl rfl rfl (Nat.le_of_ble_eq_true rfl) rfl (Nat.le_of_ble_eq_true rfl) (Nat.le_of_ble_eq_true rfl)) (fun r18 M18 => ?_)
      refine V_iadd hX 12 22 rfl rfl ?_
      refine VV_li (fun x3_22 hx3_22 => ?_)
      refine V_istore_n hX 13 23 [(3, .int x3_22), (0, .ref (kA K v0)), (2, .int v2), (4, .int v4)] rfl rfl (Nat.le_of_ble_eq_true rfl) rfl ?_
      refine V_iload_n hX (j := 0) (hj := rfl) 14 24 rfl rfl ?_
      refine V_iload_n hX (j := 2) (hj := rfl) 15 25 rfl rfl ?_
      refine V_icmp_ne hX 16 28 31 rfl rfl (by decide) (fun c25 => ?_) (fun c25 => ?_)
      · refine V_iincL hX 19 34 3 rfl rfl rfl rfl (Nat.le_of_ble_eq_true rfl) (fun x4_31 hx4_31 => ?_)
        refine VV_lc [(4, .int x4_31), (3, .int x3_22), (0, .ref (kA K v0)), (2, .int v2)] rfl ?_
        refine V_goto hX 20 5 rfl (by decide) ?_
        refine VV_sub [2, 3, 1, 0] rfl ?_
        exact ih x3_22 x4_31 M18
      · refine V_iload hX (j := 3) (hj := rfl) 17 30 rfl rfl ?_
        exact V_iret hX 18 rfl (Nat.le_of_ble_eq_true rfl) (Nat.le_of_ble_eq_true rfl) rfl
set_option maxRecDepth 20000 in
theorem ct_Ra_endOfTotal {l : Launch} (hl : l.stackTraces = false) (K : KT) (v0 : Nat) (v1 : Int32) (v2 : Int32) (M : Mm) : CTp l K y_Ra_endOfTotal (Cond.code y_Ra_endOfTotal prog_10_method_12_code 5 (some .int)) rvI 2 0 0 [.ref (kA K v0), .int v1, .int v2] M (fn_Ra_endOfTotal v0 v1 v2 M) := by
  refine CTp_of (L := L_Ra_endOfTotal) (lc := [(0, .ref (kA K v0)), (1, .int v1), (2, .int v2)]) (by decide +kernel) dec_Ra_endOfTotal hl rfl (Nat.le_of_ble_eq_true rfl) (fun X hX => ?_)
  unfold fn_Ra_endOfTotal
  refine VV_grd (fun hv0 => ?_)
  refine V_iconst hX (v := 0) (hv := by decide) 0 1 rfl rfl ?_
  refine V_istore_n hX 1 2 [(3, .int 0), (0, .ref (kA K v0)), (1, .int v1), (2, .int v2)] rfl rfl (Nat.le_of_ble_eq_true rfl) rfl ?_
  refine V_iload_n hX (j := 2) (hj := rfl) 2 3 rfl rfl ?_
  refine V_istore hX 3 5 [(4, .int v1), (3, .int 0), (0, .ref (kA K v0)), (1, .int v1), (2, .int v2)] rfl rfl (Nat.le_of_ble_eq_true rfl) rfl ?_
  refine VV_sub [2, 4, 1, 0] rfl ?_
  exact bt_Ra_endOfTotal_5 hX v0 v2 hv0 fuel0 0 v1 M
set_option maxRecDepth 20000 in
theorem bt_Ra_firstOfBest_7 {l : Launch} {K : KT} {X : XT} (hX : Cx l K 3 3 0 0 X prog_10_method_10_code "SeriesArchive$Ranges" (some .int) [] L_Ra_firstOfBest) (v0 : Nat) (v1 : Int32) (hv0 : isSer v0) : ∀ (n : Nat) (v2 : Int32) (M : Mm), VV l K 3 3 0 0 rvI X (fn_Ra_firstOfBest_7 v0 v1 n v2 M) 0 0 M 7 [(0, .ref (kA K v0)), (1, .int v1), (2, .int v2)] [] := by
  intro n
  induction n with
  | zero => intro v2 M; exact VV_none
  | succ n ih =>
    intro v2 M
    rw [fn_Ra_firstOfBest_7]
    refine V_iload_n hX (j := 2) (hj := rfl) 5 8 rfl rfl ?_
    refine V_aload_n hX (j := 0) (hj := rfl) 6 9 rfl rfl ?_
    refine V_callI hX 12 0 0 rfl rfl rfl (Nat.le_of_ble_eq_true rfl) (Nat.le_of_ble_eq_true rfl) (VR_V hX 7 (ct_Se_size (cx_t hX) K v0 M) my_Se_size mi_Se_size ms_Se_size ml_Ra_32 (Nat.le_of_ble_eq_true rfl) (Nat.le_of_ble_eq_true rfl) (loc_ser hv0) (ent_ser K _ hv0) rfl rfl rfl (Nat.le_of_ble_eq_true rfl) rfl (Nat.le_of_ble_eq_true rfl) (Nat.le_of_ble_eq_true rfl)) (fun r9 M9 => ?_)
    refine V_icmp_ge hX 8 15 33 rfl rfl (by decide) (fun c12 => ?_) (fun c12 => ?_)
    · refine V_iconst hX (v := (-1)) (hv := by decide) 19 34 rfl rfl ?_
      exact V_iret hX 20 rfl (Nat.le_of_ble_eq_true rfl) (Nat.le_of_ble_eq_true rfl) rfl
    · refine V_aload_n hX (j := 0) (hj := rfl) 9 16 rfl rfl ?_
      refine V_iload_n hX (j := 2) (hj := rfl) 10 17 rfl rfl ?_
      refine V_iload_n hX (j := 1) (hj := rfl) 11 18 rfl rfl ?_
      refine V_callI hX 21 0 0 rfl rfl rfl (Nat.le_of_ble_eq_true rfl) (Nat.le_of_ble_eq_true rfl) (VR_S hX 12 (ct_Ra_endOfTotal (cx_t hX) K v0 v2 v1 M9) my_Ra_endOfTotal mt_Ra_endOfTotal ml_Ra_59 (Nat.le_of_ble_eq_true rfl) (Nat.le_of_ble_eq_true rfl) rfl rfl (Nat.le_of_ble_eq_true rfl) rfl (Nat.le_of_ble_eq_true rfl) (Nat.le_of_ble_eq_true rfl)) (fun r18 M18 => ?_)
      refine V_iconst hX (v := (-1)) (hv := by decide) 13 22 rfl rfl ?_
      refine V_icmp_eq hX 14 25 27 rfl rfl (by decide) (fun c22 => ?_) (fun c22 => ?_)
      · refine V_iincL hX 17 30 2 rfl rfl rfl rfl (Nat.le_of_ble_eq_true rfl) (fun x2_27 hx2_27 => ?_)
        refine VV_lc [(2, .int x2_27), (0, .ref (kA K v0)), (1, .int v1)] rfl ?_
        refine V_goto hX 18 7 rfl (by decide) ?_
        refine VV_sub [1, 2, 0] rfl ?_
        exact ih x2_27 M18
      · refine V_iload_n hX (j := 2) (hj := rfl) 15 26 rfl rfl ?_
        exact V_iret hX 16 rfl (Nat.le_of_ble_eq_true rfl) (Nat.le_of_ble_eq_true rfl) rfl
set_option maxRecDepth 20000 in
theorem ct_Ra_firstOfBest {l : Launch} (hl : l.stackTraces = false) (K : KT) (v0 : Nat) (M : Mm) : CTp l K y_Ra_firstOfBest (Cond.code y_Ra_firstOfBest prog_10_method_10_code 3 (some .int)) rvI 3 0 0 [.ref (kA K v0)] M (fn_Ra_firstOfBest v0 M) := by
  refine CTp_of (L := L_Ra_firstOfBest) (lc := [(0, .ref (kA K v0))]) (by decide +kernel) dec_Ra_firstOfBest hl rfl (Nat.le_of_ble_eq_true rfl) (fun X hX => ?_)
  unfold fn_Ra_firstOfBest
  refine VV_grd (fun hv0 => ?_)
  refine V_aload_n hX (j := 0) (hj := rfl) 0 1 rfl rfl ?_
  refine V_callI hX 4 0 0 rfl rfl rfl (Nat.le_of_ble_eq_true rfl) (Nat.le_of_ble_eq_true rfl) (VR_S hX 1 (ct_Ra_bestTotal (cx_t hX) K v0 M) my_Ra_bestTotal mt_Ra_bestTotal ml_Ra_55 (Nat.le_of_ble_eq_true rfl) (Nat.le_of_ble_eq_true rfl) rfl rfl (Nat.le_of_ble_eq_true rfl) rfl (Nat.le_of_ble_eq_true rfl) (Nat.le_of_ble_eq_true rfl)) (fun r1 M1 => ?_)
  refine V_istore_n hX 2 5 [(1, .int r1), (0, .ref (kA K v0))] rfl rfl (Nat.le_of_ble_eq_true rfl) rfl ?_
  refine V_iconst hX (v := 0) (hv := by decide) 3 6 rfl rfl ?_
  refine V_istore_n hX 4 7 [(2, .int 0), (1, .int r1), (0, .ref (kA K v0))] rfl rfl (Nat.le_of_ble_eq_true rfl) rfl ?_
  refine VV_sub [2, 1, 0] rfl ?_
  exact bt_Ra_firstOfBest_7 hX v0 r1 hv0 fuel0 0 M1
set_option maxRecDepth 20000 in
theorem ct_Ra_lastOfBest {l : Launch} (hl : l.stackTraces = false) (K : KT) (v0 : Nat) (M : Mm) : CTp l K y_Ra_lastOfBest (Cond.code y_Ra_lastOfBest prog_10_method_11_code 1 (some .int)) rvI 4 0 0 [.ref (kA K v0)] M (fn_Ra_lastOfBest v0 M) := by
  refine CTp_of (L := L_Ra_lastOfBest) (lc := [(0, .ref (kA K v0))]) (by decide +kernel) dec_Ra_lastOfBest hl rfl (Nat.le_of_ble_eq_true rfl) (fun X hX => ?_)
  unfold fn_Ra_lastOfBest
  refine VV_grd (fun hv0 => ?_)
  refine V_aload_n hX (j := 0) (hj := rfl) 0 1 rfl rfl ?_
  refine V_aload_n hX (j := 0) (hj := rfl) 1 2 rfl rfl ?_
  refine V_callI hX 5 0 0 rfl rfl rfl (Nat.le_of_ble_eq_true rfl) (Nat.le_of_ble_eq_true rfl) (VR_S hX 2 (ct_Ra_firstOfBest (cx_t hX) K v0 M) my_Ra_firstOfBest mt_Ra_firstOfBest ml_Ra_63 (Nat.le_of_ble_eq_true rfl) (Nat.le_of_ble_eq_true rfl) rfl rfl (Nat.le_of_ble_eq_true rfl) rfl (Nat.le_of_ble_eq_true rfl) (Nat.le_of_ble_eq_true rfl)) (fun r2 M2 => ?_)
  refine V_aload_n hX (j := 0) (hj := rfl) 3 6 rfl rfl ?_
  refine V_callI hX 9 0 0 rfl rfl rfl (Nat.le_of_ble_eq_true rfl) (Nat.le_of_ble_eq_true rfl) (VR_S hX 4 (ct_Ra_bestTotal (cx_t hX) K v0 M2) my_Ra_bestTotal mt_Ra_bestTotal ml_Ra_55 (Nat.le_of_ble_eq_true rfl) (Nat.le_of_ble_eq_true rfl) rfl rfl (Nat.le_of_ble_eq_true rfl) rfl (Nat.le_of_ble_eq_true rfl) (Nat.le_of_ble_eq_true rfl)) (fun r6 M6 => ?_)
  refine V_callI hX 12 0 0 rfl rfl rfl (Nat.le_of_ble_eq_true rfl) (Nat.le_of_ble_eq_true rfl) (VR_S hX 5 (ct_Ra_endOfTotal (cx_t hX) K v0 r2 r6 M6) my_Ra_endOfTotal mt_Ra_endOfTotal ml_Ra_59 (Nat.le_of_ble_eq_true rfl) (Nat.le_of_ble_eq_true rfl) rfl rfl (Nat.le_of_ble_eq_true rfl) rfl (Nat.le_of_ble_eq_true rfl) (Nat.le_of_ble_eq_true rfl)) (fun r9 M9 => ?_)
  exact V_iret hX 6 rfl (Nat.le_of_ble_eq_true rfl) (Nat.le_of_ble_eq_true rfl) rfl
set_option maxRecDepth 20000 in
theorem bt_Ra_merge_101 {l : Launch} {K : KT} {X : XT} (hX : Cx l K 2 10 0 0 X prog_10_method_15_code "SeriesArchive$Ranges" (some .int) [] L_Ra_merge) (k12 : Int32 → Int32 → Int32 → Int32 → Mm → Rs Int32) (v0 : Nat) (v1 : Nat) (v2 : Int32) (v3 : Int32) (v4 : Int32) (v5 : Int32) (v6 : Int32) (v7 : Int32) (v8 : Int32) (hk12 : ∀ (v5 : Int32) (v6 : Int32) (v7 : Int32) (v8 : Int32) M, VV l K 2 10 0 0 rvI X (k12 v5 v6 v7 v8 M) 0 0 M 12 [(0, .ref (kA K v0)), (1, .ref (kA K v1)), (2, .int v2), (3, .int v3), (4, .int v4), (5, .int v5), (6, .int v6), (7, .int v7), (8, .int v8)] []) (hv0 : isIA v0) (hv1 : isIA v1) (M : Mm) : VV l K 2 10 0 0 rvI X (fn_Ra_merge_101 k12 v0 v1 v2 v3 v4 v5 v6 v7 v8 M) 0 0 M 101 [(0, .ref (kA K v0)), (1, .ref (kA K v1)), (2, .int v2), (3, .int v3), (4, .int v4), (5, .int v5), (6, .int v6), (7, .int v7), (8, .int v8)] [] := by
  unfold fn_Ra_merge_101
  refine V_iincL hX 51 104 8 rfl rfl rfl rfl (Nat.le_of_ble_eq_true rfl) (fun x8_101 hx8_101 => ?_)
  refine VV_lc [(8, .int x8_101), (0, .ref (kA K v0)), (1, .ref (kA K v1)), (2, .int v2), (3, .int v3), (4, .int v4), (5, .int v5), (6, .int v6), (7, .int v7)] rfl ?_
  refine V_goto hX 52 12 rfl (by decide) ?_
  refine VV_sub [1, 2, 3, 4, 5, 6, 7, 8, 0] rfl ?_
  exact hk12 v5 v6 v7 x8_101 M
set_option maxRecDepth 20000 in
theorem bt_Ra_merge_52 {l : Launch} {K : KT} {X : XT} (hX : Cx l K 2 10 0 0 X prog_10_method_15_code "SeriesArchive$Ranges" (some .int) [] L_Ra_merge) (k12 : Int32 → Int32 → Int32 → Int32 → Mm → Rs Int32) (v0 : Nat) (v1 : Nat) (v2 : Int32) (v3 : Int32) (v4 : Int32) (v5 : Int32) (v6 : Int32) (v7 : Int32) (v8 : Int32) (hk12 : ∀ (v5 : Int32) (v6 : Int32) (v7 : Int32) (v8 : Int32) M, VV l K 2 10 0 0 rvI X (k12 v5 v6 v7 v8 M) 0 0 M 12 [(0, .ref (kA K v0)), (1, .ref (kA K v1)), (2, .int v2), (3, .int v3), (4, .int v4), (5, .int v5), (6, .int v6), (7, .int v7), (8, .int v8)] []) (s0 : Int32) (hv0 : isIA v0) (hv1 : isIA v1) (M : Mm) : VV l K 2 10 0 0 rvI X (fn_Ra_merge_52 k12 v0 v1 v2 v3 v4 v5 v6 v7 v8 s0 M) 0 0 M 52 [(0, .ref (kA K v0)), (1, .ref (kA K v1)), (2, .int v2), (3, .int v3), (4, .int v4), (5, .int v5), (6, .int v6), (7, .int v7), (8, .int v8)] [.int s0] := by
  unfold fn_Ra_merge_52
  refine V_istore hX 27 54 [(9, .int s0), (0, .ref (kA K v0)), (1, .ref (kA K v1)), (2, .int v2), (3, .int v3), (4, .int v4), (5, .int v5), (6, .int v6), (7, .int v7), (8, .int v8)] rfl rfl (Nat.le_of_ble_eq_true rfl) rfl ?_
  refine V_iload hX (j := 0) (hj := rfl) 28 56 rfl rfl ?_
  refine V_if_eq hX 29 59 86 rfl rfl (by decide) (fun c56 => ?_) (fun c56 => ?_)
  · refine V_aload_n hX (j := 2) (hj := rfl) 44 87 rfl rfl ?_
    refine V_iload hX (j := 9) (hj := rfl) 45 89 rfl rfl ?_
    refine V_aload_n hX (j := 1) (hj := rfl) 46 90 rfl rfl ?_
    refine V_iload hX (j := 7) (hj := rfl) 47 92 rfl rfl ?_
    refine V_callI hX 95 0 0 rfl rfl rfl (Nat.le_of_ble_eq_true rfl) (Nat.le_of_ble_eq_true rfl) (VR_SN hX 48 (ct_SA_read (cx_t hX) K v0 v6 M) my_SA_read mt_SA_read mn_Ra_42 (Nat.le_of_ble_eq_true rfl) (Nat.le_of_ble_eq_true rfl) rfl rfl (Nat.le_of_ble_eq_true rfl) rfl (Nat.le_of_ble_eq_true rfl) (Nat.le_of_ble_eq_true rfl)) (fun r92 M92 => ?_)
    refine V_callU hX 98 0 0 rfl rfl rfl (Nat.le_of_ble_eq_true rfl) (Nat.le_of_ble_eq_true rfl) (VR_SN hX 49 (ct_SA_write (cx_t hX) K v1 v8 r92 M92) my_SA_write mt_SA_write mn_Ra_38 (Nat.le_of_ble_eq_true rfl) (Nat.le_of_ble_eq_true rfl) rfl rfl (Nat.le_of_ble_eq_true rfl) rfl (Nat.le_of_ble_eq_true rfl) (Nat.le_of_ble_eq_true rfl)) (fun r95 M95 => ?_)
    refine V_iincL hX 50 101 7 rfl rfl rfl rfl (Nat.le_of_ble_eq_true rfl) (fun x6_98 hx6_98 => ?_)
    refine VV_lc [(6, .int x6_98), (9, .int s0), (0, .ref (kA K v0)), (1, .ref (kA K v1)), (2, .int v2), (3, .int v3), (4, .int v4), (5, .int v5), (7, .int v7), (8, .int v8)] rfl ?_
    refine VV_sub [2, 3, 4, 5, 6, 7, 0, 8, 9] rfl ?_
    exact bt_Ra_merge_101 hX k12 v0 v1 v2 v3 v4 v5 x6_98 v7 v8 hk12 hv0 hv1 M95
  · refine V_aload_n hX (j := 2) (hj := rfl) 30 60 rfl rfl ?_
    refine V_iload hX (j := 9) (hj := rfl) 31 62 rfl rfl ?_
    refine V_aload_n hX (j := 1) (hj := rfl) 32 63 rfl rfl ?_
    refine V_iload hX (j := 8) (hj := rfl) 33 65 rfl rfl ?_
    refine V_callI hX 68 0 0 rfl rfl rfl (Nat.le_of_ble_eq_true rfl) (Nat.le_of_ble_eq_true rfl) (VR_SN hX 34 (ct_SA_read (cx_t hX) K v0 v7 M) my_SA_read mt_SA_read mn_Ra_42 (Nat.le_of_ble_eq_true rfl) (Nat.le_of_ble_eq_true rfl) rfl rfl (Nat.le_of_ble_eq_true rfl) rfl (Nat.le_of_ble_eq_true rfl) (Nat.le_of_ble_eq_true rfl)) (fun r65 M65 => ?_)
    refine V_callU hX 71 0 0 rfl rfl rfl (Nat.le_of_ble_eq_true rfl) (Nat.le_of_ble_eq_true rfl) (VR_SN hX 35 (ct_SA_write (cx_t hX) K v1 v8 r65 M65) my_SA_write mt_SA_write mn_Ra_38 (Nat.le_of_ble_eq_true rfl) (Nat.le_of_ble_eq_true rfl) rfl rfl (Nat.le_of_ble_eq_true rfl) rfl (Nat.le_of_ble_eq_true rfl) (Nat.le_of_ble_eq_true rfl)) (fun r68 M68 => ?_)
    refine V_iincL hX 36 74 8 rfl rfl rfl rfl (Nat.le_of_ble_eq_true rfl) (fun x7_71 hx7_71 => ?_)
    refine VV_lc [(7, .int x7_71), (9, .int s0), (0, .ref (kA K v0)), (1, .ref (kA K v1)), (2, .int v2), (3, .int v3), (4, .int v4), (5, .int v5), (6, .int v6), (8, .int v8)] rfl ?_
    refine V_iload hX (j := 7) (hj := rfl) 37 76 rfl rfl ?_
    refine V_iload_n hX (j := 5) (hj := rfl) 38 77 rfl rfl ?_
    refine V_iload hX (j := 8) (hj := rfl) 39 79 rfl rfl ?_
    refine V_isub hX 40 80 rfl rfl ?_
    refine V_iadd hX 41 81 rfl rfl ?_
    refine VV_li (fun x5_81 hx5_81 => ?_)
    refine V_istore hX 42 83 [(5, .int x5_81), (7, .int x7_71), (9, .int s0), (0, .ref (kA K v0)), (1, .ref (kA K v1)), (2, .int v2), (3, .int v3), (4, .int v4), (6, .int v6), (8, .int v8)] rfl rfl (Nat.le_of_ble_eq_true rfl) rfl ?_
    refine V_goto hX 43 101 rfl (by decide) ?_
    refine VV_sub [3, 4, 5, 6, 7, 0, 8, 1, 9] rfl ?_
    exact bt_Ra_merge_101 hX k12 v0 v1 v2 v3 v4 x5_81 v6 x7_71 v8 hk12 hv0 hv1 M68
set_option maxRecDepth 20000 in
theorem bt_Ra_merge_47 {l : Launch} {K : KT} {X : XT} (hX : Cx l K 2 10 0 0 X prog_10_method_15_code "SeriesArchive$Ranges" (some .int) [] L_Ra_merge) (k12 : Int32 → Int32 → Int32 → Int32 → Mm → Rs Int32) (v0 : Nat) (v1 : Nat) (v2 : Int32) (v3 : Int32) (v4 : Int32) (v5 : Int32) (v6 : Int32) (v7 : Int32) (v8 : Int32) (hk12 : ∀ (v5 : Int32) (v6 : Int32) (v7 : Int32) (v8 : Int32) M, VV l K 2 10 0 0 rvI X (k12 v5 v6 v7 v8 M) 0 0 M 12 [(0, .ref (kA K v0)), (1, .ref (kA K v1)), (2, .int v2), (3, .int v3), (4, .int v4), (5, .int v5), (6, .int v6), (7, .int v7), (8, .int v8)] []) (hv0 : isIA v0) (hv1 : isIA v1) (M : Mm) : VV l K 2 10 0 0 rvI X (fn_Ra_merge_47 k12 v0 v1 v2 v3 v4 v5 v6 v7 v8 M) 0 0 M 47 [(0, .ref (kA K v0)), (1, .ref (kA K v1)), (2, .int v2), (3, .int v3), (4, .int v4), (5, .int v5), (6, .int v6), (7, .int v7), (8, .int v8)] [] := by
  unfold fn_Ra_merge_47
  refine V_iconst hX (v := 1) (hv := by decide) 24 48 rfl rfl ?_
  refine V_goto hX 25 52 rfl (by decide) ?_
  exact bt_Ra_merge_52 hX k12 v0 v1 v2 v3 v4 v5 v6 v7 v8 hk12 1 hv0 hv1 M
set_option maxRecDepth 20000 in
theorem bt_Ra_merge_51 {l : Launch} {K : KT} {X : XT} (hX : Cx l K 2 10 0 0 X prog_10_method_15_code "SeriesArchive$Ranges" (some .int) [] L_Ra_merge) (k12 : Int32 → Int32 → Int32 → Int32 → Mm → Rs Int32) (v0 : Nat) (v1 : Nat) (v2 : Int32) (v3 : Int32) (v4 : Int32) (v5 : Int32) (v6 : Int32) (v7 : Int32) (v8 : Int32) (hk12 : ∀ (v5 : Int32) (v6 : Int32) (v7 : Int32) (v8 : Int32) M, VV l K 2 10 0 0 rvI X (k12 v5 v6 v7 v8 M) 0 0 M 12 [(0, .ref (kA K v0)), (1, .ref (kA K v1)), (2, .int v2), (3, .int v3), (4, .int v4), (5, .int v5), (6, .int v6), (7, .int v7), (8, .int v8)] []) (hv0 : isIA v0) (hv1 : isIA v1) (M : Mm) : VV l K 2 10 0 0 rvI X (fn_Ra_merge_51 k12 v0 v1 v2 v3 v4 v5 v6 v7 v8 M) 0 0 M 51 [(0, .ref (kA K v0)), (1, .ref (kA K v1)), (2, .int v2), (3, .int v3), (4, .int v4), (5, .int v5), (6, .int v6), (7, .int v7), (8, .int v8)] [] := by
  unfold fn_Ra_merge_51
  refine V_iconst hX (v := 0) (hv := by decide) 26 52 rfl rfl ?_
  exact bt_Ra_merge_52 hX k12 v0 v1 v2 v3 v4 v5 v6 v7 v8 hk12 0 hv0 hv1 M
set_option maxRecDepth 20000 in
theorem bt_Ra_merge_110 {l : Launch} {K : KT} {X : XT} (hX : Cx l K 2 10 0 0 X prog_10_method_15_code "SeriesArchive$Ranges" (some .int) [] L_Ra_merge) (v0 : Nat) (v1 : Nat) (v4 : Int32) (v5 : Int32) (hv0 : isIA v0) (hv1 : isIA v1) : ∀ (n : Nat) (v8 : Int32) (M : Mm), VV l K 2 10 0 0 rvI X (fn_Ra_merge_110 v0 v1 v4 v5 n v8 M) 0 0 M 110 [(0, .ref (kA K v0)), (1, .ref (kA K v1)), (4, .int v4), (5, .int v5), (8, .int v8)] [] := by
  intro n
  induction n with
  | zero => intro v8 M; exact VV_none
  | succ n ih =>
    intro v8 M
    rw [fn_Ra_merge_110]
    refine V_iload hX (j := 4) (hj := rfl) 55 112 rfl rfl ?_
    refine V_iload hX (j := 2) (hj := rfl) 56 114 rfl rfl ?_
    refine V_icmp_ge hX 57 117 135 rfl rfl (by decide) (fun c114 => ?_) (fun c114 => ?_)
    · refine V_iload hX (j := 3) (hj := rfl) 66 137 rfl rfl ?_
      exact V_iret hX 67 rfl (Nat.le_of_ble_eq_true rfl) (Nat.le_of_ble_eq_true rfl) rfl
    · refine V_aload_n hX (j := 0) (hj := rfl) 58 118 rfl rfl ?_
      refine V_iload hX (j := 4) (hj := rfl) 59 120 rfl rfl ?_
      refine V_aload_n hX (j := 1) (hj := rfl) 60 121 rfl rfl ?_
      refine V_iload hX (j := 4) (hj := rfl) 61 123 rfl rfl ?_
      refine V_callI hX 126 0 0 rfl rfl rfl (Nat.le_of_ble_eq_true rfl) (Nat.le_of_ble_eq_true rfl) (VR_SN hX 62 (ct_SA_read (cx_t hX) K v1 v8 M) my_SA_read mt_SA_read mn_Ra_42 (Nat.le_of_ble_eq_true rfl) (Nat.le_of_ble_eq_true rfl) rfl rfl (Nat.le_of_ble_eq_true rfl) rfl (Nat.le_of_ble_eq_true rfl) (Nat.le_of_ble_eq_true rfl)) (fun r123 M123 => ?_)
      refine V_callU hX 129 0 0 rfl rfl rfl (Nat.le_of_ble_eq_true rfl) (Nat.le_of_ble_eq_true rfl) (VR_SN hX 63 (ct_SA_write (cx_t hX) K v0 v8 r123 M123) my_SA_write mt_SA_write mn_Ra_38 (Nat.le_of_ble_eq_true rfl) (Nat.le_of_ble_eq_true rfl) rfl rfl (Nat.le_of_ble_eq_true rfl) rfl (Nat.le_of_ble_eq_true rfl) (Nat.le_of_ble_eq_true rfl)) (fun r126 M126 => ?_)
      refine V_iincL hX 64 132 4 rfl rfl rfl rfl (Nat.le_of_ble_eq_true rfl) (fun x8_129 hx8_129 => ?_)
      refine VV_lc [(8, .int x8_129), (0, .ref (kA K v0)), (1, .ref (kA K v1)), (4, .int v4), (5, .int v5)] rfl ?_
      refine V_goto hX 65 110 rfl (by decide) ?_
      refine VV_sub [1, 2, 3, 4, 0] rfl ?_
      exact ih x8_129 M126
set_option maxRecDepth 20000 in
theorem bt_Ra_merge_107 {l : Launch} {K : KT} {X : XT} (hX : Cx l K 2 10 0 0 X prog_10_method_15_code "SeriesArchive$Ranges" (some .int) [] L_Ra_merge) (v0 : Nat) (v1 : Nat) (v2 : Int32) (v4 : Int32) (v5 : Int32) (hv0 : isIA v0) (hv1 : isIA v1) (M : Mm) : VV l K 2 10 0 0 rvI X (fn_Ra_merge_107 v0 v1 v2 v4 v5 M) 0 0 M 107 [(0, .ref (kA K v0)), (1, .ref (kA K v1)), (2, .int v2), (4, .int v4), (5, .int v5)] [] := by
  unfold fn_Ra_merge_107
  refine V_iload_n hX (j := 2) (hj := rfl) 53 108 rfl rfl ?_
  refine V_istore hX 54 110 [(8, .int v2), (0, .ref (kA K v0)), (1, .ref (kA K v1)), (2, .int v2), (4, .int v4), (5, .int v5)] rfl rfl (Nat.le_of_ble_eq_true rfl) rfl ?_
  refine VV_sub [1, 2, 4, 5, 0] rfl ?_
  exact bt_Ra_merge_110 hX v0 v1 v4 v5 hv0 hv1 fuel0 v2 M
set_option maxRecDepth 20000 in
theorem bt_Ra_merge_12 {l : Launch} {K : KT} {X : XT} (hX : Cx l K 2 10 0 0 X prog_10_method_15_code "SeriesArchive$Ranges" (some .int) [] L_Ra_merge) (v0 : Nat) (v1 : Nat) (v2 : Int32) (v3 : Int32) (v4 : Int32) (hv0 : isIA v0) (hv1 : isIA v1) : ∀ (n : Nat) (v5 : Int32) (v6 : Int32) (v7 : Int32) (v8 : Int32) (M : Mm), VV l K 2 10 0 0 rvI X (fn_Ra_merge_12 v0 v1 v2 v3 v4 n v5 v6 v7 v8 M) 0 0 M 12 [(0, .ref (kA K v0)), (1, .ref (kA K v1)), (2, .int v2), (3, .int v3), (4, .int v4), (5, .int v5), (6, .int v6), (7, .int v7), (8, .int v8)] [] := by
  intro n
  induction n with
  | zero => intro v5 v6 v7 v8 M; exact VV_none
  | succ n ih =>
    intro v5 v6 v7 v8 M
    rw [fn_Ra_merge_12]
    refine V_iload hX (j := 8) (hj := rfl) 8 14 rfl rfl ?_
    refine V_iload hX (j := 4) (hj := rfl) 9 16 rfl rfl ?_
    refine V_icmp_ge hX 10 19 107 rfl rfl (by decide) (fun c16 => ?_) (fun c16 => ?_)
    · refine VV_sub [0, 1, 2, 4, 5] rfl ?_
      exact bt_Ra_merge_107 hX v0 v1 v2 v4 v5 hv0 hv1 M
    · refine V_iload hX (j := 6) (hj := rfl) 11 21 rfl rfl ?_
      refine V_iload_n hX (j := 3) (hj := rfl) 12 22 rfl rfl ?_
      refine V_icmp_ge hX 13 25 47 rfl rfl (by decide) (fun c22 => ?_) (fun c22 => ?_)
      · exact bt_Ra_merge_47 hX (fn_Ra_merge_12 v0 v1 v2 v3 v4 n) v0 v1 v2 v3 v4 v5 v6 v7 v8 ih hv0 hv1 M
      · refine V_iload hX (j := 7) (hj := rfl) 14 27 rfl rfl ?_
        refine V_iload hX (j := 4) (hj := rfl) 15 29 rfl rfl ?_
        refine V_icmp_ge hX 16 32 51 rfl rfl (by decide) (fun c29 => ?_) (fun c29 => ?_)
        · exact bt_Ra_merge_51 hX (fn_Ra_merge_12 v0 v1 v2 v3 v4 n) v0 v1 v2 v3 v4 v5 v6 v7 v8 ih hv0 hv1 M
        · refine V_aload_n hX (j := 0) (hj := rfl) 17 33 rfl rfl ?_
          refine V_iload hX (j := 6) (hj := rfl) 18 35 rfl rfl ?_
          refine V_callI hX 38 0 0 rfl rfl rfl (Nat.le_of_ble_eq_true rfl) (Nat.le_of_ble_eq_true rfl) (VR_SN hX 19 (ct_SA_read (cx_t hX) K v0 v6 M) my_SA_read mt_SA_read mn_Ra_42 (Nat.le_of_ble_eq_true rfl) (Nat.le_of_ble_eq_true rfl) rfl rfl (Nat.le_of_ble_eq_true rfl) rfl (Nat.le_of_ble_eq_true rfl) (Nat.le_of_ble_eq_true rfl)) (fun r35 M35 => ?_)
          refine V_aload_n hX (j := 0) (hj := rfl) 20 39 rfl rfl ?_
          refine V_iload hX (j := 7) (hj := rfl) 21 41 rfl rfl ?_
          refine V_callI hX 44 0 0 rfl rfl rfl (Nat.le_of_ble_eq_true rfl) (Nat.le_of_ble_eq_true rfl) (VR_SN hX 22 (ct_SA_read (cx_t hX) K v0 v7 M35) my_SA_read mt_SA_read mn_Ra_42 (Nat.le_of_ble_eq_true rfl) (Nat.le_of_ble_eq_true rfl) rfl rfl (Nat.le_of_ble_eq_true rfl) rfl (Nat.le_of_ble_eq_true rfl) (Nat.le_of_ble_eq_true rfl)) (fun r41 M41 => ?_)
          refine V_icmp_le hX 23 47 51 rfl rfl (by decide) (fun c44 => ?_) (fun c44 => ?_)
          · exact bt_Ra_merge_51 hX (fn_Ra_merge_12 v0 v1 v2 v3 v4 n) v0 v1 v2 v3 v4 v5 v6 v7 v8 ih hv0 hv1 M41
          · exact bt_Ra_merge_47 hX (fn_Ra_merge_12 v0 v1 v2 v3 v4 n) v0 v1 v2 v3 v4 v5 v6 v7 v8 ih hv0 hv1 M41
set_option maxRecDepth 20000 in
theorem ct_Ra_merge {l : Launch} (hl : l.stackTraces = false) (K : KT) (v0 : Nat) (v1 : Nat) (v2 : Int32) (v3 : Int32) (v4 : Int32) (M : Mm) : CTp l K y_Ra_merge (Cond.code y_Ra_merge prog_10_method_15_code 10 (some .int)) rvI 2 0 0 [.ref (kA K v0), .ref (kA K v1), .int v2, .int v3, .int v4] M (fn_Ra_merge v0 v1 v2 v3 v4 M) := by
  refine CTp_of (L := L_Ra_merge) (lc := [(0, .ref (kA K v0)), (1, .ref (kA K v1)), (2, .int v2), (3, .int v3), (4, .int v4)]) (by decide +kernel) dec_Ra_merge hl rfl (Nat.le_of_ble_eq_true rfl) (fun X hX => ?_)
  unfold fn_Ra_merge
  refine VV_grd (fun hv0 => ?_)
  refine VV_grd (fun hv1 => ?_)
  refine V_iconst hX (v := 0) (hv := by decide) 0 1 rfl rfl ?_
  refine V_istore hX 1 3 [(5, .int 0), (0, .ref (kA K v0)), (1, .ref (kA K v1)), (2, .int v2), (3, .int v3), (4, .int v4)] rfl rfl (Nat.le_of_ble_eq_true rfl) rfl ?_
  refine V_iload_n hX (j := 3) (hj := rfl) 2 4 rfl rfl ?_
  refine V_istore hX 3 6 [(6, .int v2), (5, .int 0), (0, .ref (kA K v0)), (1, .ref (kA K v1)), (2, .int v2), (3, .int v3), (4, .int v4)] rfl rfl (Nat.le_of_ble_eq_true rfl) rfl ?_
  refine V_iload_n hX (j := 5) (hj := rfl) 4 7 rfl rfl ?_
  refine V_istore hX 5 9 [(7, .int v3), (6, .int v2), (5, .int 0), (0, .ref (kA K v0)), (1, .ref (kA K v1)), (2, .int v2), (3, .int v3), (4, .int v4)] rfl rfl (Nat.le_of_ble_eq_true rfl) rfl ?_
  refine V_iload_n hX (j := 5) (hj := rfl) 6 10 rfl rfl ?_
  refine V_istore hX 7 12 [(8, .int v2), (7, .int v3), (6, .int v2), (5, .int 0), (0, .ref (kA K v0)), (1, .ref (kA K v1)), (2, .int v2), (3, .int v3), (4, .int v4)] rfl rfl (Nat.le_of_ble_eq_true rfl) rfl ?_
  refine VV_sub [4, 5, 6, 7, 8, 3, 2, 1, 0] rfl ?_
  exact bt_Ra_merge_12 hX v0 v1 v2 v3 v4 hv0 hv1 fuel0 0 v2 v3 v2 M
