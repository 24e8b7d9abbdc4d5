set_option maxRecDepth 20000 in
theorem ct_Wa_place {l : Launch} (hl : l.stackTraces = false) (K : KT) (v0 : Int32) (v1 : Int32) (M : Mm) : CTp l K y_Wa_place (Cond.code y_Wa_place prog_13_method_7_code 2 (some .int)) rvI 1 0 0 [.int v0, .int v1] M (fn_Wa_place v0 v1 M) := by
  refine CTp_of (L := L_Wa_place) (lc := [(0, .int v0), (1, .int v1)]) (by decide +kernel) dec_Wa_place hl rfl (Nat.le_of_ble_eq_true rfl) (fun X hX => ?_)
  unfold fn_Wa_place
  refine V_iload_n hX (j := 0) (hj := rfl) 0 1 rfl rfl ?_
  refine V_bipush hX (v := 20) (hv := by decide) 1 3 rfl rfl ?_
  refine V_imul hX 2 4 rfl rfl ?_
  refine V_iload_n hX (j := 1) (hj := rfl) 3 5 rfl rfl ?_
  refine V_iadd hX 4 6 rfl rfl ?_
  exact V_iret hX 5 rfl (Nat.le_of_ble_eq_true rfl) (Nat.le_of_ble_eq_true rfl) rfl
set_option maxRecDepth 20000 in
theorem bt_Wa_costBefore_92 {l : Launch} {K : KT} {X : XT} (hX : Cx l K 2 4 0 0 X prog_13_method_3_code "SeriesArchive$Walks" (some .int) [] L_Wa_costBefore) (s0 : Int32) (s1 : Int32) (M : Mm) : VV l K 2 4 0 0 rvI X (fn_Wa_costBefore_92 s0 s1 M) 0 0 M 92 [] [.int s1, .int s0] := by
  unfold fn_Wa_costBefore_92
  refine V_min hX 51 95 mm_Wa_41 (Nat.le_of_ble_eq_true rfl) (Nat.le_of_ble_eq_true rfl) (Nat.le_of_ble_eq_true rfl) (Nat.le_of_ble_eq_true rfl) rfl rfl ?_
  exact V_iret hX 52 rfl (Nat.le_of_ble_eq_true rfl) (Nat.le_of_ble_eq_true rfl) rfl
set_option maxRecDepth 20000 in
theorem bt_Wa_costBefore_90 {l : Launch} {K : KT} {X : XT} (hX : Cx l K 2 4 0 0 X prog_13_method_3_code "SeriesArchive$Walks" (some .int) [] L_Wa_costBefore) (s0 : Int32) (M : Mm) : VV l K 2 4 0 0 rvI X (fn_Wa_costBefore_90 s0 M) 0 0 M 90 [] [.int s0] := by
  unfold fn_Wa_costBefore_90
  refine V_ldcI hX 50 92 co_Wa_40 rfl rfl ?_
  exact bt_Wa_costBefore_92 hX s0 1000000 M
set_option maxRecDepth 20000 in
theorem bt_Wa_costBefore_58 {l : Launch} {K : KT} {X : XT} (hX : Cx l K 2 4 0 0 X prog_13_method_3_code "SeriesArchive$Walks" (some .int) [] L_Wa_costBefore) (v1 : Int32) (v2 : Int32) (s0 : Int32) (s1 : Int32) (M : Mm) : VV l K 2 4 0 0 rvI X (fn_Wa_costBefore_58 v1 v2 s0 s1 M) 0 0 M 58 [(0, .ref (kA K 30)), (1, .int v1), (2, .int v2)] [.int s1, .int s0] := by
  unfold fn_Wa_costBefore_58
  refine V_min hX 32 61 mm_Wa_41 (Nat.le_of_ble_eq_true rfl) (Nat.le_of_ble_eq_true rfl) (Nat.le_of_ble_eq_true rfl) (Nat.le_of_ble_eq_true rfl) rfl rfl ?_
  refine VV_li (fun x3_61 hx3_61 => ?_)
  refine V_istore_n hX 33 62 [(3, .int x3_61), (0, .ref (kA K 30)), (1, .int v1), (2, .int v2)] rfl rfl (Nat.le_of_ble_eq_true rfl) rfl ?_
  refine V_iload_n hX (j := 0) (hj := rfl) 34 63 rfl rfl ?_
  refine V_iload_n hX (j := 2) (hj := rfl) 35 64 rfl rfl ?_
  refine V_if_le hX 36 67 90 rfl rfl (by decide) (fun c64 => ?_) (fun c64 => ?_)
  · refine VV_sub [] rfl ?_
    exact bt_Wa_costBefore_90 hX x3_61 M
  · refine V_iload_n hX (j := 3) (hj := rfl) 37 68 rfl rfl ?_
    refine V_if_le hX 38 71 90 rfl rfl (by decide) (fun c68 => ?_) (fun c68 => ?_)
    · refine VV_sub [] rfl ?_
      exact bt_Wa_costBefore_90 hX x3_61 M
    · refine V_aload_n hX (j := 1) (hj := rfl) 39 72 rfl rfl ?_
      refine V_get hX 40 75 30 (.ref (kA K 31)) fl_Wa_9 rfl rfl (by decide) (ent_30 K _) rfl ?_
      refine V_iload_n hX (j := 2) (hj := rfl) 41 76 rfl rfl ?_
      refine V_iconst hX (v := 1) (hv := by decide) 42 77 rfl rfl ?_
      refine V_isub hX 43 78 rfl rfl ?_
      refine V_iload_n hX (j := 3) (hj := rfl) 44 79 rfl rfl ?_
      refine V_iconst hX (v := 1) (hv := by decide) 45 80 rfl rfl ?_
      refine V_isub hX 46 81 rfl rfl ?_
      refine V_callI hX 84 0 0 rfl rfl rfl (Nat.le_of_ble_eq_true rfl) (Nat.le_of_ble_eq_true rfl) (VR_S hX 47 (ct_Wa_place (cx_t hX) K (v1 - 1) (v2 - 1) M) my_Wa_place mt_Wa_place ml_Wa_21 (Nat.le_of_ble_eq_true rfl) (Nat.le_of_ble_eq_true rfl) rfl rfl (Nat.le_of_ble_eq_true rfl) rfl (Nat.le_of_ble_eq_true rfl) (Nat.le_of_ble_eq_true rfl)) (fun r81 M81 => ?_)
      refine V_callI hX 87 0 0 rfl rfl rfl (Nat.le_of_ble_eq_true rfl) (Nat.le_of_ble_eq_true rfl) (VR_SN hX 48 (ct_SA_read (cx_t hX) K 31 r81 M81) my_SA_read mt_SA_read mn_Wa_36 (Nat.le_of_ble_eq_true rfl) (Nat.le_of_ble_eq_true rfl) rfl rfl (Nat.le_of_ble_eq_true rfl) rfl (Nat.le_of_ble_eq_true rfl) (Nat.le_of_ble_eq_true rfl)) (fun r84 M84 => ?_)
      refine V_goto hX 49 92 rfl (by decide) ?_
      refine VV_sub [] rfl ?_
      exact bt_Wa_costBefore_92 hX x3_61 r84 M84
set_option maxRecDepth 20000 in
theorem bt_Wa_costBefore_33 {l : Launch} {K : KT} {X : XT} (hX : Cx l K 2 4 0 0 X prog_13_method_3_code "SeriesArchive$Walks" (some .int) [] L_Wa_costBefore) (v1 : Int32) (v2 : Int32) (s0 : Int32) (M : Mm) : VV l K 2 4 0 0 rvI X (fn_Wa_costBefore_33 v1 v2 s0 M) 0 0 M 33 [(0, .ref (kA K 30)), (1, .int v1), (2, .int v2)] [.int s0] := by
  unfold fn_Wa_costBefore_33
  refine V_istore_n hX 18 34 [(3, .int s0), (0, .ref (kA K 30)), (1, .int v1), (2, .int v2)] rfl rfl (Nat.le_of_ble_eq_true rfl) rfl ?_
  refine V_iload_n hX (j := 0) (hj := rfl) 19 35 rfl rfl ?_
  refine V_iload_n hX (j := 3) (hj := rfl) 20 36 rfl rfl ?_
  refine V_if_le hX 21 39 56 rfl rfl (by decide) (fun c36 => ?_) (fun c36 => ?_)
  · refine V_ldcI hX 31 58 co_Wa_40 rfl rfl ?_
    refine VV_sub [1, 2, 3] rfl ?_
    exact bt_Wa_costBefore_58 hX v1 v2 s0 1000000 M
  · refine V_aload_n hX (j := 1) (hj := rfl) 22 40 rfl rfl ?_
    refine V_get hX 23 43 30 (.ref (kA K 31)) fl_Wa_9 rfl rfl (by decide) (ent_30 K _) rfl ?_
    refine V_iload_n hX (j := 2) (hj := rfl) 24 44 rfl rfl ?_
    refine V_iload_n hX (j := 3) (hj := rfl) 25 45 rfl rfl ?_
    refine V_iconst hX (v := 1) (hv := by decide) 26 46 rfl rfl ?_
    refine V_isub hX 27 47 rfl rfl ?_
    refine V_callI hX 50 0 0 rfl rfl rfl (Nat.le_of_ble_eq_true rfl) (Nat.le_of_ble_eq_true rfl) (VR_S hX 28 (ct_Wa_place (cx_t hX) K v1 (v2 - 1) M) my_Wa_place mt_Wa_place ml_Wa_21 (Nat.le_of_ble_eq_true rfl) (Nat.le_of_ble_eq_true rfl) rfl rfl (Nat.le_of_ble_eq_true rfl) rfl (Nat.le_of_ble_eq_true rfl) (Nat.le_of_ble_eq_true rfl)) (fun r47 M47 => ?_)
    refine V_callI hX 53 0 0 rfl rfl rfl (Nat.le_of_ble_eq_true rfl) (Nat.le_of_ble_eq_true rfl) (VR_SN hX 29 (ct_SA_read (cx_t hX) K 31 r47 M47) my_SA_read mt_SA_read mn_Wa_36 (Nat.le_of_ble_eq_true rfl) (Nat.le_of_ble_eq_true rfl) rfl rfl (Nat.le_of_ble_eq_true rfl) rfl (Nat.le_of_ble_eq_true rfl) (Nat.le_of_ble_eq_true rfl)) (fun r50 M50 => ?_)
    refine V_goto hX 30 58 rfl (by decide) ?_
    refine VV_sub [1, 2, 3] rfl ?_
    exact bt_Wa_costBefore_58 hX v1 v2 s0 r50 M50
set_option maxRecDepth 20000 in
theorem bt_Wa_costBefore_10 {l : Launch} {K : KT} {X : XT} (hX : Cx l K 2 4 0 0 X prog_13_method_3_code "SeriesArchive$Walks" (some .int) [] L_Wa_costBefore) (v1 : Int32) (v2 : Int32) (M : Mm) : VV l K 2 4 0 0 rvI X (fn_Wa_costBefore_10 v1 v2 M) 0 0 M 10 [(0, .ref (kA K 30)), (1, .int v1), (2, .int v2)] [] := by
  unfold fn_Wa_costBefore_10
  refine V_iload_n hX (j := 1) (hj := rfl) 6 11 rfl rfl ?_
  refine V_if_le hX 7 14 31 rfl rfl (by decide) (fun c11 => ?_) (fun c11 => ?_)
  · refine V_ldcI hX 17 33 co_Wa_40 rfl rfl ?_
    exact bt_Wa_costBefore_33 hX v1 v2 1000000 M
  · refine V_aload_n hX (j := 0) (hj := rfl) 8 15 rfl rfl ?_
    refine V_get hX 9 18 30 (.ref (kA K 31)) fl_Wa_9 rfl rfl (by decide) (ent_30 K _) rfl ?_
    refine V_iload_n hX (j := 1) (hj := rfl) 10 19 rfl rfl ?_
    refine V_iconst hX (v := 1) (hv := by decide) 11 20 rfl rfl ?_
    refine V_isub hX 12 21 rfl rfl ?_
    refine V_iload_n hX (j := 2) (hj := rfl) 13 22 rfl rfl ?_
    refine V_callI hX 25 0 0 rfl rfl rfl (Nat.le_of_ble_eq_true rfl) (Nat.le_of_ble_eq_true rfl) (VR_S hX 14 (ct_Wa_place (cx_t hX) K (v1 - 1) v2 M) my_Wa_place mt_Wa_place ml_Wa_21 (Nat.le_of_ble_eq_true rfl) (Nat.le_of_ble_eq_true rfl) rfl rfl (Nat.le_of_ble_eq_true rfl) rfl (Nat.le_of_ble_eq_true rfl) (Nat.le_of_ble_eq_true rfl)) (fun r22 M22 => ?_)
    refine V_callI hX 28 0 0 rfl rfl rfl (Nat.le_of_ble_eq_true rfl) (Nat.le_of_ble_eq_true rfl) (VR_SN hX 15 (ct_SA_read (cx_t hX) K 31 r22 M22) my_SA_read mt_SA_read mn_Wa_36 (Nat.le_of_ble_eq_true rfl) (Nat.le_of_ble_eq_true rfl) rfl rfl (Nat.le_of_ble_eq_true rfl) rfl (Nat.le_of_ble_eq_true rfl) (Nat.le_of_ble_eq_true rfl)) (fun r25 M25 => ?_)
    refine V_goto hX 16 33 rfl (by decide) ?_
    exact bt_Wa_costBefore_33 hX v1 v2 r25 M25
set_option maxRecDepth 20000 in
theorem ct_Wa_costBefore {l : Launch} (hl : l.stackTraces = false) (K : KT) (v1 : Int32) (v2 : Int32) (M : Mm) : CTp l K y_Wa_costBefore (Cond.code y_Wa_costBefore prog_13_method_3_code 4 (some .int)) rvI 2 0 0 [.ref (kA K 30), .int v1, .int v2] M (fn_Wa_costBefore v1 v2 M) := by
  refine CTp_of (L := L_Wa_costBefore) (lc := [(0, .ref (kA K 30)), (1, .int v1), (2, .int v2)]) (by decide +kernel) dec_Wa_costBefore hl rfl (Nat.le_of_ble_eq_true rfl) (fun X hX => ?_)
  unfold fn_Wa_costBefore
  refine V_iload_n hX (j := 1) (hj := rfl) 0 1 rfl rfl ?_
  refine V_if_ne hX 1 4 10 rfl rfl (by decide) (fun c1 => ?_) (fun c1 => ?_)
  · exact bt_Wa_costBefore_10 hX v1 v2 M
  · refine V_iload_n hX (j := 2) (hj := rfl) 2 5 rfl rfl ?_
    refine V_if_ne hX 3 8 10 rfl rfl (by decide) (fun c5 => ?_) (fun c5 => ?_)
    · exact bt_Wa_costBefore_10 hX v1 v2 M
    · refine V_iconst hX (v := 0) (hv := by decide) 4 9 rfl rfl ?_
      exact V_iret hX 5 rfl (Nat.le_of_ble_eq_true rfl) (Nat.le_of_ble_eq_true rfl) rfl
set_option maxRecDepth 20000 in
theorem ct_Wa_gap {l : Launch} (hl : l.stackTraces = false) (K : KT) (v0 : Nat) (v1 : Nat) (v2 : Int32) (v3 : Int32) (M : Mm) : CTp l K y_Wa_gap (Cond.code y_Wa_gap prog_13_method_6_code 4 (some .int)) rvI 2 0 0 [.ref (kA K v0), .ref (kA K v1), .int v2, .int v3] M (fn_Wa_gap v0 v1 v2 v3 M) := by
  refine CTp_of (L := L_Wa_gap) (lc := [(0, .ref (kA K v0)), (1, .ref (kA K v1)), (2, .int v2), (3, .int v3)]) (by decide +kernel) dec_Wa_gap hl rfl (Nat.le_of_ble_eq_true rfl) (fun X hX => ?_)
  unfold fn_Wa_gap
  refine VV_grd (fun hv0 => ?_)
  refine VV_grd (fun hv1 => ?_)
  refine V_aload_n hX (j := 0) (hj := rfl) 0 1 rfl rfl ?_
  refine V_iload_n hX (j := 2) (hj := rfl) 1 2 rfl rfl ?_
  refine V_callI hX 5 0 0 rfl rfl rfl (Nat.le_of_ble_eq_true rfl) (Nat.le_of_ble_eq_true rfl) (VR_V hX 2 (ct_Se_at (cx_t hX) K v0 v2 M) my_Se_at mi_Se_at ms_Se_at ml_Wa_54 (Nat.le_of_ble_eq_true rfl) (Nat.le_of_ble_eq_true rfl) (loc_ser hv0) (ent_ser K _ hv0) rfl rfl rfl (Nat.le_of_ble_eq_true rfl) rfl (Nat.le_of_ble_eq_true rfl) (Nat.le_of_ble_eq_true rfl)) (fun r2 M2 => ?_)
  refine V_aload_n hX (j := 1) (hj := rfl) 3 6 rfl rfl ?_
  refine V_iload_n hX (j := 3) (hj := rfl) 4 7 rfl rfl ?_
  refine V_callI hX 10 0 0 rfl rfl rfl (Nat.le_of_ble_eq_true rfl) (Nat.le_of_ble_eq_true rfl) (VR_V hX 5 (ct_Se_at (cx_t hX) K v1 v3 M2) my_Se_at mi_Se_at ms_Se_at ml_Wa_54 (Nat.le_of_ble_eq_true rfl) (Nat.le_of_ble_eq_true rfl) (loc_ser hv1) (ent_ser K _ hv1) rfl rfl rfl (Nat.le_of_ble_eq_true rfl) rfl (Nat.le_of_ble_eq_true rfl) (Nat.le_of_ble_eq_true rfl)) (fun r7 M7 => ?_)
  refine V_isub hX 6 11 rfl rfl ?_
  refine V_abs hX 7 14 mm_Wa_58 (Nat.le_of_ble_eq_true rfl) (Nat.le_of_ble_eq_true rfl) (Nat.le_of_ble_eq_true rfl) (Nat.le_of_ble_eq_true rfl) rfl rfl ?_
  exact V_iret hX 8 rfl (Nat.le_of_ble_eq_true rfl) (Nat.le_of_ble_eq_true rfl) rfl
set_option maxRecDepth 20000 in
theorem bt_Wa_costByTable_57 {l : Launch} {K : KT} {X : XT} (hX : Cx l K 3 5 0 0 X prog_13_method_2_code "SeriesArchive$Walks" (some .int) [] L_Wa_costByTable) (k2 : Int32 → Mm → Rs Int32) (v1 : Nat) (v2 : Nat) (v3 : Int32) (hk2 : ∀ (v3 : Int32) M, VV l K 3 5 0 0 rvI X (k2 v3 M) 0 0 M 2 [(0, .ref (kA K 30)), (1, .ref (kA K v1)), (2, .ref (kA K v2)), (3, .int v3)] []) (hv1 : isSer v1) (hv2 : isSer v2) (M : Mm) : VV l K 3 5 0 0 rvI X (fn_Wa_costByTable_57 k2 v1 v2 v3 M) 0 0 M 57 [(0, .ref (kA K 30)), (1, .ref (kA K v1)), (2, .ref (kA K v2)), (3, .int v3)] [] := by
  unfold fn_Wa_costByTable_57
  refine V_iincL hX 30 60 3 rfl rfl rfl rfl (Nat.le_of_ble_eq_true rfl) (fun x3_57 hx3_57 => ?_)
  refine VV_lc [(3, .int x3_57), (0, .ref (kA K 30)), (1, .ref (kA K v1)), (2, .ref (kA K v2))] rfl ?_
  refine V_goto hX 31 2 rfl (by decide) ?_
  refine VV_sub [1, 2, 3, 0] rfl ?_
  exact hk2 x3_57 M
set_option maxRecDepth 20000 in
theorem bt_Wa_costByTable_13 {l : Launch} {K : KT} {X : XT} (hX : Cx l K 3 5 0 0 X prog_13_method_2_code "SeriesArchive$Walks" (some .int) [] L_Wa_costByTable) (k2 : Int32 → Mm → Rs Int32) (v1 : Nat) (v2 : Nat) (v3 : Int32) (hk2 : ∀ (v3 : Int32) M, VV l K 3 5 0 0 rvI X (k2 v3 M) 0 0 M 2 [(0, .ref (kA K 30)), (1, .ref (kA K v1)), (2, .ref (kA K v2)), (3, .int v3)] []) (hv1 : isSer v1) (hv2 : isSer v2) : ∀ (n : Nat) (v4 : Int32) (M : Mm), VV l K 3 5 0 0 rvI X (fn_Wa_costByTable_13 k2 v1 v2 v3 n v4 M) 0 0 M 13 [(0, .ref (kA K 30)), (1, .ref (kA K v1)), (2, .ref (kA K v2)), (3, .int v3), (4, .int v4)] [] := by
  intro n
  induction n with
  | zero => intro v4 M; exact VV_none
  | succ n ih =>
    intro v4 M
    rw [fn_Wa_costByTable_13]
    refine V_iload hX (j := 4) (hj := rfl) 8 15 rfl rfl ?_
    refine V_aload_n hX (j := 2) (hj := rfl) 9 16 rfl rfl ?_
    refine V_callI hX 19 0 0 rfl rfl rfl (Nat.le_of_ble_eq_true rfl) (Nat.le_of_ble_eq_true rfl) (VR_V hX 10 (ct_Se_size (cx_t hX) K v2 M) my_Se_size mi_Se_size ms_Se_size ml_Wa_15 (Nat.le_of_ble_eq_true rfl) (Nat.le_of_ble_eq_true rfl) (loc_ser hv2) (ent_ser K _ hv2) rfl rfl rfl (Nat.le_of_ble_eq_true rfl) rfl (Nat.le_of_ble_eq_true rfl) (Nat.le_of_ble_eq_true rfl)) (fun r16 M16 => ?_)
    refine V_icmp_ge hX 11 22 57 rfl rfl (by decide) (fun c19 => ?_) (fun c19 => ?_)
    · refine VV_sub [0, 1, 2, 3] rfl ?_
      exact bt_Wa_costByTable_57 hX k2 v1 v2 v3 hk2 hv1 hv2 M16
    · refine V_aload_n hX (j := 0) (hj := rfl) 12 23 rfl rfl ?_
      refine V_get hX 13 26 30 (.ref (kA K 31)) fl_Wa_9 rfl rfl (by decide) (ent_30 K _) rfl ?_
      refine V_iload_n hX (j := 3) (hj := rfl) 14 27 rfl rfl ?_
      refine V_iload hX (j := 4) (hj := rfl) 15 29 rfl rfl ?_
      refine V_callI hX 32 0 0 rfl rfl rfl (Nat.le_of_ble_eq_true rfl) (Nat.le_of_ble_eq_true rfl) (VR_S hX 16 (ct_Wa_place (cx_t hX) K v3 v4 M16) my_Wa_place mt_Wa_place ml_Wa_21 (Nat.le_of_ble_eq_true rfl) (Nat.le_of_ble_eq_true rfl) rfl rfl (Nat.le_of_ble_eq_true rfl) rfl (Nat.le_of_ble_eq_true rfl) (Nat.le_of_ble_eq_true rfl)) (fun r29 M29 => ?_)
      refine V_aload_n hX (j := 1) (hj := rfl) 17 33 rfl rfl ?_
      refine V_aload_n hX (j := 2) (hj := rfl) 18 34 rfl rfl ?_
      refine V_iload_n hX (j := 3) (hj := rfl) 19 35 rfl rfl ?_
      refine V_iload hX (j := 4) (hj := rfl) 20 37 rfl rfl ?_
      refine V_callI hX 40 0 0 rfl rfl rfl (Nat.le_of_ble_eq_true rfl) (Nat.le_of_ble_eq_true rfl) (VR_S hX 21 (ct_Wa_gap (cx_t hX) K v1 v2 v3 v4 M29) my_Wa_gap mt_Wa_gap ml_Wa_25 (Nat.le_of_ble_eq_true rfl) (Nat.le_of_ble_eq_true rfl) rfl rfl (Nat.le_of_ble_eq_true rfl) rfl (Nat.le_of_ble_eq_true rfl) (Nat.le_of_ble_eq_true rfl)) (fun r37 M37 => ?_)
      refine V_aload_n hX (j := 0) (hj := rfl) 22 41 rfl rfl ?_
      refine V_iload_n hX (j := 3) (hj := rfl) 23 42 rfl rfl ?_
      refine V_iload hX (j := 4) (hj := rfl) 24 44 rfl rfl ?_
      refine V_callI hX 47 0 0 rfl rfl rfl (Nat.le_of_ble_eq_true rfl) (Nat.le_of_ble_eq_true rfl) (VR_V hX 25 (ct_Wa_costBefore (cx_t hX) K v3 v4 M37) my_Wa_costBefore mi_Wa_costBefore ms_Wa_costBefore ml_Wa_29 (Nat.le_of_ble_eq_true rfl) (Nat.le_of_ble_eq_true rfl) (by decide) (ent_30 K _) rfl rfl rfl (Nat.le_of_ble_eq_true rfl) rfl (Nat.le_of_ble_eq_true rfl) (Nat.le_of_ble_eq_true rfl)) (fun r44 M44 => ?_)
      refine V_iadd hX 26 48 rfl rfl ?_
      refine V_callU hX 51 0 0 rfl rfl rfl (Nat.le_of_ble_eq_true rfl) (Nat.le_of_ble_eq_true rfl) (VR_SN hX 27 (ct_SA_write (cx_t hX) K 31 r29 (r37 + r44) M44) my_SA_write mt_SA_write mn_Wa_32 (Nat.le_of_ble_eq_true rfl) (Nat.le_of_ble_eq_true rfl) rfl rfl (Nat.le_of_ble_eq_true rfl) rfl (Nat.le_of_ble_eq_true rfl) (Nat.le_of_ble_eq_true rfl)) (fun r48 M48 => ?_)
      refine V_iincL hX 28 54 4 rfl rfl rfl rfl (Nat.le_of_ble_eq_true rfl) (fun x4_51 hx4_51 => ?_)
      refine VV_lc [(4, .int x4_51), (0, .ref (kA K 30)), (1, .ref (kA K v1)), (2, .ref (kA K v2)), (3, .int v3)] rfl ?_
      refine V_goto hX 29 13 rfl (by decide) ?_
      refine VV_sub [1, 2, 3, 4, 0] rfl ?_
      exact ih x4_51 M48
set_option maxRecDepth 20000 in
theorem bt_Wa_costByTable_63 {l : Launch} {K : KT} {X : XT} (hX : Cx l K 3 5 0 0 X prog_13_method_2_code "SeriesArchive$Walks" (some .int) [] L_Wa_costByTable) (v1 : Nat) (v2 : Nat) (hv1 : isSer v1) (hv2 : isSer v2) (M : Mm) : VV l K 3 5 0 0 rvI X (fn_Wa_costByTable_63 v1 v2 M) 0 0 M 63 [(0, .ref (kA K 30)), (1, .ref (kA K v1)), (2, .ref (kA K v2))] [] := by
  unfold fn_Wa_costByTable_63
  refine V_aload_n hX (j := 0) (hj := rfl) 32 64 rfl rfl ?_
  refine V_get hX 33 67 30 (.ref (kA K 31)) fl_Wa_9 rfl rfl (by decide) (ent_30 K _) rfl ?_
  refine V_aload_n hX (j := 1) (hj := rfl) 34 68 rfl rfl ?_
  refine V_callI hX 71 0 0 rfl rfl rfl (Nat.le_of_ble_eq_true rfl) (Nat.le_of_ble_eq_true rfl) (VR_V hX 35 (ct_Se_size (cx_t hX) K v1 M) my_Se_size mi_Se_size ms_Se_size ml_Wa_15 (Nat.le_of_ble_eq_true rfl) (Nat.le_of_ble_eq_true rfl) (loc_ser hv1) (ent_ser K _ hv1) rfl rfl rfl (Nat.le_of_ble_eq_true rfl) rfl (Nat.le_of_ble_eq_true rfl) (Nat.le_of_ble_eq_true rfl)) (fun r68 M68 => ?_)
  refine V_iconst hX (v := 1) (hv := by decide) 36 72 rfl rfl ?_
  refine V_isub hX 37 73 rfl rfl ?_
  refine V_aload_n hX (j := 2) (hj := rfl) 38 74 rfl rfl ?_
  refine V_callI hX 77 0 0 rfl rfl rfl (Nat.le_of_ble_eq_true rfl) (Nat.le_of_ble_eq_true rfl) (VR_V hX 39 (ct_Se_size (cx_t hX) K v2 M68) my_Se_size mi_Se_size ms_Se_size ml_Wa_15 (Nat.le_of_ble_eq_true rfl) (Nat.le_of_ble_eq_true rfl) (loc_ser hv2) (ent_ser K _ hv2) rfl rfl rfl (Nat.le_of_ble_eq_true rfl) rfl (Nat.le_of_ble_eq_true rfl) (Nat.le_of_ble_eq_true rfl)) (fun r74 M74 => ?_)
  refine V_iconst hX (v := 1) (hv := by decide) 40 78 rfl rfl ?_
  refine V_isub hX 41 79 rfl rfl ?_
  refine V_callI hX 82 0 0 rfl rfl rfl (Nat.le_of_ble_eq_true rfl) (Nat.le_of_ble_eq_true rfl) (VR_S hX 42 (ct_Wa_place (cx_t hX) K (r68 - 1) (r74 - 1) M74) my_Wa_place mt_Wa_place ml_Wa_21 (Nat.le_of_ble_eq_true rfl) (Nat.le_of_ble_eq_true rfl) rfl rfl (Nat.le_of_ble_eq_true rfl) rfl (Nat.le_of_ble_eq_true rfl) (Nat.le_of_ble_eq_true rfl)) (fun r79 M79 => ?_)
  refine V_callI hX 85 0 0 rfl rfl rfl (Nat.le_of_ble_eq_true rfl) (Nat.le_of_ble_eq_true rfl) (VR_SN hX 43 (ct_SA_read (cx_t hX) K 31 r79 M79) my_SA_read mt_SA_read mn_Wa_36 (Nat.le_of_ble_eq_true rfl) (Nat.le_of_ble_eq_true rfl) rfl rfl (Nat.le_of_ble_eq_true rfl) rfl (Nat.le_of_ble_eq_true rfl) (Nat.le_of_ble_eq_true rfl)) (fun r82 M82 => ?_)
  exact V_iret hX 44 rfl (Nat.le_of_ble_eq_true rfl) (Nat.le_of_ble_eq_true rfl) rfl
set_option maxRecDepth 20000 in
theorem bt_Wa_costByTable_2 {l : Launch} {K : KT} {X : XT} (hX : Cx l K 3 5 0 0 X prog_13_method_2_code "SeriesArchive$Walks" (some .int) [] L_Wa_costByTable) (v1 : Nat) (v2 : Nat) (hv1 : isSer v1) (hv2 : isSer v2) : ∀ (n : Nat) (v3 : Int32) (M : Mm), VV l K 3 5 0 0 rvI X (fn_Wa_costByTable_2 v1 v2 n v3 M) 0 0 M 2 [(0, .ref (kA K 30)), (1, .ref (kA K v1)), (2, .ref (kA K v2)), (3, .int v3)] [] := by
  intro n
  induction n with
  | zero => intro v3 M; exact VV_none
  | succ n ih =>
    intro v3 M
    rw [fn_Wa_costByTable_2]
    refine V_iload_n hX (j := 3) (hj := rfl) 2 3 rfl rfl ?_
    refine V_aload_n hX (j := 1) (hj := rfl) 3 4 rfl rfl ?_
    refine V_callI hX 7 0 0 rfl rfl rfl (Nat.le_of_ble_eq_true rfl) (Nat.le_of_ble_eq_true rfl) (VR_V hX 4 (ct_Se_size (cx_t hX) K v1 M) my_Se_size mi_Se_size ms_Se_size ml_Wa_15 (Nat.le_of_ble_eq_true rfl) (Nat.le_of_ble_eq_true rfl) (loc_ser hv1) (ent_ser K _ hv1) rfl rfl rfl (Nat.le_of_ble_eq_true rfl) rfl (Nat.le_of_ble_eq_true rfl) (Nat.le_of_ble_eq_true rfl)) (fun r4 M4 => ?_)
    refine V_icmp_ge hX 5 10 63 rfl rfl (by decide) (fun c7 => ?_) (fun c7 => ?_)
    · refine VV_sub [0, 1, 2] rfl ?_
      exact bt_Wa_costByTable_63 hX v1 v2 hv1 hv2 M4
    · refine V_iconst hX (v := 0) (hv := by decide) 6 11 rfl rfl ?_
      refine V_istore hX 7 13 [(4, .int 0), (0, .ref (kA K 30)), (1, .ref (kA K v1)), (2, .ref (kA K v2)), (3, .int v3)] rfl rfl (Nat.le_of_ble_eq_true rfl) rfl ?_
      refine VV_sub [1, 2, 3, 4, 0] rfl ?_
      exact bt_Wa_costByTable_13 hX (fn_Wa_costByTable_2 v1 v2 n) v1 v2 v3 ih hv1 hv2 fuel0 0 M4
set_option maxRecDepth 20000 in
theorem ct_Wa_costByTable {l : Launch} (hl : l.stackTraces = false) (K : KT) (v1 : Nat) (v2 : Nat) (M : Mm) : CTp l K y_Wa_costByTable (Cond.code y_Wa_costByTable prog_13_method_2_code 5 (some .int)) rvI 3 0 0 [.ref (kA K 30), .ref (kA K v1), .ref (kA K v2)] M (fn_Wa_costByTable v1 v2 M) := by
  refine CTp_of (L := L_Wa_costByTable) (lc := [(0, .ref (kA K 30)), (1, .ref (kA K v1)), (2, .ref (kA K v2))]) (by decide +kernel) dec_Wa_costByTable hl rfl (Nat.le_of_ble_eq_true rfl) (fun X hX => ?_)
  unfold fn_Wa_costByTable
  refine VV_grd (fun hv1 => ?_)
  refine VV_grd (fun hv2 => ?_)
  refine V_iconst hX (v := 0) (hv := by decide) 0 1 rfl rfl ?_
  refine V_istore_n hX 1 2 [(3, .int 0), (0, .ref (kA K 30)), (1, .ref (kA K v1)), (2, .ref (kA K v2))] rfl rfl (Nat.le_of_ble_eq_true rfl) rfl ?_
  refine VV_sub [1, 2, 3, 0] rfl ?_
  exact bt_Wa_costByTable_2 hX v1 v2 hv1 hv2 fuel0 0 M
set_option maxRecDepth 20000 in
theorem bt_Wa_costFrom_24 {l : Launch} {K : KT} {d : Nat} {X : XT} (hX : Cx l K d 8 0 0 X prog_13_method_5_code "SeriesArchive$Walks" (some .int) [] L_Wa_costFrom) {d9 : Nat} (hd : d9 + 1 ≤ d ∧ 3 ≤ d) (rec : Nat → Nat → Nat → Int32 → Int32 → Int32 → Mm → Rs Int32) (hrec : ∀ (w0 : Nat) (w1 : Nat) (w2 : Nat) (w3 : Int32) (w4 : Int32) (w5 : Int32) (M : Mm), CTp l K y_Wa_costFrom (Cond.code y_Wa_costFrom prog_13_method_5_code 8 (some .int)) rvI d9 0 0 [.ref (kA K w0), .ref (kA K w1), .ref (kA K w2), .int w3, .int w4, .int w5] M (rec w0 w1 w2 w3 w4 w5 M)) (M : Mm) : VV l K d 8 0 0 rvI X (fn_Wa_costFrom_24 rec M) 0 0 M 24 [] [] := by
  unfold fn_Wa_costFrom_24
  refine V_ldcI hX 11 26 co_Wa_40 rfl rfl ?_
  exact V_iret hX 12 rfl (Nat.le_of_ble_eq_true rfl) (Nat.le_of_ble_eq_true rfl) rfl
set_option maxRecDepth 20000 in
theorem bt_Wa_costFrom_162 {l : Launch} {K : KT} {d : Nat} {X : XT} (hX : Cx l K d 8 0 0 X prog_13_method_5_code "SeriesArchive$Walks" (some .int) [] L_Wa_costFrom) {d9 : Nat} (hd : d9 + 1 ≤ d ∧ 3 ≤ d) (rec : Nat → Nat → Nat → Int32 → Int32 → Int32 → Mm → Rs Int32) (hrec : ∀ (w0 : Nat) (w1 : Nat) (w2 : Nat) (w3 : Int32) (w4 : Int32) (w5 : Int32) (M : Mm), CTp l K y_Wa_costFrom (Cond.code y_Wa_costFrom prog_13_method_5_code 8 (some .int)) rvI d9 0 0 [.ref (kA K w0), .ref (kA K w1), .ref (kA K w2), .int w3, .int w4, .int w5] M (rec w0 w1 w2 w3 w4 w5 M)) (v2 : Nat) (v3 : Int32) (v4 : Int32) (hv2 : isIA v2) (M : Mm) : VV l K d 8 0 0 rvI X (fn_Wa_costFrom_162 rec v2 v3 v4 M) 0 0 M 162 [(2, .ref (kA K v2)), (3, .int v3), (4, .int v4)] [] := by
  unfold fn_Wa_costFrom_162
  refine V_aload_n hX (j := 0) (hj := rfl) 94 163 rfl rfl ?_
  refine V_iload_n hX (j := 1) (hj := rfl) 95 164 rfl rfl ?_
  refine V_iload hX (j := 2) (hj := rfl) 96 166 rfl rfl ?_
  refine V_callI hX 169 0 0 rfl rfl rfl (Nat.le_of_ble_eq_true rfl) (Nat.le_of_ble_eq_true rfl) (VR_S hX 97 (ct_Wa_place (cx_t hX) K v3 v4 M) my_Wa_place mt_Wa_place ml_Wa_21 (by omega) (Nat.le_of_ble_eq_true rfl) rfl rfl (Nat.le_of_ble_eq_true rfl) rfl (Nat.le_of_ble_eq_true rfl) (Nat.le_of_ble_eq_true rfl)) (fun r166 M166 => ?_)
  refine V_callI hX 172 0 0 rfl rfl rfl (Nat.le_of_ble_eq_true rfl) (Nat.le_of_ble_eq_true rfl) (VR_SN hX 98 (ct_SA_read (cx_t hX) K v2 r166 M166) my_SA_read mt_SA_read mn_Wa_36 (by omega) (Nat.le_of_ble_eq_true rfl) rfl rfl (Nat.le_of_ble_eq_true rfl) rfl (Nat.le_of_ble_eq_true rfl) (Nat.le_of_ble_eq_true rfl)) (fun r169 M169 => ?_)
  exact V_iret hX 99 rfl (Nat.le_of_ble_eq_true rfl) (Nat.le_of_ble_eq_true rfl) rfl
set_option maxRecDepth 20000 in
theorem bt_Wa_costFrom_158 {l : Launch} {K : KT} {d : Nat} {X : XT} (hX : Cx l K d 8 0 0 X prog_13_method_5_code "SeriesArchive$Walks" (some .int) [] L_Wa_costFrom) {d9 : Nat} (hd : d9 + 1 ≤ d ∧ 3 ≤ d) (rec : Nat → Nat → Nat → Int32 → Int32 → Int32 → Mm → Rs Int32) (hrec : ∀ (w0 : Nat) (w1 : Nat) (w2 : Nat) (w3 : Int32) (w4 : Int32) (w5 : Int32) (M : Mm), CTp l K y_Wa_costFrom (Cond.code y_Wa_costFrom prog_13_method_5_code 8 (some .int)) rvI d9 0 0 [.ref (kA K w0), .ref (kA K w1), .ref (kA K w2), .int w3, .int w4, .int w5] M (rec w0 w1 w2 w3 w4 w5 M)) (v2 : Nat) (v3 : Int32) (v4 : Int32) (s0 : Nat) (s1 : Int32) (s2 : Int32) (s3 : Int32) (hv2 : isIA v2) (hs0 : isIA s0) (M : Mm) : VV l K d 8 0 0 rvI X (fn_Wa_costFrom_158 rec v2 v3 v4 s0 s1 s2 s3 M) 0 0 M 158 [(2, .ref (kA K v2)), (3, .int v3), (4, .int v4)] [.int s3, .int s2, .int s1, .ref (kA K s0)] := by
  unfold fn_Wa_costFrom_158
  refine V_iadd hX 92 159 rfl rfl ?_
  refine V_callU hX 162 0 0 rfl rfl rfl (Nat.le_of_ble_eq_true rfl) (Nat.le_of_ble_eq_true rfl) (VR_SN hX 93 (ct_SA_write (cx_t hX) K s0 s1 (s2 + s3) M) my_SA_write mt_SA_write mn_Wa_32 (by omega) (Nat.le_of_ble_eq_true rfl) rfl rfl (Nat.le_of_ble_eq_true rfl) rfl (Nat.le_of_ble_eq_true rfl) (Nat.le_of_ble_eq_true rfl)) (fun r159 M159 => ?_)
  exact bt_Wa_costFrom_162 hX hd rec hrec v2 v3 v4 hv2 M159
set_option maxRecDepth 20000 in
theorem bt_Wa_costFrom_130 {l : Launch} {K : KT} {d : Nat} {X : XT} (hX : Cx l K d 8 0 0 X prog_13_method_5_code "SeriesArchive$Walks" (some .int) [] L_Wa_costFrom) {d9 : Nat} (hd : d9 + 1 ≤ d ∧ 3 ≤ d) (rec : Nat → Nat → Nat → Int32 → Int32 → Int32 → Mm → Rs Int32) (hrec : ∀ (w0 : Nat) (w1 : Nat) (w2 : Nat) (w3 : Int32) (w4 : Int32) (w5 : Int32) (M : Mm), CTp l K y_Wa_costFrom (Cond.code y_Wa_costFrom prog_13_method_5_code 8 (some .int)) rvI d9 0 0 [.ref (kA K w0), .ref (kA K w1), .ref (kA K w2), .int w3, .int w4, .int w5] M (rec w0 w1 w2 w3 w4 w5 M)) (v0 : Nat) (v1 : Nat) (v2 : Nat) (v3 : Int32) (v4 : Int32) (v6 : Int32) (s0 : Int32) (hv0 : isSer v0) (hv1 : isSer v1) (hv2 : isIA v2) (M : Mm) : VV l K d 8 0 0 rvI X (fn_Wa_costFrom_130 rec v0 v1 v2 v3 v4 v6 s0 M) 0 0 M 130 [(0, .ref (kA K v0)), (1, .ref (kA K v1)), (2, .ref (kA K v2)), (3, .int v3), (4, .int v4), (6, .int v6)] [.int s0] := by
  unfold fn_Wa_costFrom_130
  refine V_istore hX 77 132 [(7, .int s0), (0, .ref (kA K v0)), (1, .ref (kA K v1)), (2, .ref (kA K v2)), (3, .int v3), (4, .int v4), (6, .int v6)] rfl rfl (Nat.le_of_ble_eq_true rfl) rfl ?_
  refine V_aload_n hX (j := 3) (hj := rfl) 78 133 rfl rfl ?_
  refine V_iload_n hX (j := 4) (hj := rfl) 79 134 rfl rfl ?_
  refine V_iload hX (j := 5) (hj := rfl) 80 136 rfl rfl ?_
  refine V_callI hX 139 0 0 rfl rfl rfl (Nat.le_of_ble_eq_true rfl) (Nat.le_of_ble_eq_true rfl) (VR_S hX 81 (ct_Wa_place (cx_t hX) K v3 v4 M) my_Wa_place mt_Wa_place ml_Wa_21 (by omega) (Nat.le_of_ble_eq_true rfl) rfl rfl (Nat.le_of_ble_eq_true rfl) rfl (Nat.le_of_ble_eq_true rfl) (Nat.le_of_ble_eq_true rfl)) (fun r136 M136 => ?_)
  refine V_aload_n hX (j := 1) (hj := rfl) 82 140 rfl rfl ?_
  refine V_aload_n hX (j := 2) (hj := rfl) 83 141 rfl rfl ?_
  refine V_iload_n hX (j := 4) (hj := rfl) 84 142 rfl rfl ?_
  refine V_iload hX (j := 5) (hj := rfl) 85 144 rfl rfl ?_
  refine V_callI hX 147 0 0 rfl rfl rfl (Nat.le_of_ble_eq_true rfl) (Nat.le_of_ble_eq_true rfl) (VR_S hX 86 (ct_Wa_gap (cx_t hX) K v0 v1 v3 v4 M136) my_Wa_gap mt_Wa_gap ml_Wa_25 (by omega) (Nat.le_of_ble_eq_true rfl) rfl rfl (Nat.le_of_ble_eq_true rfl) rfl (Nat.le_of_ble_eq_true rfl) (Nat.le_of_ble_eq_true rfl)) (fun r144 M144 => ?_)
  refine V_iload hX (j := 0) (hj := rfl) 87 149 rfl rfl ?_
  refine V_if_eq hX 88 152 156 rfl rfl (by decide) (fun c149 => ?_) (fun c149 => ?_)
  · refine V_iload hX (j := 6) (hj := rfl) 91 158 rfl rfl ?_
    refine VV_sub [3, 4, 5] rfl ?_
    exact bt_Wa_costFrom_158 hX hd rec hrec v2 v3 v4 v2 r136 r144 v6 hv2 hv2 M144
  · refine V_iconst hX (v := 0) (hv := by decide) 89 153 rfl rfl ?_
    refine V_goto hX 90 158 rfl (by decide) ?_
    refine VV_sub [3, 4, 5] rfl ?_
    exact bt_Wa_costFrom_158 hX hd rec hrec v2 v3 v4 v2 r136 r144 0 hv2 hv2 M144
set_option maxRecDepth 20000 in
theorem bt_Wa_costFrom_129 {l : Launch} {K : KT} {d : Nat} {X : XT} (hX : Cx l K d 8 0 0 X prog_13_method_5_code "SeriesArchive$Walks" (some .int) [] L_Wa_costFrom) {d9 : Nat} (hd : d9 + 1 ≤ d ∧ 3 ≤ d) (rec : Nat → Nat → Nat → Int32 → Int32 → Int32 → Mm → Rs Int32) (hrec : ∀ (w0 : Nat) (w1 : Nat) (w2 : Nat) (w3 : Int32) (w4 : Int32) (w5 : Int32) (M : Mm), CTp l K y_Wa_costFrom (Cond.code y_Wa_costFrom prog_13_method_5_code 8 (some .int)) rvI d9 0 0 [.ref (kA K w0), .ref (kA K w1), .ref (kA K w2), .int w3, .int w4, .int w5] M (rec w0 w1 w2 w3 w4 w5 M)) (v0 : Nat) (v1 : Nat) (v2 : Nat) (v3 : Int32) (v4 : Int32) (v6 : Int32) (hv0 : isSer v0) (hv1 : isSer v1) (hv2 : isIA v2) (M : Mm) : VV l K d 8 0 0 rvI X (fn_Wa_costFrom_129 rec v0 v1 v2 v3 v4 v6 M) 0 0 M 129 [(0, .ref (kA K v0)), (1, .ref (kA K v1)), (2, .ref (kA K v2)), (3, .int v3), (4, .int v4), (6, .int v6)] [] := by
  unfold fn_Wa_costFrom_129
  refine V_iconst hX (v := 0) (hv := by decide) 76 130 rfl rfl ?_
  exact bt_Wa_costFrom_130 hX hd rec hrec v0 v1 v2 v3 v4 v6 0 hv0 hv1 hv2 M
set_option maxRecDepth 20000 in
theorem ct_Wa_costFrom {l : Launch} (hl : l.stackTraces = false) (K : KT) : ∀ (n : Nat) (v0 : Nat) (v1 : Nat) (v2 : Nat) (v3 : Int32) (v4 : Int32) (v5 : Int32) (M : Mm), CTp l K y_Wa_costFrom (Cond.code y_Wa_costFrom prog_13_method_5_code 8 (some .int)) rvI (3 + n) 0 0 [.ref (kA K v0), .ref (kA K v1), .ref (kA K v2), .int v3, .int v4, .int v5] M (fn_Wa_costFrom n v0 v1 v2 v3 v4 v5 M) := by
  intro n
  induction n with
  | zero => intro v0 v1 v2 v3 v4 v5 M o M1 h; cases h
  | succ n ih =>
    intro v0 v1 v2 v3 v4 v5 M
    rw [fn_Wa_costFrom]
    refine CTp_of (L := L_Wa_costFrom) (lc := [(0, .ref (kA K v0)), (1, .ref (kA K v1)), (2, .ref (kA K v2)), (3, .int v3), (4, .int v4), (5, .int v5)]) (by decide +kernel) dec_Wa_costFrom hl rfl (Nat.le_of_ble_eq_true rfl) (fun X hX => ?_)
    have hd : 3 + n + 1 ≤ 3 + (n + 1) ∧ 3 ≤ 3 + (n + 1) := ⟨by omega, by omega⟩
    refine VV_grd (fun hv0 => ?_)
    refine VV_grd (fun hv1 => ?_)
    refine VV_grd (fun hv2 => ?_)
    refine V_aload_n hX (j := 0) (hj := rfl) 0 1 rfl rfl ?_
    refine V_iload_n hX (j := 3) (hj := rfl) 1 2 rfl rfl ?_
    refine V_callI hX 5 0 0 rfl rfl rfl (Nat.le_of_ble_eq_true rfl) (Nat.le_of_ble_eq_true rfl) (VR_V hX 2 (ct_Se_has (cx_t hX) K v0 v3 M) my_Se_has mi_Se_has ms_Se_has ml_Wa_50 (by omega) (Nat.le_of_ble_eq_true rfl) (loc_ser hv0) (ent_ser K _ hv0) rfl rfl rfl (Nat.le_of_ble_eq_true rfl) rfl (Nat.le_of_ble_eq_true rfl) (Nat.le_of_ble_eq_true rfl)) (fun r2 M2 => ?_)
    refine V_if_eq hX 3 8 24 rfl rfl (by decide) (fun c5 => ?_) (fun c5 => ?_)
    · refine VV_sub [] rfl ?_
      exact bt_Wa_costFrom_24 hX hd (fn_Wa_costFrom n) ih M2
    · refine V_aload_n hX (j := 1) (hj := rfl) 4 9 rfl rfl ?_
      refine V_iload hX (j := 4) (hj := rfl) 5 11 rfl rfl ?_
      refine V_callI hX 14 0 0 rfl rfl rfl (Nat.le_of_ble_eq_true rfl) (Nat.le_of_ble_eq_true rfl) (VR_V hX 6 (ct_Se_has (cx_t hX) K v1 v4 M2) my_Se_has mi_Se_has ms_Se_has ml_Wa_50 (by omega) (Nat.le_of_ble_eq_true rfl) (loc_ser hv1) (ent_ser K _ hv1) rfl rfl rfl (Nat.le_of_ble_eq_true rfl) rfl (Nat.le_of_ble_eq_true rfl) (Nat.le_of_ble_eq_true rfl)) (fun r11 M11 => ?_)
      refine V_if_eq hX 7 17 24 rfl rfl (by decide) (fun c14 => ?_) (fun c14 => ?_)
      · refine VV_sub [] rfl ?_
        exact bt_Wa_costFrom_24 hX hd (fn_Wa_costFrom n) ih M11
      · refine V_iload hX (j := 5) (hj := rfl) 8 19 rfl rfl ?_
        refine V_bipush hX (v := 40) (hv := by decide) 9 21 rfl rfl ?_
        refine V_icmp_le hX 10 24 27 rfl rfl (by decide) (fun c21 => ?_) (fun c21 => ?_)
        · refine V_aload_n hX (j := 2) (hj := rfl) 13 28 rfl rfl ?_
          refine V_iload_n hX (j := 3) (hj := rfl) 14 29 rfl rfl ?_
          refine V_iload hX (j := 4) (hj := rfl) 15 31 rfl rfl ?_
          refine V_callI hX 34 0 0 rfl rfl rfl (Nat.le_of_ble_eq_true rfl) (Nat.le_of_ble_eq_true rfl) (VR_S hX 16 (ct_Wa_place (cx_t hX) K v3 v4 M11) my_Wa_place mt_Wa_place ml_Wa_21 (by omega) (Nat.le_of_ble_eq_true rfl) rfl rfl (Nat.le_of_ble_eq_true rfl) rfl (Nat.le_of_ble_eq_true rfl) (Nat.le_of_ble_eq_true rfl)) (fun r31 M31 => ?_)
          refine V_callI hX 37 0 0 rfl rfl rfl (Nat.le_of_ble_eq_true rfl) (Nat.le_of_ble_eq_true rfl) (VR_SN hX 17 (ct_SA_read (cx_t hX) K v2 r31 M31) my_SA_read mt_SA_read mn_Wa_36 (by omega) (Nat.le_of_ble_eq_true rfl) rfl rfl (Nat.le_of_ble_eq_true rfl) rfl (Nat.le_of_ble_eq_true rfl) (Nat.le_of_ble_eq_true rfl)) (fun r34 M34 => ?_)
          refine V_iconst hX (v := (-1)) (hv := by decide) 18 38 rfl rfl ?_
          refine V_icmp_ne hX 19 41 162 rfl rfl (by decide) (fun c38 => ?_) (fun c38 => ?_)
          · refine VV_sub [2, 3, 4] rfl ?_
            exact bt_Wa_costFrom_162 hX hd (fn_Wa_costFrom n) ih v2 v3 v4 hv2 M34
          · refine V_aload_n hX (j := 0) (hj := rfl) 20 42 rfl rfl ?_
            refine V_aload_n hX (j := 1) (hj := rfl) 21 43 rfl rfl ?_
            refine V_aload_n hX (j := 2) (hj := rfl) 22 44 rfl rfl ?_
            refine V_iload_n hX (j := 3) (hj := rfl) 23 45 rfl rfl ?_
            refine V_iconst hX (v := 1) (hv := by decide) 24 46 rfl rfl ?_
            refine V_iadd hX 25 47 rfl rfl ?_
            refine V_iload hX (j := 4) (hj := rfl) 26 49 rfl rfl ?_
            refine V_iload hX (j := 5) (hj := rfl) 27 51 rfl rfl ?_
            refine V_iconst hX (v := 1) (hv := by decide) 28 52 rfl rfl ?_
            refine V_iadd hX 29 53 rfl rfl ?_
            refine V_callI hX 56 0 0 rfl rfl rfl (Nat.le_of_ble_eq_true rfl) (Nat.le_of_ble_eq_true rfl) (VR_S hX 30 (ih v0 v1 v2 (v3 + 1) v4 (v5 + 1) M34) my_Wa_costFrom mt_Wa_costFrom ml_Wa_46 (by omega) (Nat.le_of_ble_eq_true rfl) rfl rfl (Nat.le_of_ble_eq_true rfl) rfl (Nat.le_of_ble_eq_true rfl) (Nat.le_of_ble_eq_true rfl)) (fun r53 M53 => ?_)
            refine V_istore hX 31 58 [(6, .int r53), (0, .ref (kA K v0)), (1, .ref (kA K v1)), (2, .ref (kA K v2)), (3, .int v3), (4, .int v4), (5, .int v5)] rfl rfl (Nat.le_of_ble_eq_true rfl) rfl ?_
            refine V_iload hX (j := 0) (hj := rfl) 32 60 rfl rfl ?_
            refine V_aload_n hX (j := 1) (hj := rfl) 33 61 rfl rfl ?_
            refine V_aload_n hX (j := 2) (hj := rfl) 34 62 rfl rfl ?_
            refine V_aload_n hX (j := 3) (hj := rfl) 35 63 rfl rfl ?_
            refine V_iload_n hX (j := 4) (hj := rfl) 36 64 rfl rfl ?_
            refine V_iload hX (j := 5) (hj := rfl) 37 66 rfl rfl ?_
            refine V_iconst hX (v := 1) (hv := by decide) 38 67 rfl rfl ?_
            refine V_iadd hX 39 68 rfl rfl ?_
            refine V_iload hX (j := 6) (hj := rfl) 40 70 rfl rfl ?_
            refine V_iconst hX (v := 1) (hv := by decide) 41 71 rfl rfl ?_
            refine V_iadd hX 42 72 rfl rfl ?_
            refine V_callI hX 75 0 0 rfl rfl rfl (Nat.le_of_ble_eq_true rfl) (Nat.le_of_ble_eq_true rfl) (VR_S hX 43 (ih v0 v1 v2 v3 (v4 + 1) (v5 + 1) M53) my_Wa_costFrom mt_Wa_costFrom ml_Wa_46 (by omega) (Nat.le_of_ble_eq_true rfl) rfl rfl (Nat.le_of_ble_eq_true rfl) rfl (Nat.le_of_ble_eq_true rfl) (Nat.le_of_ble_eq_true rfl)) (fun r72 M72 => ?_)
            refine V_min hX 44 78 mm_Wa_41 (by omega) (Nat.le_of_ble_eq_true rfl) (Nat.le_of_ble_eq_true rfl) (Nat.le_of_ble_eq_true rfl) rfl rfl ?_
            refine VV_li (fun x6_78 hx6_78 => ?_)
            refine V_istore hX 45 80 [(6, .int x6_78), (0, .ref (kA K v0)), (1, .ref (kA K v1)), (2, .ref (kA K v2)), (3, .int v3), (4, .int v4), (5, .int v5)] rfl rfl (Nat.le_of_ble_eq_true rfl) rfl ?_
            refine V_iload hX (j := 0) (hj := rfl) 46 82 rfl rfl ?_
            refine V_aload_n hX (j := 1) (hj := rfl) 47 83 rfl rfl ?_
            refine V_aload_n hX (j := 2) (hj := rfl) 48 84 rfl rfl ?_
            refine V_aload_n hX (j := 3) (hj := rfl) 49 85 rfl rfl ?_
            refine V_iload_n hX (j := 4) (hj := rfl) 50 86 rfl rfl ?_
            refine V_iconst hX (v := 1) (hv := by decide) 51 87 rfl rfl ?_
            refine V_iadd hX 52 88 rfl rfl ?_
            refine V_iload hX (j := 5) (hj := rfl) 53 90 rfl rfl ?_
            refine V_iconst hX (v := 1) (hv := by decide) 54 91 rfl rfl ?_
            refine V_iadd hX 55 92 rfl rfl ?_
            refine V_iload hX (j := 6) (hj := rfl) 56 94 rfl rfl ?_
            refine V_iconst hX (v := 1) (hv := by decide) 57 95 rfl rfl ?_
            refine V_iadd hX 58 96 rfl rfl ?_
            refine V_callI hX 99 0 0 rfl rfl rfl (Nat.le_of_ble_eq_true rfl) (Nat.le_of_ble_eq_true rfl) (VR_S hX 59 (ih v0 v1 v2 (v3 + 1) (v4 + 1) (v5 + 1) M72) my_Wa_costFrom mt_Wa_costFrom ml_Wa_46 (by omega) (Nat.le_of_ble_eq_true rfl) rfl rfl (Nat.le_of_ble_eq_true rfl) rfl (Nat.le_of_ble_eq_true rfl) (Nat.le_of_ble_eq_true rfl)) (fun r96 M96 => ?_)
            refine V_min hX 60 102 mm_Wa_41 (by omega) (Nat.le_of_ble_eq_true rfl) (Nat.le_of_ble_eq_true rfl) (Nat.le_of_ble_eq_true rfl) rfl rfl ?_
            refine VV_li (fun x6_102 hx6_102 => ?_)
            refine V_istore hX 61 104 [(6, .int x6_102), (0, .ref (kA K v0)), (1, .ref (kA K v1)), (2, .ref (kA K v2)), (3, .int v3), (4, .int v4), (5, .int v5)] rfl rfl (Nat.le_of_ble_eq_true rfl) rfl ?_
            refine V_aload_n hX (j := 1) (hj := rfl) 62 105 rfl rfl ?_
            refine V_iload_n hX (j := 4) (hj := rfl) 63 106 rfl rfl ?_
            refine V_iconst hX (v := 1) (hv := by decide) 64 107 rfl rfl ?_
            refine V_iadd hX 65 108 rfl rfl ?_
            refine V_callI hX 111 0 0 rfl rfl rfl (Nat.le_of_ble_eq_true rfl) (Nat.le_of_ble_eq_true rfl) (VR_V hX 66 (ct_Se_has (cx_t hX) K v0 (v3 + 1) M96) my_Se_has mi_Se_has ms_Se_has ml_Wa_50 (by omega) (Nat.le_of_ble_eq_true rfl) (loc_ser hv0) (ent_ser K _ hv0) rfl rfl rfl (Nat.le_of_ble_eq_true rfl) rfl (Nat.le_of_ble_eq_true rfl) (Nat.le_of_ble_eq_true rfl)) (fun r108 M108 => ?_)
            refine V_if_ne hX 67 114 129 rfl rfl (by decide) (fun c111 => ?_) (fun c111 => ?_)
            · refine VV_sub [1, 2, 3, 4, 5, 0] rfl ?_
              exact bt_Wa_costFrom_129 hX hd (fn_Wa_costFrom n) ih v0 v1 v2 v3 v4 x6_102 hv0 hv1 hv2 M108
            · refine V_aload_n hX (j := 2) (hj := rfl) 68 115 rfl rfl ?_
              refine V_iload hX (j := 5) (hj := rfl) 69 117 rfl rfl ?_
              refine V_iconst hX (v := 1) (hv := by decide) 70 118 rfl rfl ?_
              refine V_iadd hX 71 119 rfl rfl ?_
              refine V_callI hX 122 0 0 rfl rfl rfl (Nat.le_of_ble_eq_true rfl) (Nat.le_of_ble_eq_true rfl) (VR_V hX 72 (ct_Se_has (cx_t hX) K v1 (v4 + 1) M108) my_Se_has mi_Se_has ms_Se_has ml_Wa_50 (by omega) (Nat.le_of_ble_eq_true rfl) (loc_ser hv1) (ent_ser K _ hv1) rfl rfl rfl (Nat.le_of_ble_eq_true rfl) rfl (Nat.le_of_ble_eq_true rfl) (Nat.le_of_ble_eq_true rfl)) (fun r119 M119 => ?_)
              refine V_if_ne hX 73 125 129 rfl rfl (by decide) (fun c122 => ?_) (fun c122 => ?_)
              · refine VV_sub [1, 2, 3, 4, 5, 0] rfl ?_
                exact bt_Wa_costFrom_129 hX hd (fn_Wa_costFrom n) ih v0 v1 v2 v3 v4 x6_102 hv0 hv1 hv2 M119
              · refine V_iconst hX (v := 1) (hv := by decide) 74 126 rfl rfl ?_
                refine V_goto hX 75 130 rfl (by decide) ?_
                refine VV_sub [1, 2, 3, 4, 5, 0] rfl ?_
                exact bt_Wa_costFrom_130 hX hd (fn_Wa_costFrom n) ih v0 v1 v2 v3 v4 x6_102 1 hv0 hv1 hv2 M119
        · refine VV_sub [] rfl ?_
          exact bt_Wa_costFrom_24 hX hd (fn_Wa_costFrom n) ih M11
set_option maxRecDepth 20000 in
theorem bt_Wa_costByGoingOn_26 {l : Launch} {K : KT} {X : XT} (hX : Cx l K 49 4 0 0 X prog_13_method_4_code "SeriesArchive$Walks" (some .int) [] L_Wa_costByGoingOn) (v1 : Nat) (v2 : Nat) (hv1 : isSer v1) (hv2 : isSer v2) (M : Mm) : VV l K 49 4 0 0 rvI X (fn_Wa_costByGoingOn_26 v1 v2 M) 0 0 M 26 [(0, .ref (kA K 30)), (1, .ref (kA K v1)), (2, .ref (kA K v2))] [] := by
  unfold fn_Wa_costByGoingOn_26
  refine V_aload_n hX (j := 1) (hj := rfl) 14 27 rfl rfl ?_
  refine V_aload_n hX (j := 2) (hj := rfl) 15 28 rfl rfl ?_
  refine V_aload_n hX (j := 0) (hj := rfl) 16 29 rfl rfl ?_
  refine V_get hX 17 32 30 (.ref (kA K 31)) fl_Wa_9 rfl rfl (by decide) (ent_30 K _) rfl ?_
  refine V_iconst hX (v := 0) (hv := by decide) 18 33 rfl rfl ?_
  refine V_iconst hX (v := 0) (hv := by decide) 19 34 rfl rfl ?_
  refine V_iconst hX (v := 0) (hv := by decide) 20 35 rfl rfl ?_
  refine V_callI hX 38 0 0 rfl rfl rfl (Nat.le_of_ble_eq_true rfl) (Nat.le_of_ble_eq_true rfl) (VR_S hX 21 (ct_Wa_costFrom (cx_t hX) K 45 v1 v2 31 0 0 0 M) my_Wa_costFrom mt_Wa_costFrom ml_Wa_46 (Nat.le_of_ble_eq_true rfl) (Nat.le_of_ble_eq_true rfl) rfl rfl (Nat.le_of_ble_eq_true rfl) rfl (Nat.le_of_ble_eq_true rfl) (Nat.le_of_ble_eq_true rfl)) (fun r35 M35 => ?_)
  exact V_iret hX 22 rfl (Nat.le_of_ble_eq_true rfl) (Nat.le_of_ble_eq_true rfl) rfl
set_option maxRecDepth 20000 in
theorem bt_Wa_costByGoingOn_2 {l : Launch} {K : KT} {X : XT} (hX : Cx l K 49 4 0 0 X prog_13_method_4_code "SeriesArchive$Walks" (some .int) [] L_Wa_costByGoingOn) (v1 : Nat) (v2 : Nat) (hv1 : isSer v1) (hv2 : isSer v2) : ∀ (n : Nat) (v3 : Int32) (M : Mm), VV l K 49 4 0 0 rvI X (fn_Wa_costByGoingOn_2 v1 v2 n v3 M) 0 0 M 2 [(0, .ref (kA K 30)), (1, .ref (kA K v1)), (2, .ref (kA K v2)), (3, .int v3)] [] := by
  intro n
  induction n with
  | zero => intro v3 M; exact VV_none
  | succ n ih =>
    intro v3 M
    rw [fn_Wa_costByGoingOn_2]
    refine V_iload_n hX (j := 3) (hj := rfl) 2 3 rfl rfl ?_
    refine V_aload_n hX (j := 0) (hj := rfl) 3 4 rfl rfl ?_
    refine V_get hX 4 7 30 (.ref (kA K 31)) fl_Wa_9 rfl rfl (by decide) (ent_30 K _) rfl ?_
    refine V_alen hX 5 8 31 400 400 (by decide) rfl (by decide) rfl rfl ?_
    refine V_icmp_ge hX 6 11 26 rfl rfl (by decide) (fun c8 => ?_) (fun c8 => ?_)
    · refine VV_sub [0, 1, 2] rfl ?_
      exact bt_Wa_costByGoingOn_26 hX v1 v2 hv1 hv2 M
    · refine V_aload_n hX (j := 0) (hj := rfl) 7 12 rfl rfl ?_
      refine V_get hX 8 15 30 (.ref (kA K 31)) fl_Wa_9 rfl rfl (by decide) (ent_30 K _) rfl ?_
      refine V_iload_n hX (j := 3) (hj := rfl) 9 16 rfl rfl ?_
      refine V_iconst hX (v := (-1)) (hv := by decide) 10 17 rfl rfl ?_
      refine V_callU hX 20 0 0 rfl rfl rfl (Nat.le_of_ble_eq_true rfl) (Nat.le_of_ble_eq_true rfl) (VR_SN hX 11 (ct_SA_write (cx_t hX) K 31 v3 (-1) M) my_SA_write mt_SA_write mn_Wa_32 (Nat.le_of_ble_eq_true rfl) (Nat.le_of_ble_eq_true rfl) rfl rfl (Nat.le_of_ble_eq_true rfl) rfl (Nat.le_of_ble_eq_true rfl) (Nat.le_of_ble_eq_true rfl)) (fun r17 M17 => ?_)
      refine V_iincL hX 12 23 3 rfl rfl rfl rfl (Nat.le_of_ble_eq_true rfl) (fun x3_20 hx3_20 => ?_)
      refine VV_lc [(3, .int x3_20), (0, .ref (kA K 30)), (1, .ref (kA K v1)), (2, .ref (kA K v2))] rfl ?_
      refine V_goto hX 13 2 rfl (by decide) ?_
      refine VV_sub [1, 2, 3, 0] rfl ?_
      exact ih x3_20 M17
set_option maxRecDepth 20000 in
theorem ct_Wa_costByGoingOn {l : Launch} (hl : l.stackTraces = false) (K : KT) (v1 : Nat) (v2 : Nat) (M : Mm) : CTp l K y_Wa_costByGoingOn (Cond.code y_Wa_costByGoingOn prog_13_method_4_code 4 (some .int)) rvI 49 0 0 [.ref (kA K 30), .ref (kA K v1), .ref (kA K v2)] M (fn_Wa_costByGoingOn v1 v2 M) := by
  refine CTp_of (L := L_Wa_costByGoingOn) (lc := [(0, .ref (kA K 30)), (1, .ref (kA K v1)), (2, .ref (kA K v2))]) (by decide +kernel) dec_Wa_costByGoingOn hl rfl (Nat.le_of_ble_eq_true rfl) (fun X hX => ?_)
  unfold fn_Wa_costByGoingOn
  refine VV_grd (fun hv1 => ?_)
  refine VV_grd (fun hv2 => ?_)
  refine V_iconst hX (v := 0) (hv := by decide) 0 1 rfl rfl ?_
  refine V_istore_n hX 1 2 [(3, .int 0), (0, .ref (kA K 30)), (1, .ref (kA K v1)), (2, .ref (kA K v2))] rfl rfl (Nat.le_of_ble_eq_true rfl) rfl ?_
  refine VV_sub [1, 2, 3, 0] rfl ?_
  exact bt_Wa_costByGoingOn_2 hX v1 v2 hv1 hv2 fuel0 0 M
set_option maxRecDepth 20000 in
theorem ct_SA_refuse {l : Launch} (hl : l.stackTraces = false) (K : KT) (v0 : Nat) (M : Mm) : CTp l K y_SA_refuse (Cond.code y_SA_refuse prog_1_method_63_code 1 none) rvU 9 1 6 [.ref (kA K (1100 + v0))] M (fn_SA_refuse v0 M) := by
  refine CTp_of (L := L_SA_refuse) (lc := [(0, .ref (kA K (1100 + v0)))]) (by decide +kernel) dec_SA_refuse hl rfl (Nat.le_of_ble_eq_true rfl) (fun X hX => ?_)
  unfold fn_SA_refuse
  refine VV_grd (fun hv0 => ?_)
  refine V_aload_n hX (j := 0) (hj := rfl) 0 1 rfl rfl ?_
  refine V_fault hX 1 4 1 (by decide) rfl fk_SA_392 rfl rfl ?_
  refine V_acmpN hX 2 7 18 hv0 (by decide) rfl rfl (by decide) (fun c4 => ?_) (fun c4 => ?_)
  · refine V_aload_n hX (j := 0) (hj := rfl) 8 19 rfl rfl ?_
    refine V_fault hX 9 22 2 (by decide) rfl fk_SA_400 rfl rfl ?_
    refine V_acmpN hX 10 25 36 hv0 (by decide) rfl rfl (by decide) (fun c22 => ?_) (fun c22 => ?_)
    · refine V_aload_n hX (j := 0) (hj := rfl) 16 37 rfl rfl ?_
      refine V_fault hX 17 40 3 (by decide) rfl fk_SA_405 rfl rfl ?_
      refine V_acmpN hX 18 43 54 hv0 (by decide) rfl rfl (by decide) (fun c40 => ?_) (fun c40 => ?_)
      · exact V_vret hX 24 rfl (Nat.le_of_ble_eq_true rfl) (Nat.le_of_ble_eq_true rfl) rfl
      · exact V_throw hX 19 2 th_2_332_336 tx_408 (Nat.le_of_ble_eq_true rfl) (Nat.le_of_ble_eq_true rfl) (Nat.le_of_ble_eq_true rfl) (Nat.le_of_ble_eq_true rfl) rfl rfl rfl rfl rfl
    · exact V_throw hX 11 1 th_1_324_328 tx_403 (Nat.le_of_ble_eq_true rfl) (Nat.le_of_ble_eq_true rfl) (Nat.le_of_ble_eq_true rfl) (Nat.le_of_ble_eq_true rfl) rfl rfl rfl rfl rfl
  · exact V_throw hX 3 0 th_0_315_319 tx_398 (Nat.le_of_ble_eq_true rfl) (Nat.le_of_ble_eq_true rfl) (Nat.le_of_ble_eq_true rfl) (Nat.le_of_ble_eq_true rfl) rfl rfl rfl rfl rfl
set_option maxRecDepth 20000 in
theorem ct_SA_change {l : Launch} (hl : l.stackTraces = false) (K : KT) (v1 : Nat) (v2 : Int32) (v3 : Int32) (v4 : Int32) (M : Mm) : CTp l K y_SA_change (Cond.code y_SA_change prog_1_method_62_code 5 (some .int)) rvI 10 1 6 [.ref (kA K 0), .ref (kA K (1000 + v1)), .int v2, .int v3, .int v4] M (fn_SA_change v1 v2 v3 v4 M) := by
  refine CTp_of (L := L_SA_change) (lc := [(0, .ref (kA K 0)), (1, .ref (kA K (1000 + v1))), (2, .int v2), (3, .int v3), (4, .int v4)]) (by decide +kernel) dec_SA_change hl rfl (Nat.le_of_ble_eq_true rfl) (fun X hX => ?_)
  unfold fn_SA_change
  refine VV_grd (fun hv1 => ?_)
  refine V_aload_n hX (j := 0) (hj := rfl) 0 1 rfl rfl ?_
  refine V_get hX 1 4 0 (.ref (kA K 1)) fl_SA_12 rfl rfl (by decide) (ent_0 K _) rfl ?_
  refine V_aload_n hX (j := 1) (hj := rfl) 2 5 rfl rfl ?_
  refine V_iload_n hX (j := 2) (hj := rfl) 3 6 rfl rfl ?_
  refine V_iload_n hX (j := 3) (hj := rfl) 4 7 rfl rfl ?_
  refine V_iload hX (j := 4) (hj := rfl) 5 9 rfl rfl ?_
  refine V_callL hX 12 0 0 rfl rfl rfl (Nat.le_of_ble_eq_true rfl) (Nat.le_of_ble_eq_true rfl) (VR_V hX 6 (ct_St_faultOf (cx_t hX) K v1 v2 v3 v4 M) my_St_faultOf mi_St_faultOf ms_St_faultOf ml_SA_378 (Nat.le_of_ble_eq_true rfl) (Nat.le_of_ble_eq_true rfl) (by decide) (ent_1 K _) rfl rfl rfl (Nat.le_of_ble_eq_true rfl) rfl (Nat.le_of_ble_eq_true rfl) (Nat.le_of_ble_eq_true rfl)) (fun r9 M9 => VV_grd (fun hr9 => ?_))
  refine V_callU hX 15 1 6 rfl rfl rfl (Nat.le_of_ble_eq_true rfl) (Nat.le_of_ble_eq_true rfl) (VR_S hX 7 (ct_SA_refuse (cx_t hX) K r9 M9) my_SA_refuse mt_SA_refuse ml_SA_382 (Nat.le_of_ble_eq_true rfl) (Nat.le_of_ble_eq_true rfl) rfl rfl (Nat.le_of_ble_eq_true rfl) rfl (Nat.le_of_ble_eq_true rfl) (Nat.le_of_ble_eq_true rfl)) (fun r12 M12 => ?_)
  refine V_aload_n hX (j := 0) (hj := rfl) 8 16 rfl rfl ?_
  refine V_get hX 9 19 0 (.ref (kA K 12)) fl_SA_19 rfl rfl (by decide) (ent_0 K _) rfl ?_
  refine V_aload_n hX (j := 0) (hj := rfl) 10 20 rfl rfl ?_
  refine V_get hX 11 23 0 (.ref (kA K 1)) fl_SA_12 rfl rfl (by decide) (ent_0 K _) rfl ?_
  refine V_callU hX 26 1 6 rfl rfl rfl (Nat.le_of_ble_eq_true rfl) (Nat.le_of_ble_eq_true rfl) (VR_V hX 12 (ct_Hi_keep (cx_t hX) K M12) my_Hi_keep mi_Hi_keep ms_Hi_keep ml_SA_386 (Nat.le_of_ble_eq_true rfl) (Nat.le_of_ble_eq_true rfl) (by decide) (ent_12 K _) rfl rfl rfl (Nat.le_of_ble_eq_true rfl) rfl (Nat.le_of_ble_eq_true rfl) (Nat.le_of_ble_eq_true rfl)) (fun r23 M23 => ?_)
  refine V_aload_n hX (j := 0) (hj := rfl) 13 27 rfl rfl ?_
  refine V_get hX 14 30 0 (.ref (kA K 1)) fl_SA_12 rfl rfl (by decide) (ent_0 K _) rfl ?_
  refine V_aload_n hX (j := 1) (hj := rfl) 15 31 rfl rfl ?_
  refine V_iload_n hX (j := 2) (hj := rfl) 16 32 rfl rfl ?_
  refine V_iload_n hX (j := 3) (hj := rfl) 17 33 rfl rfl ?_
  refine V_iload hX (j := 4) (hj := rfl) 18 35 rfl rfl ?_
  refine V_callI hX 38 1 6 rfl rfl rfl (Nat.le_of_ble_eq_true rfl) (Nat.le_of_ble_eq_true rfl) (VR_V hX 19 (ct_St_apply (cx_t hX) K v1 v2 v3 v4 M23) my_St_apply mi_St_apply ms_St_apply ml_SA_389 (Nat.le_of_ble_eq_true rfl) (Nat.le_of_ble_eq_true rfl) (by decide) (ent_1 K _) rfl rfl rfl (Nat.le_of_ble_eq_true rfl) rfl (Nat.le_of_ble_eq_true rfl) (Nat.le_of_ble_eq_true rfl)) (fun r35 M35 => ?_)
  exact V_iret hX 20 rfl (Nat.le_of_ble_eq_true rfl) (Nat.le_of_ble_eq_true rfl) rfl
set_option maxRecDepth 20000 in
theorem ct_SA_append {l : Launch} (hl : l.stackTraces = false) (K : KT) (v1 : Int32) (v2 : Int32) (M : Mm) : CTp l K y_SA_append (Cond.code y_SA_append prog_1_method_2_code 3 (some .int)) rvI 11 1 6 [.ref (kA K 0), .int v1, .int v2] M (fn_SA_append v1 v2 M) := by
  refine CTp_of (L := L_SA_append) (lc := [(0, .ref (kA K 0)), (1, .int v1), (2, .int v2)]) (by decide +kernel) dec_SA_append hl rfl (Nat.le_of_ble_eq_true rfl) (fun X hX => ?_)
  unfold fn_SA_append
  refine V_aload_n hX (j := 0) (hj := rfl) 0 1 rfl rfl ?_
  refine V_kind hX 1 4 0 (by decide) rfl fk_SA_79 rfl rfl ?_
  refine V_iload_n hX (j := 1) (hj := rfl) 2 5 rfl rfl ?_
  refine V_iload_n hX (j := 2) (hj := rfl) 3 6 rfl rfl ?_
  refine V_iconst hX (v := 0) (hv := by decide) 4 7 rfl rfl ?_
  refine V_callI hX 10 1 6 rfl rfl rfl (Nat.le_of_ble_eq_true rfl) (Nat.le_of_ble_eq_true rfl) (VR_V hX 5 (ct_SA_change (cx_t hX) K 0 v1 v2 0 M) my_SA_change mi_SA_change ms_SA_change ml_SA_85 (Nat.le_of_ble_eq_true rfl) (Nat.le_of_ble_eq_true rfl) (by decide) (ent_0 K _) rfl rfl rfl (Nat.le_of_ble_eq_true rfl) rfl (Nat.le_of_ble_eq_true rfl) (Nat.le_of_ble_eq_true rfl)) (fun r7 M7 => ?_)
  exact V_iret hX 6 rfl (Nat.le_of_ble_eq_true rfl) (Nat.le_of_ble_eq_true rfl) rfl
set_option maxRecDepth 20000 in
theorem ct_SA_setValue {l : Launch} (hl : l.stackTraces = false) (K : KT) (v1 : Int32) (v2 : Int32) (v3 : Int32) (M : Mm) : CTp l K y_SA_setValue (Cond.code y_SA_setValue prog_1_method_3_code 4 (some .int)) rvI 11 1 6 [.ref (kA K 0), .int v1, .int v2, .int v3] M (fn_SA_setValue v1 v2 v3 M) := by
  refine CTp_of (L := L_SA_setValue) (lc := [(0, .ref (kA K 0)), (1, .int v1), (2, .int v2), (3, .int v3)]) (by decide +kernel) dec_SA_setValue hl rfl (Nat.le_of_ble_eq_true rfl) (fun X hX => ?_)
  unfold fn_SA_setValue
  refine V_aload_n hX (j := 0) (hj := rfl) 0 1 rfl rfl ?_
  refine V_kind hX 1 4 1 (by decide) rfl fk_SA_89 rfl rfl ?_
  refine V_iload_n hX (j := 1) (hj := rfl) 2 5 rfl rfl ?_
  refine V_iload_n hX (j := 2) (hj := rfl) 3 6 rfl rfl ?_
  refine V_iload_n hX (j := 3) (hj := rfl) 4 7 rfl rfl ?_
  refine V_callI hX 10 1 6 rfl rfl rfl (Nat.le_of_ble_eq_true rfl) (Nat.le_of_ble_eq_true rfl) (VR_V hX 5 (ct_SA_change (cx_t hX) K 1 v1 v2 v3 M) my_SA_change mi_SA_change ms_SA_change ml_SA_85 (Nat.le_of_ble_eq_true rfl) (Nat.le_of_ble_eq_true rfl) (by decide) (ent_0 K _) rfl rfl rfl (Nat.le_of_ble_eq_true rfl) rfl (Nat.le_of_ble_eq_true rfl) (Nat.le_of_ble_eq_true rfl)) (fun r7 M7 => ?_)
  exact V_iret hX 6 rfl (Nat.le_of_ble_eq_true rfl) (Nat.le_of_ble_eq_true rfl) rfl
set_option maxRecDepth 20000 in
theorem ct_SA_removeFirst {l : Launch} (hl : l.stackTraces = false) (K : KT) (v1 : Int32) (v2 : Int32) (M : Mm) : CTp l K y_SA_removeFirst (Cond.code y_SA_removeFirst prog_1_method_4_code 3 (some .int)) rvI 11 1 6 [.ref (kA K 0), .int v1, .int v2] M (fn_SA_removeFirst v1 v2 M) := by
  refine CTp_of (L := L_SA_removeFirst) (lc := [(0, .ref (kA K 0)), (1, .int v1), (2, .int v2)]) (by decide +kernel) dec_SA_removeFirst hl rfl (Nat.le_of_ble_eq_true rfl) (fun X hX => ?_)
  unfold fn_SA_removeFirst
  refine V_aload_n hX (j := 0) (hj := rfl) 0 1 rfl rfl ?_
  refine V_kind hX 1 4 2 (by decide) rfl fk_SA_92 rfl rfl ?_
  refine V_iload_n hX (j := 1) (hj := rfl) 2 5 rfl rfl ?_
  refine V_iload_n hX (j := 2) (hj := rfl) 3 6 rfl rfl ?_
  refine V_iconst hX (v := 0) (hv := by decide) 4 7 rfl rfl ?_
  refine V_callI hX 10 1 6 rfl rfl rfl (Nat.le_of_ble_eq_true rfl) (Nat.le_of_ble_eq_true rfl) (VR_V hX 5 (ct_SA_change (cx_t hX) K 2 v1 v2 0 M) my_SA_change mi_SA_change ms_SA_change ml_SA_85 (Nat.le_of_ble_eq_true rfl) (Nat.le_of_ble_eq_true rfl) (by decide) (ent_0 K _) rfl rfl rfl (Nat.le_of_ble_eq_true rfl) rfl (Nat.le_of_ble_eq_true rfl) (Nat.le_of_ble_eq_true rfl)) (fun r7 M7 => ?_)
  exact V_iret hX 6 rfl (Nat.le_of_ble_eq_true rfl) (Nat.le_of_ble_eq_true rfl) rfl
set_option maxRecDepth 20000 in
theorem ct_SA_copy {l : Launch} (hl : l.stackTraces = false) (K : KT) (v1 : Int32) (v2 : Int32) (M : Mm) : CTp l K y_SA_copy (Cond.code y_SA_copy prog_1_method_5_code 3 (some .int)) rvI 11 1 6 [.ref (kA K 0), .int v1, .int v2] M (fn_SA_copy v1 v2 M) := by
  refine CTp_of (L := L_SA_copy) (lc := [(0, .ref (kA K 0)), (1, .int v1), (2, .int v2)]) (by decide +kernel) dec_SA_copy hl rfl (Nat.le_of_ble_eq_true rfl) (fun X hX => ?_)
  unfold fn_SA_copy
  refine V_aload_n hX (j := 0) (hj := rfl) 0 1 rfl rfl ?_
  refine V_kind hX 1 4 3 (by decide) rfl fk_SA_95 rfl rfl ?_
  refine V_iload_n hX (j := 1) (hj := rfl) 2 5 rfl rfl ?_
  refine V_iload_n hX (j := 2) (hj := rfl) 3 6 rfl rfl ?_
  refine V_iconst hX (v := 0) (hv := by decide) 4 7 rfl rfl ?_
  refine V_callI hX 10 1 6 rfl rfl rfl (Nat.le_of_ble_eq_true rfl) (Nat.le_of_ble_eq_true rfl) (VR_V hX 5 (ct_SA_change (cx_t hX) K 3 v1 v2 0 M) my_SA_change mi_SA_change ms_SA_change ml_SA_85 (Nat.le_of_ble_eq_true rfl) (Nat.le_of_ble_eq_true rfl) (by decide) (ent_0 K _) rfl rfl rfl (Nat.le_of_ble_eq_true rfl) rfl (Nat.le_of_ble_eq_true rfl) (Nat.le_of_ble_eq_true rfl)) (fun r7 M7 => ?_)
  exact V_iret hX 6 rfl (Nat.le_of_ble_eq_true rfl) (Nat.le_of_ble_eq_true rfl) rfl
set_option maxRecDepth 20000 in
theorem ct_SA_reverse {l : Launch} (hl : l.stackTraces = false) (K : KT) (v1 : Int32) (M : Mm) : CTp l K y_SA_reverse (Cond.code y_SA_reverse prog_1_method_6_code 2 (some .int)) rvI 11 1 6 [.ref (kA K 0), .int v1] M (fn_SA_reverse v1 M) := by
  refine CTp_of (L := L_SA_reverse) (lc := [(0, .ref (kA K 0)), (1, .int v1)]) (by decide +kernel) dec_SA_reverse hl rfl (Nat.le_of_ble_eq_true rfl) (fun X hX => ?_)
  unfold fn_SA_reverse
  refine V_aload_n hX (j := 0) (hj := rfl) 0 1 rfl rfl ?_
  refine V_kind hX 1 4 4 (by decide) rfl fk_SA_98 rfl rfl ?_
  refine V_iload_n hX (j := 1) (hj := rfl) 2 5 rfl rfl ?_
  refine V_iconst hX (v := 0) (hv := by decide) 3 6 rfl rfl ?_
  refine V_iconst hX (v := 0) (hv := by decide) 4 7 rfl rfl ?_
  refine V_callI hX 10 1 6 rfl rfl rfl (Nat.le_of_ble_eq_true rfl) (Nat.le_of_ble_eq_true rfl) (VR_V hX 5 (ct_SA_change (cx_t hX) K 4 v1 0 0 M) my_SA_change mi_SA_change ms_SA_change ml_SA_85 (Nat.le_of_ble_eq_true rfl) (Nat.le_of_ble_eq_true rfl) (by decide) (ent_0 K _) rfl rfl rfl (Nat.le_of_ble_eq_true rfl) rfl (Nat.le_of_ble_eq_true rfl) (Nat.le_of_ble_eq_true rfl)) (fun r7 M7 => ?_)
  exact V_iret hX 6 rfl (Nat.le_of_ble_eq_true rfl) (Nat.le_of_ble_eq_true rfl) rfl
set_option maxRecDepth 20000 in
theorem ct_SA_shift {l : Launch} (hl : l.stackTraces = false) (K : KT) (v1 : Int32) (v2 : Int32) (M : Mm) : CTp l K y_SA_shift (Cond.code y_SA_shift prog_1_method_7_code 3 (some .int)) rvI 11 1 6 [.ref (kA K 0), .int v1, .int v2] M (fn_SA_shift v1 v2 M) := by
  refine CTp_of (L := L_SA_shift) (lc := [(0, .ref (kA K 0)), (1, .int v1), (2, .int v2)]) (by decide +kernel) dec_SA_shift hl rfl (Nat.le_of_ble_eq_true rfl) (fun X hX => ?_)
  unfold fn_SA_shift
  refine V_aload_n hX (j := 0) (hj := rfl) 0 1 rfl rfl ?_
  refine V_kind hX 1 4 5 (by decide) rfl fk_SA_101 rfl rfl ?_
  refine V_iload_n hX (j := 1) (hj := rfl) 2 5 rfl rfl ?_
  refine V_iload_n hX (j := 2) (hj := rfl) 3 6 rfl rfl ?_
  refine V_iconst hX (v := 0) (hv := by decide) 4 7 rfl rfl ?_
  refine V_callI hX 10 1 6 rfl rfl rfl (Nat.le_of_ble_eq_true rfl) (Nat.le_of_ble_eq_true rfl) (VR_V hX 5 (ct_SA_change (cx_t hX) K 5 v1 v2 0 M) my_SA_change mi_SA_change ms_SA_change ml_SA_85 (Nat.le_of_ble_eq_true rfl) (Nat.le_of_ble_eq_true rfl) (by decide) (ent_0 K _) rfl rfl rfl (Nat.le_of_ble_eq_true rfl) rfl (Nat.le_of_ble_eq_true rfl) (Nat.le_of_ble_eq_true rfl)) (fun r7 M7 => ?_)
  exact V_iret hX 6 rfl (Nat.le_of_ble_eq_true rfl) (Nat.le_of_ble_eq_true rfl) rfl
set_option maxRecDepth 20000 in
theorem ct_SA_smooth {l : Launch} (hl : l.stackTraces = false) (K : KT) (v1 : Int32) (v2 : Int32) (M : Mm) : CTp l K y_SA_smooth (Cond.code y_SA_smooth prog_1_method_8_code 3 (some .int)) rvI 11 1 6 [.ref (kA K 0), .int v1, .int v2] M (fn_SA_smooth v1 v2 M) := by
  refine CTp_of (L := L_SA_smooth) (lc := [(0, .ref (kA K 0)), (1, .int v1), (2, .int v2)]) (by decide +kernel) dec_SA_smooth hl rfl (Nat.le_of_ble_eq_true rfl) (fun X hX => ?_)
  unfold fn_SA_smooth
  refine V_aload_n hX (j := 0) (hj := rfl) 0 1 rfl rfl ?_
  refine V_kind hX 1 4 6 (by decide) rfl fk_SA_104 rfl rfl ?_
  refine V_iload_n hX (j := 1) (hj := rfl) 2 5 rfl rfl ?_
  refine V_iload_n hX (j := 2) (hj := rfl) 3 6 rfl rfl ?_
  refine V_iconst hX (v := 0) (hv := by decide) 4 7 rfl rfl ?_
  refine V_callI hX 10 1 6 rfl rfl rfl (Nat.le_of_ble_eq_true rfl) (Nat.le_of_ble_eq_true rfl) (VR_V hX 5 (ct_SA_change (cx_t hX) K 6 v1 v2 0 M) my_SA_change mi_SA_change ms_SA_change ml_SA_85 (Nat.le_of_ble_eq_true rfl) (Nat.le_of_ble_eq_true rfl) (by decide) (ent_0 K _) rfl rfl rfl (Nat.le_of_ble_eq_true rfl) rfl (Nat.le_of_ble_eq_true rfl) (Nat.le_of_ble_eq_true rfl)) (fun r7 M7 => ?_)
  exact V_iret hX 6 rfl (Nat.le_of_ble_eq_true rfl) (Nat.le_of_ble_eq_true rfl) rfl
set_option maxRecDepth 20000 in
theorem ct_SA_toSteps {l : Launch} (hl : l.stackTraces = false) (K : KT) (v1 : Int32) (M : Mm) : CTp l K y_SA_toSteps (Cond.code y_SA_toSteps prog_1_method_9_code 2 (some .int)) rvI 11 1 6 [.ref (kA K 0), .int v1] M (fn_SA_toSteps v1 M) := by
  refine CTp_of (L := L_SA_toSteps) (lc := [(0, .ref (kA K 0)), (1, .int v1)]) (by decide +kernel) dec_SA_toSteps hl rfl (Nat.le_of_ble_eq_true rfl) (fun X hX => ?_)
  unfold fn_SA_toSteps
  refine V_aload_n hX (j := 0) (hj := rfl) 0 1 rfl rfl ?_
  refine V_kind hX 1 4 7 (by decide) rfl fk_SA_107 rfl rfl ?_
  refine V_iload_n hX (j := 1) (hj := rfl) 2 5 rfl rfl ?_
  refine V_iconst hX (v := 0) (hv := by decide) 3 6 rfl rfl ?_
  refine V_iconst hX (v := 0) (hv := by decide) 4 7 rfl rfl ?_
  refine V_callI hX 10 1 6 rfl rfl rfl (Nat.le_of_ble_eq_true rfl) (Nat.le_of_ble_eq_true rfl) (VR_V hX 5 (ct_SA_change (cx_t hX) K 7 v1 0 0 M) my_SA_change mi_SA_change ms_SA_change ml_SA_85 (Nat.le_of_ble_eq_true rfl) (Nat.le_of_ble_eq_true rfl) (by decide) (ent_0 K _) rfl rfl rfl (Nat.le_of_ble_eq_true rfl) rfl (Nat.le_of_ble_eq_true rfl) (Nat.le_of_ble_eq_true rfl)) (fun r7 M7 => ?_)
  exact V_iret hX 6 rfl (Nat.le_of_ble_eq_true rfl) (Nat.le_of_ble_eq_true rfl) rfl
set_option maxRecDepth 20000 in
theorem ct_SA_clip {l : Launch} (hl : l.stackTraces = false) (K : KT) (v1 : Int32) (v2 : Int32) (v3 : Int32) (M : Mm) : CTp l K y_SA_clip (Cond.code y_SA_clip prog_1_method_10_code 4 (some .int)) rvI 11 1 6 [.ref (kA K 0), .int v1, .int v2, .int v3] M (fn_SA_clip v1 v2 v3 M) := by
  refine CTp_of (L := L_SA_clip) (lc := [(0, .ref (kA K 0)), (1, .int v1), (2, .int v2), (3, .int v3)]) (by decide +kernel) dec_SA_clip hl rfl (Nat.le_of_ble_eq_true rfl) (fun X hX => ?_)
  unfold fn_SA_clip
  refine V_aload_n hX (j := 0) (hj := rfl) 0 1 rfl rfl ?_
  refine V_kind hX 1 4 8 (by decide) rfl fk_SA_110 rfl rfl ?_
  refine V_iload_n hX (j := 1) (hj := rfl) 2 5 rfl rfl ?_
  refine V_iload_n hX (j := 2) (hj := rfl) 3 6 rfl rfl ?_
  refine V_iload_n hX (j := 3) (hj := rfl) 4 7 rfl rfl ?_
  refine V_callI hX 10 1 6 rfl rfl rfl (Nat.le_of_ble_eq_true rfl) (Nat.le_of_ble_eq_true rfl) (VR_V hX 5 (ct_SA_change (cx_t hX) K 8 v1 v2 v3 M) my_SA_change mi_SA_change ms_SA_change ml_SA_85 (Nat.le_of_ble_eq_true rfl) (Nat.le_of_ble_eq_true rfl) (by decide) (ent_0 K _) rfl rfl rfl (Nat.le_of_ble_eq_true rfl) rfl (Nat.le_of_ble_eq_true rfl) (Nat.le_of_ble_eq_true rfl)) (fun r7 M7 => ?_)
  exact V_iret hX 6 rfl (Nat.le_of_ble_eq_true rfl) (Nat.le_of_ble_eq_true rfl) rfl
set_option maxRecDepth 20000 in
theorem ct_SA_seriesIn {l : Launch} (hl : l.stackTraces = false) (K : KT) (v1 : Int32) (M : Mm) : CTp l K y_SA_seriesIn (Cond.code y_SA_seriesIn prog_1_method_65_code 2 (some (.object "SeriesArchive$Series"))) (fun z => some (.ref (kA K z))) 9 1 6 [.ref (kA K 0), .int v1] M (fn_SA_seriesIn v1 M) := by
  refine CTp_of (L := L_SA_seriesIn) (lc := [(0, .ref (kA K 0)), (1, .int v1)]) (by decide +kernel) dec_SA_seriesIn hl rfl (Nat.le_of_ble_eq_true rfl) (fun X hX => ?_)
  unfold fn_SA_seriesIn
  refine V_iload_n hX (j := 1) (hj := rfl) 0 1 rfl rfl ?_
  refine V_callI hX 4 0 0 rfl rfl rfl (Nat.le_of_ble_eq_true rfl) (Nat.le_of_ble_eq_true rfl) (VR_S hX 1 (ct_SA_isSlot (cx_t hX) K v1 M) my_SA_isSlot mt_SA_isSlot ml_SA_427 (Nat.le_of_ble_eq_true rfl) (Nat.le_of_ble_eq_true rfl) rfl rfl (Nat.le_of_ble_eq_true rfl) rfl (Nat.le_of_ble_eq_true rfl) (Nat.le_of_ble_eq_true rfl)) (fun r1 M1 => ?_)
  refine V_if_ne hX 2 7 18 rfl rfl (by decide) (fun c4 => ?_) (fun c4 => ?_)
  · refine V_aload_n hX (j := 0) (hj := rfl) 8 19 rfl rfl ?_
    refine V_get hX 9 22 0 (.ref (kA K 1)) fl_SA_12 rfl rfl (by decide) (ent_0 K _) rfl ?_
    refine V_iload_n hX (j := 1) (hj := rfl) 10 23 rfl rfl ?_
    refine V_callL hX 26 0 0 rfl rfl rfl (Nat.le_of_ble_eq_true rfl) (Nat.le_of_ble_eq_true rfl) (VR_V hX 11 (ct_St_at (cx_t hX) K v1 M1) my_St_at mi_St_at ms_St_at ml_SA_265 (Nat.le_of_ble_eq_true rfl) (Nat.le_of_ble_eq_true rfl) (by decide) (ent_1 K _) rfl rfl rfl (Nat.le_of_ble_eq_true rfl) rfl (Nat.le_of_ble_eq_true rfl) (Nat.le_of_ble_eq_true rfl)) (fun r23 M23 => VV_grd (fun hr23 => ?_))
    exact V_aret hX 12 "SeriesArchive$Series" rfl rfl (Nat.le_of_ble_eq_true rfl) (Nat.le_of_ble_eq_true rfl) rfl
  · exact V_throw hX 3 0 th_0_315_319 tx_430 (Nat.le_of_ble_eq_true rfl) (Nat.le_of_ble_eq_true rfl) (Nat.le_of_ble_eq_true rfl) (Nat.le_of_ble_eq_true rfl) rfl rfl rfl rfl rfl
set_option maxRecDepth 20000 in
theorem ct_SA_length {l : Launch} (hl : l.stackTraces = false) (K : KT) (v1 : Int32) (M : Mm) : CTp l K y_SA_length (Cond.code y_SA_length prog_1_method_11_code 2 (some .int)) rvI 10 1 6 [.ref (kA K 0), .int v1] M (fn_SA_length v1 M) := by
  refine CTp_of (L := L_SA_length) (lc := [(0, .ref (kA K 0)), (1, .int v1)]) (by decide +kernel) dec_SA_length hl rfl (Nat.le_of_ble_eq_true rfl) (fun X hX => ?_)
  unfold fn_SA_length
  refine V_aload_n hX (j := 0) (hj := rfl) 0 1 rfl rfl ?_
  refine V_iload_n hX (j := 1) (hj := rfl) 1 2 rfl rfl ?_
  refine V_callL hX 5 1 6 rfl rfl rfl (Nat.le_of_ble_eq_true rfl) (Nat.le_of_ble_eq_true rfl) (VR_V hX 2 (ct_SA_seriesIn (cx_t hX) K v1 M) my_SA_seriesIn mi_SA_seriesIn ms_SA_seriesIn ml_SA_113 (Nat.le_of_ble_eq_true rfl) (Nat.le_of_ble_eq_true rfl) (by decide) (ent_0 K _) rfl rfl rfl (Nat.le_of_ble_eq_true rfl) rfl (Nat.le_of_ble_eq_true rfl) (Nat.le_of_ble_eq_true rfl)) (fun r2 M2 => VV_grd (fun hr2 => ?_))
  refine V_callI hX 8 1 6 rfl rfl rfl (Nat.le_of_ble_eq_true rfl) (Nat.le_of_ble_eq_true rfl) (VR_V hX 3 (ct_Se_size (cx_t hX) K r2 M2) my_Se_size mi_Se_size ms_Se_size ml_SA_117 (Nat.le_of_ble_eq_true rfl) (Nat.le_of_ble_eq_true rfl) (loc_ser hr2) (ent_ser K _ hr2) rfl rfl rfl (Nat.le_of_ble_eq_true rfl) rfl (Nat.le_of_ble_eq_true rfl) (Nat.le_of_ble_eq_true rfl)) (fun r5 M5 => ?_)
  exact V_iret hX 4 rfl (Nat.le_of_ble_eq_true rfl) (Nat.le_of_ble_eq_true rfl) rfl
set_option maxRecDepth 20000 in
theorem ct_SA_seriesWith {l : Launch} (hl : l.stackTraces = false) (K : KT) (v1 : Int32) (v2 : Int32) (M : Mm) : CTp l K y_SA_seriesWith (Cond.code y_SA_seriesWith prog_1_method_66_code 4 (some (.object "SeriesArchive$Series"))) (fun z => some (.ref (kA K z))) 10 2 12 [.ref (kA K 0), .int v1, .int v2] M (fn_SA_seriesWith v1 v2 M) := by
  refine CTp_of (L := L_SA_seriesWith) (lc := [(0, .ref (kA K 0)), (1, .int v1), (2, .int v2)]) (by decide +kernel) dec_SA_seriesWith hl rfl (Nat.le_of_ble_eq_true rfl) (fun X hX => ?_)
  unfold fn_SA_seriesWith
  refine V_aload_n hX (j := 0) (hj := rfl) 0 1 rfl rfl ?_
  refine V_iload_n hX (j := 1) (hj := rfl) 1 2 rfl rfl ?_
  refine V_callL hX 5 1 6 rfl rfl rfl (Nat.le_of_ble_eq_true rfl) (Nat.le_of_ble_eq_true rfl) (VR_V hX 2 (ct_SA_seriesIn (cx_t hX) K v1 M) my_SA_seriesIn mi_SA_seriesIn ms_SA_seriesIn ml_SA_113 (Nat.le_of_ble_eq_true rfl) (Nat.le_of_ble_eq_true rfl) (by decide) (ent_0 K _) rfl rfl rfl (Nat.le_of_ble_eq_true rfl) rfl (Nat.le_of_ble_eq_true rfl) (Nat.le_of_ble_eq_true rfl)) (fun r2 M2 => VV_grd (fun hr2 => ?_))
  refine V_astore_n hX 3 6 [(3, .ref (kA K r2)), (0, .ref (kA K 0)), (1, .int v1), (2, .int v2)] rfl rfl (Nat.le_of_ble_eq_true rfl) rfl ?_
  refine V_aload_n hX (j := 0) (hj := rfl) 4 7 rfl rfl ?_
  refine V_iload_n hX (j := 3) (hj := rfl) 5 8 rfl rfl ?_
  refine V_callI hX 11 1 6 rfl rfl rfl (Nat.le_of_ble_eq_true rfl) (Nat.le_of_ble_eq_true rfl) (VR_V hX 6 (ct_Se_has (cx_t hX) K r2 v2 M2) my_Se_has mi_Se_has ms_Se_has ml_SA_152 (Nat.le_of_ble_eq_true rfl) (Nat.le_of_ble_eq_true rfl) (loc_ser hr2) (ent_ser K _ hr2) rfl rfl rfl (Nat.le_of_ble_eq_true rfl) rfl (Nat.le_of_ble_eq_true rfl) (Nat.le_of_ble_eq_true rfl)) (fun r8 M8 => ?_)
  refine V_if_ne hX 7 14 25 rfl rfl (by decide) (fun c11 => ?_) (fun c11 => ?_)
  · refine V_aload_n hX (j := 0) (hj := rfl) 13 26 rfl rfl ?_
    exact V_aret hX 14 "SeriesArchive$Series" rfl rfl (Nat.le_of_ble_eq_true rfl) (Nat.le_of_ble_eq_true rfl) rfl
  · exact V_throw hX 8 0 th_0_315_319 tx_432 (Nat.le_of_ble_eq_true rfl) (Nat.le_of_ble_eq_true rfl) (Nat.le_of_ble_eq_true rfl) (Nat.le_of_ble_eq_true rfl) rfl rfl rfl rfl rfl
set_option maxRecDepth 20000 in
theorem ct_SA_value {l : Launch} (hl : l.stackTraces = false) (K : KT) (v1 : Int32) (v2 : Int32) (M : Mm) : CTp l K y_SA_value (Cond.code y_SA_value prog_1_method_12_code 3 (some .int)) rvI 11 2 12 [.ref (kA K 0), .int v1, .int v2] M (fn_SA_value v1 v2 M) := by
  refine CTp_of (L := L_SA_value) (lc := [(0, .ref (kA K 0)), (1, .int v1), (2, .int v2)]) (by decide +kernel) dec_SA_value hl rfl (Nat.le_of_ble_eq_true rfl) (fun X hX => ?_)
  unfold fn_SA_value
  refine V_aload_n hX (j := 0) (hj := rfl) 0 1 rfl rfl ?_
  refine V_iload_n hX (j := 1) (hj := rfl) 1 2 rfl rfl ?_
  refine V_iload_n hX (j := 2) (hj := rfl) 2 3 rfl rfl ?_
  refine V_callL hX 6 2 12 rfl rfl rfl (Nat.le_of_ble_eq_true rfl) (Nat.le_of_ble_eq_true rfl) (VR_V hX 3 (ct_SA_seriesWith (cx_t hX) K v1 v2 M) my_SA_seriesWith mi_SA_seriesWith ms_SA_seriesWith ml_SA_123 (Nat.le_of_ble_eq_true rfl) (Nat.le_of_ble_eq_true rfl) (by decide) (ent_0 K _) rfl rfl rfl (Nat.le_of_ble_eq_true rfl) rfl (Nat.le_of_ble_eq_true rfl) (Nat.le_of_ble_eq_true rfl)) (fun r3 M3 => VV_grd (fun hr3 => ?_))
  refine V_iload_n hX (j := 2) (hj := rfl) 4 7 rfl rfl ?_
  refine V_callI hX 10 2 12 rfl rfl rfl (Nat.le_of_ble_eq_true rfl) (Nat.le_of_ble_eq_true rfl) (VR_V hX 5 (ct_Se_at (cx_t hX) K r3 v2 M3) my_Se_at mi_Se_at ms_Se_at ml_SA_127 (Nat.le_of_ble_eq_true rfl) (Nat.le_of_ble_eq_true rfl) (loc_ser hr3) (ent_ser K _ hr3) rfl rfl rfl (Nat.le_of_ble_eq_true rfl) rfl (Nat.le_of_ble_eq_true rfl) (Nat.le_of_ble_eq_true rfl)) (fun r7 M7 => ?_)
  exact V_iret hX 6 rfl (Nat.le_of_ble_eq_true rfl) (Nat.le_of_ble_eq_true rfl) rfl
set_option maxRecDepth 20000 in
theorem ct_SA_seriesWithRange {l : Launch} (hl : l.stackTraces = false) (K : KT) (v1 : Int32) (v2 : Int32) (v3 : Int32) (M : Mm) : CTp l K y_SA_seriesWithRange (Cond.code y_SA_seriesWithRange prog_1_method_67_code 5 (some (.object "SeriesArchive$Series"))) (fun z => some (.ref (kA K z))) 10 2 12 [.ref (kA K 0), .int v1, .int v2, .int v3] M (fn_SA_seriesWithRange v1 v2 v3 M) := by
  refine CTp_of (L := L_SA_seriesWithRange) (lc := [(0, .ref (kA K 0)), (1, .int v1), (2, .int v2), (3, .int v3)]) (by decide +kernel) dec_SA_seriesWithRange hl rfl (Nat.le_of_ble_eq_true rfl) (fun X hX => ?_)
  unfold fn_SA_seriesWithRange
  refine V_aload_n hX (j := 0) (hj := rfl) 0 1 rfl rfl ?_
  refine V_iload_n hX (j := 1) (hj := rfl) 1 2 rfl rfl ?_
  refine V_callL hX 5 1 6 rfl rfl rfl (Nat.le_of_ble_eq_true rfl) (Nat.le_of_ble_eq_true rfl) (VR_V hX 2 (ct_SA_seriesIn (cx_t hX) K v1 M) my_SA_seriesIn mi_SA_seriesIn ms_SA_seriesIn ml_SA_113 (Nat.le_of_ble_eq_true rfl) (Nat.le_of_ble_eq_true rfl) (by decide) (ent_0 K _) rfl rfl rfl (Nat.le_of_ble_eq_true rfl) rfl (Nat.le_of_ble_eq_true rfl) (Nat.le_of_ble_eq_true rfl)) (fun r2 M2 => VV_grd (fun hr2 => ?_))
  refine V_astore hX 3 7 [(4, .ref (kA K r2)), (0, .ref (kA K 0)), (1, .int v1), (2, .int v2), (3, .int v3)] rfl rfl (Nat.le_of_ble_eq_true rfl) rfl ?_
  refine V_aload hX (j := 0) (hj := rfl) 4 9 rfl rfl ?_
  refine V_iload_n hX (j := 3) (hj := rfl) 5 10 rfl rfl ?_
  refine V_callI hX 13 1 6 rfl rfl rfl (Nat.le_of_ble_eq_true rfl) (Nat.le_of_ble_eq_true rfl) (VR_V hX 6 (ct_Se_has (cx_t hX) K r2 v2 M2) my_Se_has mi_Se_has ms_Se_has ml_SA_152 (Nat.le_of_ble_eq_true rfl) (Nat.le_of_ble_eq_true rfl) (loc_ser hr2) (ent_ser K _ hr2) rfl rfl rfl (Nat.le_of_ble_eq_true rfl) rfl (Nat.le_of_ble_eq_true rfl) (Nat.le_of_ble_eq_true rfl)) (fun r10 M10 => ?_)
  refine V_if_eq hX 7 16 30 rfl rfl (by decide) (fun c13 => ?_) (fun c13 => ?_)
  · exact V_throw hX 15 0 th_0_315_319 tx_434 (Nat.le_of_ble_eq_true rfl) (Nat.le_of_ble_eq_true rfl) (Nat.le_of_ble_eq_true rfl) (Nat.le_of_ble_eq_true rfl) rfl rfl rfl rfl rfl
  · refine V_aload hX (j := 0) (hj := rfl) 8 18 rfl rfl ?_
    refine V_iload_n hX (j := 4) (hj := rfl) 9 19 rfl rfl ?_
    refine V_callI hX 22 1 6 rfl rfl rfl (Nat.le_of_ble_eq_true rfl) (Nat.le_of_ble_eq_true rfl) (VR_V hX 10 (ct_Se_has (cx_t hX) K r2 v3 M10) my_Se_has mi_Se_has ms_Se_has ml_SA_152 (Nat.le_of_ble_eq_true rfl) (Nat.le_of_ble_eq_true rfl) (loc_ser hr2) (ent_ser K _ hr2) rfl rfl rfl (Nat.le_of_ble_eq_true rfl) rfl (Nat.le_of_ble_eq_true rfl) (Nat.le_of_ble_eq_true rfl)) (fun r19 M19 => ?_)
    refine V_if_eq hX 11 25 30 rfl rfl (by decide) (fun c22 => ?_) (fun c22 => ?_)
    · exact V_throw hX 15 0 th_0_315_319 tx_434 (Nat.le_of_ble_eq_true rfl) (Nat.le_of_ble_eq_true rfl) (Nat.le_of_ble_eq_true rfl) (Nat.le_of_ble_eq_true rfl) rfl rfl rfl rfl rfl
    · refine V_iload_n hX (j := 3) (hj := rfl) 12 26 rfl rfl ?_
      refine V_iload_n hX (j := 4) (hj := rfl) 13 27 rfl rfl ?_
      refine V_icmp_le hX 14 30 41 rfl rfl (by decide) (fun c27 => ?_) (fun c27 => ?_)
      · refine V_aload hX (j := 0) (hj := rfl) 20 43 rfl rfl ?_
        exact V_aret hX 21 "SeriesArchive$Series" rfl rfl (Nat.le_of_ble_eq_true rfl) (Nat.le_of_ble_eq_true rfl) rfl
      · exact V_throw hX 15 0 th_0_315_319 tx_434 (Nat.le_of_ble_eq_true rfl) (Nat.le_of_ble_eq_true rfl) (Nat.le_of_ble_eq_true rfl) (Nat.le_of_ble_eq_true rfl) rfl rfl rfl rfl rfl
set_option maxRecDepth 20000 in
theorem ct_SA_sum {l : Launch} (hl : l.stackTraces = false) (K : KT) (v1 : Int32) (v2 : Int32) (v3 : Int32) (M : Mm) : CTp l K y_SA_sum (Cond.code y_SA_sum prog_1_method_13_code 4 (some .int)) rvI 11 2 12 [.ref (kA K 0), .int v1, .int v2, .int v3] M (fn_SA_sum v1 v2 v3 M) := by
  refine CTp_of (L := L_SA_sum) (lc := [(0, .ref (kA K 0)), (1, .int v1), (2, .int v2), (3, .int v3)]) (by decide +kernel) dec_SA_sum hl rfl (Nat.le_of_ble_eq_true rfl) (fun X hX => ?_)
  unfold fn_SA_sum
  refine V_aload_n hX (j := 0) (hj := rfl) 0 1 rfl rfl ?_
  refine V_iload_n hX (j := 1) (hj := rfl) 1 2 rfl rfl ?_
  refine V_iload_n hX (j := 2) (hj := rfl) 2 3 rfl rfl ?_
  refine V_iload_n hX (j := 3) (hj := rfl) 3 4 rfl rfl ?_
  refine V_callL hX 7 2 12 rfl rfl rfl (Nat.le_of_ble_eq_true rfl) (Nat.le_of_ble_eq_true rfl) (VR_V hX 4 (ct_SA_seriesWithRange (cx_t hX) K v1 v2 v3 M) my_SA_seriesWithRange mi_SA_seriesWithRange ms_SA_seriesWithRange ml_SA_131 (Nat.le_of_ble_eq_true rfl) (Nat.le_of_ble_eq_true rfl) (by decide) (ent_0 K _) rfl rfl rfl (Nat.le_of_ble_eq_true rfl) rfl (Nat.le_of_ble_eq_true rfl) (Nat.le_of_ble_eq_true rfl)) (fun r4 M4 => VV_grd (fun hr4 => ?_))
  refine V_iload_n hX (j := 2) (hj := rfl) 5 8 rfl rfl ?_
  refine V_iload_n hX (j := 3) (hj := rfl) 6 9 rfl rfl ?_
  refine V_callI hX 12 2 12 rfl rfl rfl (Nat.le_of_ble_eq_true rfl) (Nat.le_of_ble_eq_true rfl) (VR_V hX 7 (ct_Se_total (cx_t hX) K r4 v2 v3 M4) my_Se_total mi_Se_total ms_Se_total ml_SA_135 (Nat.le_of_ble_eq_true rfl) (Nat.le_of_ble_eq_true rfl) (loc_ser hr4) (ent_ser K _ hr4) rfl rfl rfl (Nat.le_of_ble_eq_true rfl) rfl (Nat.le_of_ble_eq_true rfl) (Nat.le_of_ble_eq_true rfl)) (fun r9 M9 => ?_)
  exact V_iret hX 8 rfl (Nat.le_of_ble_eq_true rfl) (Nat.le_of_ble_eq_true rfl) rfl
set_option maxRecDepth 20000 in
theorem ct_SA_sumByTree {l : Launch} (hl : l.stackTraces = false) (K : KT) (v1 : Int32) (v2 : Int32) (v3 : Int32) (M : Mm) : CTp l K y_SA_sumByTree (Cond.code y_SA_sumByTree prog_1_method_14_code 4 (some .int)) rvI 11 2 12 [.ref (kA K 0), .int v1, .int v2, .int v3] M (fn_SA_sumByTree v1 v2 v3 M) := by
  refine CTp_of (L := L_SA_sumByTree) (lc := [(0, .ref (kA K 0)), (1, .int v1), (2, .int v2), (3, .int v3)]) (by decide +kernel) dec_SA_sumByTree hl rfl (Nat.le_of_ble_eq_true rfl) (fun X hX => ?_)
  unfold fn_SA_sumByTree
  refine V_aload_n hX (j := 0) (hj := rfl) 0 1 rfl rfl ?_
  refine V_get hX 1 4 0 (.ref (kA K 21)) fl_SA_54 rfl rfl (by decide) (ent_0 K _) rfl ?_
  refine V_aload_n hX (j := 0) (hj := rfl) 2 5 rfl rfl ?_
  refine V_iload_n hX (j := 1) (hj := rfl) 3 6 rfl rfl ?_
  refine V_iload_n hX (j := 2) (hj := rfl) 4 7 rfl rfl ?_
  refine V_iload_n hX (j := 3) (hj := rfl) 5 8 rfl rfl ?_
  refine V_callL hX 11 2 12 rfl rfl rfl (Nat.le_of_ble_eq_true rfl) (Nat.le_of_ble_eq_true rfl) (VR_V hX 6 (ct_SA_seriesWithRange (cx_t hX) K v1 v2 v3 M) my_SA_seriesWithRange mi_SA_seriesWithRange ms_SA_seriesWithRange ml_SA_131 (Nat.le_of_ble_eq_true rfl) (Nat.le_of_ble_eq_true rfl) (by decide) (ent_0 K _) rfl rfl rfl (Nat.le_of_ble_eq_true rfl) rfl (Nat.le_of_ble_eq_true rfl) (Nat.le_of_ble_eq_true rfl)) (fun r8 M8 => VV_grd (fun hr8 => ?_))
  refine V_iload_n hX (j := 2) (hj := rfl) 7 12 rfl rfl ?_
  refine V_iload_n hX (j := 3) (hj := rfl) 8 13 rfl rfl ?_
  refine V_callI hX 16 2 12 rfl rfl rfl (Nat.le_of_ble_eq_true rfl) (Nat.le_of_ble_eq_true rfl) (VR_V hX 9 (ct_Ra_totalByTree (cx_t hX) K r8 v2 v3 M8) my_Ra_totalByTree mi_Ra_totalByTree ms_Ra_totalByTree ml_SA_139 (Nat.le_of_ble_eq_true rfl) (Nat.le_of_ble_eq_true rfl) (by decide) (ent_21 K _) rfl rfl rfl (Nat.le_of_ble_eq_true rfl) rfl (Nat.le_of_ble_eq_true rfl) (Nat.le_of_ble_eq_true rfl)) (fun r13 M13 => ?_)
  exact V_iret hX 10 rfl (Nat.le_of_ble_eq_true rfl) (Nat.le_of_ble_eq_true rfl) rfl
set_option maxRecDepth 20000 in
theorem ct_SA_minimum {l : Launch} (hl : l.stackTraces = false) (K : KT) (v1 : Int32) (v2 : Int32) (v3 : Int32) (M : Mm) : CTp l K y_SA_minimum (Cond.code y_SA_minimum prog_1_method_15_code 4 (some .int)) rvI 11 2 12 [.ref (kA K 0), .int v1, .int v2, .int v3] M (fn_SA_minimum v1 v2 v3 M) := by
  refine CTp_of (L := L_SA_minimum) (lc := [(0, .ref (kA K 0)), (1, .int v1), (2, .int v2), (3, .int v3)]) (by decide +kernel) dec_SA_minimum hl rfl (Nat.le_of_ble_eq_true rfl) (fun X hX => ?_)
  unfold fn_SA_minimum
  refine V_aload_n hX (j := 0) (hj := rfl) 0 1 rfl rfl ?_
  refine V_iload_n hX (j := 1) (hj := rfl) 1 2 rfl rfl ?_
  refine V_iload_n hX (j := 2) (hj := rfl) 2 3 rfl rfl ?_
  refine V_iload_n hX (j := 3) (hj := rfl) 3 4 rfl rfl ?_
  refine V_callL hX 7 2 12 rfl rfl rfl (Nat.le_of_ble_eq_true rfl) (Nat.le_of_ble_eq_true rfl) (VR_V hX 4 (ct_SA_seriesWithRange (cx_t hX) K v1 v2 v3 M) my_SA_seriesWithRange mi_SA_seriesWithRange ms_SA_seriesWithRange ml_SA_131 (Nat.le_of_ble_eq_true rfl) (Nat.le_of_ble_eq_true rfl) (by decide) (ent_0 K _) rfl rfl rfl (Nat.le_of_ble_eq_true rfl) rfl (Nat.le_of_ble_eq_true rfl) (Nat.le_of_ble_eq_true rfl)) (fun r4 M4 => VV_grd (fun hr4 => ?_))
  refine V_iload_n hX (j := 2) (hj := rfl) 5 8 rfl rfl ?_
  refine V_iload_n hX (j := 3) (hj := rfl) 6 9 rfl rfl ?_
  refine V_callI hX 12 2 12 rfl rfl rfl (Nat.le_of_ble_eq_true rfl) (Nat.le_of_ble_eq_true rfl) (VR_V hX 7 (ct_Se_least (cx_t hX) K r4 v2 v3 M4) my_Se_least mi_Se_least ms_Se_least ml_SA_143 (Nat.le_of_ble_eq_true rfl) (Nat.le_of_ble_eq_true rfl) (loc_ser hr4) (ent_ser K _ hr4) rfl rfl rfl (Nat.le_of_ble_eq_true rfl) rfl (Nat.le_of_ble_eq_true rfl) (Nat.le_of_ble_eq_true rfl)) (fun r9 M9 => ?_)
  exact V_iret hX 8 rfl (Nat.le_of_ble_eq_true rfl) (Nat.le_of_ble_eq_true rfl) rfl
set_option maxRecDepth 20000 in
theorem ct_SA_maximum {l : Launch} (hl : l.stackTraces = false) (K : KT) (v1 : Int32) (v2 : Int32) (v3 : Int32) (M : Mm) : CTp l K y_SA_maximum (Cond.code y_SA_maximum prog_1_method_16_code 4 (some .int)) rvI 11 2 12 [.ref (kA K 0), .int v1, .int v2, .int v3] M (fn_SA_maximum v1 v2 v3 M) := by
  refine CTp_of (L := L_SA_maximum) (lc := [(0, .ref (kA K 0)), (1, .int v1), (2, .int v2), (3, .int v3)]) (by decide +kernel) dec_SA_maximum hl rfl (Nat.le_of_ble_eq_true rfl) (fun X hX => ?_)
  unfold fn_SA_maximum
  refine V_aload_n hX (j := 0) (hj := rfl) 0 1 rfl rfl ?_
  refine V_iload_n hX (j := 1) (hj := rfl) 1 2 rfl rfl ?_
  refine V_iload_n hX (j := 2) (hj := rfl) 2 3 rfl rfl ?_
  refine V_iload_n hX (j := 3) (hj := rfl) 3 4 rfl rfl ?_
  refine V_callL hX 7 2 12 rfl rfl rfl (Nat.le_of_ble_eq_true rfl) (Nat.le_of_ble_eq_true rfl) (VR_V hX 4 (ct_SA_seriesWithRange (cx_t hX) K v1 v2 v3 M) my_SA_seriesWithRange mi_SA_seriesWithRange ms_SA_seriesWithRange ml_SA_131 (Nat.le_of_ble_eq_true rfl) (Nat.le_of_ble_eq_true rfl) (by decide) (ent_0 K _) rfl rfl rfl (Nat.le_of_ble_eq_true rfl) rfl (Nat.le_of_ble_eq_true rfl) (Nat.le_of_ble_eq_true rfl)) (fun r4 M4 => VV_grd (fun hr4 => ?_))
  refine V_iload_n hX (j := 2) (hj := rfl) 5 8 rfl rfl ?_
  refine V_iload_n hX (j := 3) (hj := rfl) 6 9 rfl rfl ?_
  refine V_callI hX 12 2 12 rfl rfl rfl (Nat.le_of_ble_eq_true rfl) (Nat.le_of_ble_eq_true rfl) (VR_V hX 7 (ct_Se_greatest (cx_t hX) K r4 v2 v3 M4) my_Se_greatest mi_Se_greatest ms_Se_greatest ml_SA_146 (Nat.le_of_ble_eq_true rfl) (Nat.le_of_ble_eq_true rfl) (loc_ser hr4) (ent_ser K _ hr4) rfl rfl rfl (Nat.le_of_ble_eq_true rfl) rfl (Nat.le_of_ble_eq_true rfl) (Nat.le_of_ble_eq_true rfl)) (fun r9 M9 => ?_)
  exact V_iret hX 8 rfl (Nat.le_of_ble_eq_true rfl) (Nat.le_of_ble_eq_true rfl) rfl
set_option maxRecDepth 20000 in
theorem ct_SA_countAbove {l : Launch} (hl : l.stackTraces = false) (K : KT) (v1 : Int32) (v2 : Int32) (M : Mm) : CTp l K y_SA_countAbove (Cond.code y_SA_countAbove prog_1_method_17_code 3 (some .int)) rvI 10 1 6 [.ref (kA K 0), .int v1, .int v2] M (fn_SA_countAbove v1 v2 M) := by
  refine CTp_of (L := L_SA_countAbove) (lc := [(0, .ref (kA K 0)), (1, .int v1), (2, .int v2)]) (by decide +kernel) dec_SA_countAbove hl rfl (Nat.le_of_ble_eq_true rfl) (fun X hX => ?_)
  unfold fn_SA_countAbove
  refine V_aload_n hX (j := 0) (hj := rfl) 0 1 rfl rfl ?_
  refine V_iload_n hX (j := 1) (hj := rfl) 1 2 rfl rfl ?_
  refine V_callL hX 5 1 6 rfl rfl rfl (Nat.le_of_ble_eq_true rfl) (Nat.le_of_ble_eq_true rfl) (VR_V hX 2 (ct_SA_seriesIn (cx_t hX) K v1 M) my_SA_seriesIn mi_SA_seriesIn ms_SA_seriesIn ml_SA_113 (Nat.le_of_ble_eq_true rfl) (Nat.le_of_ble_eq_true rfl) (by decide) (ent_0 K _) rfl rfl rfl (Nat.le_of_ble_eq_true rfl) rfl (Nat.le_of_ble_eq_true rfl) (Nat.le_of_ble_eq_true rfl)) (fun r2 M2 => VV_grd (fun hr2 => ?_))
  refine V_iload_n hX (j := 2) (hj := rfl) 3 6 rfl rfl ?_
  refine V_callI hX 9 1 6 rfl rfl rfl (Nat.le_of_ble_eq_true rfl) (Nat.le_of_ble_eq_true rfl) (VR_V hX 4 (ct_Se_countOver (cx_t hX) K r2 v2 M2) my_Se_countOver mi_Se_countOver ms_Se_countOver ml_SA_149 (Nat.le_of_ble_eq_true rfl) (Nat.le_of_ble_eq_true rfl) (loc_ser hr2) (ent_ser K _ hr2) rfl rfl rfl (Nat.le_of_ble_eq_true rfl) rfl (Nat.le_of_ble_eq_true rfl) (Nat.le_of_ble_eq_true rfl)) (fun r6 M6 => ?_)
  exact V_iret hX 5 rfl (Nat.le_of_ble_eq_true rfl) (Nat.le_of_ble_eq_true rfl) rfl
set_option maxRecDepth 20000 in
theorem ct_SA_valueByRank {l : Launch} (hl : l.stackTraces = false) (K : KT) (v1 : Int32) (v2 : Int32) (M : Mm) : CTp l K y_SA_valueByRank (Cond.code y_SA_valueByRank prog_1_method_18_code 4 (some .int)) rvI 10 2 12 [.ref (kA K 0), .int v1, .int v2] M (fn_SA_valueByRank v1 v2 M) := by
  refine CTp_of (L := L_SA_valueByRank) (lc := [(0, .ref (kA K 0)), (1, .int v1), (2, .int v2)]) (by decide +kernel) dec_SA_valueByRank hl rfl (Nat.le_of_ble_eq_true rfl) (fun X hX => ?_)
  unfold fn_SA_valueByRank
  refine V_aload_n hX (j := 0) (hj := rfl) 0 1 rfl rfl ?_
  refine V_iload_n hX (j := 1) (hj := rfl) 1 2 rfl rfl ?_
  refine V_callL hX 5 1 6 rfl rfl rfl (Nat.le_of_ble_eq_true rfl) (Nat.le_of_ble_eq_true rfl) (VR_V hX 2 (ct_SA_seriesIn (cx_t hX) K v1 M) my_SA_seriesIn mi_SA_seriesIn ms_SA_seriesIn ml_SA_113 (Nat.le_of_ble_eq_true rfl) (Nat.le_of_ble_eq_true rfl) (by decide) (ent_0 K _) rfl rfl rfl (Nat.le_of_ble_eq_true rfl) rfl (Nat.le_of_ble_eq_true rfl) (Nat.le_of_ble_eq_true rfl)) (fun r2 M2 => VV_grd (fun hr2 => ?_))
  refine V_astore_n hX 3 6 [(3, .ref (kA K r2)), (0, .ref (kA K 0)), (1, .int v1), (2, .int v2)] rfl rfl (Nat.le_of_ble_eq_true rfl) rfl ?_
  refine V_aload_n hX (j := 0) (hj := rfl) 4 7 rfl rfl ?_
  refine V_iload_n hX (j := 3) (hj := rfl) 5 8 rfl rfl ?_
  refine V_callI hX 11 1 6 rfl rfl rfl (Nat.le_of_ble_eq_true rfl) (Nat.le_of_ble_eq_true rfl) (VR_V hX 6 (ct_Se_has (cx_t hX) K r2 v2 M2) my_Se_has mi_Se_has ms_Se_has ml_SA_152 (Nat.le_of_ble_eq_true rfl) (Nat.le_of_ble_eq_true rfl) (loc_ser hr2) (ent_ser K _ hr2) rfl rfl rfl (Nat.le_of_ble_eq_true rfl) rfl (Nat.le_of_ble_eq_true rfl) (Nat.le_of_ble_eq_true rfl)) (fun r8 M8 => ?_)
  refine V_if_ne hX 7 14 24 rfl rfl (by decide) (fun c11 => ?_) (fun c11 => ?_)
  · refine V_aload_n hX (j := 0) (hj := rfl) 13 25 rfl rfl ?_
    refine V_aload_n hX (j := 0) (hj := rfl) 14 26 rfl rfl ?_
    refine V_iload_n hX (j := 3) (hj := rfl) 15 27 rfl rfl ?_
    refine V_callI hX 30 1 6 rfl rfl rfl (Nat.le_of_ble_eq_true rfl) (Nat.le_of_ble_eq_true rfl) (VR_V hX 16 (ct_Se_indexOfRank (cx_t hX) K r2 v2 M8) my_Se_indexOfRank mi_Se_indexOfRank ms_Se_indexOfRank ml_SA_163 (Nat.le_of_ble_eq_true rfl) (Nat.le_of_ble_eq_true rfl) (loc_ser hr2) (ent_ser K _ hr2) rfl rfl rfl (Nat.le_of_ble_eq_true rfl) rfl (Nat.le_of_ble_eq_true rfl) (Nat.le_of_ble_eq_true rfl)) (fun r27 M27 => ?_)
    refine V_callI hX 33 1 6 rfl rfl rfl (Nat.le_of_ble_eq_true rfl) (Nat.le_of_ble_eq_true rfl) (VR_V hX 17 (ct_Se_at (cx_t hX) K r2 r27 M27) my_Se_at mi_Se_at ms_Se_at ml_SA_127 (Nat.le_of_ble_eq_true rfl) (Nat.le_of_ble_eq_true rfl) (loc_ser hr2) (ent_ser K _ hr2) rfl rfl rfl (Nat.le_of_ble_eq_true rfl) rfl (Nat.le_of_ble_eq_true rfl) (Nat.le_of_ble_eq_true rfl)) (fun r30 M30 => ?_)
    exact V_iret hX 18 rfl (Nat.le_of_ble_eq_true rfl) (Nat.le_of_ble_eq_true rfl) rfl
  · exact V_throwNS hX 8 3 rfl th_3_156_160 tx_158 (Nat.le_of_ble_eq_true rfl) (Nat.le_of_ble_eq_true rfl) (Nat.le_of_ble_eq_true rfl) (Nat.le_of_ble_eq_true rfl) rfl rfl rfl rfl rfl
set_option maxRecDepth 20000 in
theorem ct_SA_mean {l : Launch} (hl : l.stackTraces = false) (K : KT) (v1 : Int32) (M : Mm) : CTp l K y_SA_mean (Cond.code y_SA_mean prog_1_method_19_code 3 (some .double)) rvD 10 2 12 [.ref (kA K 0), .int v1] M (fn_SA_mean v1 M) := by
  refine CTp_of (L := L_SA_mean) (lc := [(0, .ref (kA K 0)), (1, .int v1)]) (by decide +kernel) dec_SA_mean hl rfl (Nat.le_of_ble_eq_true rfl) (fun X hX => ?_)
  unfold fn_SA_mean
  refine V_aload_n hX (j := 0) (hj := rfl) 0 1 rfl rfl ?_
  refine V_iload_n hX (j := 1) (hj := rfl) 1 2 rfl rfl ?_
  refine V_callL hX 5 1 6 rfl rfl rfl (Nat.le_of_ble_eq_true rfl) (Nat.le_of_ble_eq_true rfl) (VR_V hX 2 (ct_SA_seriesIn (cx_t hX) K v1 M) my_SA_seriesIn mi_SA_seriesIn ms_SA_seriesIn ml_SA_113 (Nat.le_of_ble_eq_true rfl) (Nat.le_of_ble_eq_true rfl) (by decide) (ent_0 K _) rfl rfl rfl (Nat.le_of_ble_eq_true rfl) rfl (Nat.le_of_ble_eq_true rfl) (Nat.le_of_ble_eq_true rfl)) (fun r2 M2 => VV_grd (fun hr2 => ?_))
  refine V_astore_n hX 3 6 [(2, .ref (kA K r2)), (0, .ref (kA K 0)), (1, .int v1)] rfl rfl (Nat.le_of_ble_eq_true rfl) rfl ?_
  refine V_aload_n hX (j := 0) (hj := rfl) 4 7 rfl rfl ?_
  refine V_callI hX 10 1 6 rfl rfl rfl (Nat.le_of_ble_eq_true rfl) (Nat.le_of_ble_eq_true rfl) (VR_V hX 5 (ct_Se_isEmpty (cx_t hX) K r2 M2) my_Se_isEmpty mi_Se_isEmpty ms_Se_isEmpty ml_SA_166 (Nat.le_of_ble_eq_true rfl) (Nat.le_of_ble_eq_true rfl) (loc_ser hr2) (ent_ser K _ hr2) rfl rfl rfl (Nat.le_of_ble_eq_true rfl) rfl (Nat.le_of_ble_eq_true rfl) (Nat.le_of_ble_eq_true rfl)) (fun r7 M7 => ?_)
  refine V_if_eq hX 6 13 23 rfl rfl (by decide) (fun c10 => ?_) (fun c10 => ?_)
  · refine V_aload_n hX (j := 0) (hj := rfl) 12 24 rfl rfl ?_
    refine V_iconst hX (v := 0) (hv := by decide) 13 25 rfl rfl ?_
    refine V_aload_n hX (j := 0) (hj := rfl) 14 26 rfl rfl ?_
    refine V_callI hX 29 1 6 rfl rfl rfl (Nat.le_of_ble_eq_true rfl) (Nat.le_of_ble_eq_true rfl) (VR_V hX 15 (ct_Se_size (cx_t hX) K r2 M7) my_Se_size mi_Se_size ms_Se_size ml_SA_117 (Nat.le_of_ble_eq_true rfl) (Nat.le_of_ble_eq_true rfl) (loc_ser hr2) (ent_ser K _ hr2) rfl rfl rfl (Nat.le_of_ble_eq_true rfl) rfl (Nat.le_of_ble_eq_true rfl) (Nat.le_of_ble_eq_true rfl)) (fun r26 M26 => ?_)
    refine V_iconst hX (v := 1) (hv := by decide) 16 30 rfl rfl ?_
    refine V_isub hX 17 31 rfl rfl ?_
    refine V_callI hX 34 1 6 rfl rfl rfl (Nat.le_of_ble_eq_true rfl) (Nat.le_of_ble_eq_true rfl) (VR_V hX 18 (ct_Se_total (cx_t hX) K r2 0 (r26 - 1) M26) my_Se_total mi_Se_total ms_Se_total ml_SA_135 (Nat.le_of_ble_eq_true rfl) (Nat.le_of_ble_eq_true rfl) (loc_ser hr2) (ent_ser K _ hr2) rfl rfl rfl (Nat.le_of_ble_eq_true rfl) rfl (Nat.le_of_ble_eq_true rfl) (Nat.le_of_ble_eq_true rfl)) (fun r31 M31 => ?_)
    refine V_i2d hX 19 35 rfl rfl ?_
    refine V_aload_n hX (j := 0) (hj := rfl) 20 36 rfl rfl ?_
    refine V_callI hX 39 1 6 rfl rfl rfl (Nat.le_of_ble_eq_true rfl) (Nat.le_of_ble_eq_true rfl) (VR_V hX 21 (ct_Se_size (cx_t hX) K r2 M31) my_Se_size mi_Se_size ms_Se_size ml_SA_117 (Nat.le_of_ble_eq_true rfl) (Nat.le_of_ble_eq_true rfl) (loc_ser hr2) (ent_ser K _ hr2) rfl rfl rfl (Nat.le_of_ble_eq_true rfl) rfl (Nat.le_of_ble_eq_true rfl) (Nat.le_of_ble_eq_true rfl)) (fun r36 M36 => ?_)
    refine V_i2d hX 22 40 rfl rfl ?_
    refine VV_grd (fun hz1 => ?_)
    refine V_ddiv hX (hne := hz1) 23 41 rfl rfl ?_
    exact V_dret hX 24 rfl (Nat.le_of_ble_eq_true rfl) (Nat.le_of_ble_eq_true rfl) rfl
  · exact V_throwS hX 7 4 th_4_170_174 tx_172 (Nat.le_of_ble_eq_true rfl) (Nat.le_of_ble_eq_true rfl) (Nat.le_of_ble_eq_true rfl) (Nat.le_of_ble_eq_true rfl) rfl rfl rfl rfl rfl
set_option maxRecDepth 20000 in
theorem ct_SA_seriesWithWindow {l : Launch} (hl : l.stackTraces = false) (K : KT) (v1 : Int32) (v2 : Int32) (v3 : Int32) (M : Mm) : CTp l K y_SA_seriesWithWindow (Cond.code y_SA_seriesWithWindow prog_1_method_68_code 5 (some (.object "SeriesArchive$Series"))) (fun z => some (.ref (kA K z))) 11 3 18 [.ref (kA K 0), .int v1, .int v2, .int v3] M (fn_SA_seriesWithWindow v1 v2 v3 M) := by
  refine CTp_of (L := L_SA_seriesWithWindow) (lc := [(0, .ref (kA K 0)), (1, .int v1), (2, .int v2), (3, .int v3)]) (by decide +kernel) dec_SA_seriesWithWindow hl rfl (Nat.le_of_ble_eq_true rfl) (fun X hX => ?_)
  unfold fn_SA_seriesWithWindow
  refine V_aload_n hX (j := 0) (hj := rfl) 0 1 rfl rfl ?_
  refine V_iload_n hX (j := 1) (hj := rfl) 1 2 rfl rfl ?_
  refine V_iload_n hX (j := 3) (hj := rfl) 2 3 rfl rfl ?_
  refine V_callL hX 6 2 12 rfl rfl rfl (Nat.le_of_ble_eq_true rfl) (Nat.le_of_ble_eq_true rfl) (VR_V hX 3 (ct_SA_seriesWith (cx_t hX) K v1 v3 M) my_SA_seriesWith mi_SA_seriesWith ms_SA_seriesWith ml_SA_123 (Nat.le_of_ble_eq_true rfl) (Nat.le_of_ble_eq_true rfl) (by decide) (ent_0 K _) rfl rfl rfl (Nat.le_of_ble_eq_true rfl) rfl (Nat.le_of_ble_eq_true rfl) (Nat.le_of_ble_eq_true rfl)) (fun r3 M3 => VV_grd (fun hr3 => ?_))
  refine V_astore hX 4 8 [(4, .ref (kA K r3)), (0, .ref (kA K 0)), (1, .int v1), (2, .int v2), (3, .int v3)] rfl rfl (Nat.le_of_ble_eq_true rfl) rfl ?_
  refine V_iload_n hX (j := 3) (hj := rfl) 5 9 rfl rfl ?_
  refine V_iconst hX (v := 1) (hv := by decide) 6 10 rfl rfl ?_
  refine V_icmp_lt hX 7 13 22 rfl rfl (by decide) (fun c10 => ?_) (fun c10 => ?_)
  · exact V_throw hX 12 1 th_1_324_328 tx_436 (Nat.le_of_ble_eq_true rfl) (Nat.le_of_ble_eq_true rfl) (Nat.le_of_ble_eq_true rfl) (Nat.le_of_ble_eq_true rfl) rfl rfl rfl rfl rfl
  · refine V_iload_n hX (j := 3) (hj := rfl) 8 14 rfl rfl ?_
    refine V_aload hX (j := 0) (hj := rfl) 9 16 rfl rfl ?_
    refine V_callI hX 19 2 12 rfl rfl rfl (Nat.le_of_ble_eq_true rfl) (Nat.le_of_ble_eq_true rfl) (VR_V hX 10 (ct_Se_size (cx_t hX) K r3 M3) my_Se_size mi_Se_size ms_Se_size ml_SA_117 (Nat.le_of_ble_eq_true rfl) (Nat.le_of_ble_eq_true rfl) (loc_ser hr3) (ent_ser K _ hr3) rfl rfl rfl (Nat.le_of_ble_eq_true rfl) rfl (Nat.le_of_ble_eq_true rfl) (Nat.le_of_ble_eq_true rfl)) (fun r16 M16 => ?_)
    refine V_icmp_le hX 11 22 33 rfl rfl (by decide) (fun c19 => ?_) (fun c19 => ?_)
    · refine V_iload_n hX (j := 4) (hj := rfl) 17 34 rfl rfl ?_
      refine V_iload_n hX (j := 3) (hj := rfl) 18 35 rfl rfl ?_
      refine V_isub hX 19 36 rfl rfl ?_
      refine V_iconst hX (v := 1) (hv := by decide) 20 37 rfl rfl ?_
      refine V_iadd hX 21 38 rfl rfl ?_
      refine V_if_ge hX 22 41 52 rfl rfl (by decide) (fun c38 => ?_) (fun c38 => ?_)
      · refine V_aload hX (j := 0) (hj := rfl) 28 54 rfl rfl ?_
        exact V_aret hX 29 "SeriesArchive$Series" rfl rfl (Nat.le_of_ble_eq_true rfl) (Nat.le_of_ble_eq_true rfl) rfl
      · exact V_throwN hX 23 3 rfl th_3_156_160 tx_438 (Nat.le_of_ble_eq_true rfl) (Nat.le_of_ble_eq_true rfl) (Nat.le_of_ble_eq_true rfl) (Nat.le_of_ble_eq_true rfl) rfl rfl rfl rfl rfl
    · exact V_throw hX 12 1 th_1_324_328 tx_436 (Nat.le_of_ble_eq_true rfl) (Nat.le_of_ble_eq_true rfl) (Nat.le_of_ble_eq_true rfl) (Nat.le_of_ble_eq_true rfl) rfl rfl rfl rfl rfl
set_option maxRecDepth 20000 in
theorem ct_SA_windowMaximum {l : Launch} (hl : l.stackTraces = false) (K : KT) (v1 : Int32) (v2 : Int32) (v3 : Int32) (M : Mm) : CTp l K y_SA_windowMaximum (Cond.code y_SA_windowMaximum prog_1_method_20_code 4 (some .int)) rvI 12 3 18 [.ref (kA K 0), .int v1, .int v2, .int v3] M (fn_SA_windowMaximum v1 v2 v3 M) := by
  refine CTp_of (L := L_SA_windowMaximum) (lc := [(0, .ref (kA K 0)), (1, .int v1), (2, .int v2), (3, .int v3)]) (by decide +kernel) dec_SA_windowMaximum hl rfl (Nat.le_of_ble_eq_true rfl) (fun X hX => ?_)
  unfold fn_SA_windowMaximum
  refine V_aload_n hX (j := 0) (hj := rfl) 0 1 rfl rfl ?_
  refine V_get hX 1 4 0 (.ref (kA K 21)) fl_SA_54 rfl rfl (by decide) (ent_0 K _) rfl ?_
  refine V_aload_n hX (j := 0) (hj := rfl) 2 5 rfl rfl ?_
  refine V_iload_n hX (j := 1) (hj := rfl) 3 6 rfl rfl ?_
  refine V_iload_n hX (j := 2) (hj := rfl) 4 7 rfl rfl ?_
  refine V_iload_n hX (j := 3) (hj := rfl) 5 8 rfl rfl ?_
  refine V_callL hX 11 3 18 rfl rfl rfl (Nat.le_of_ble_eq_true rfl) (Nat.le_of_ble_eq_true rfl) (VR_V hX 6 (ct_SA_seriesWithWindow (cx_t hX) K v1 v2 v3 M) my_SA_seriesWithWindow mi_SA_seriesWithWindow ms_SA_seriesWithWindow ml_SA_175 (Nat.le_of_ble_eq_true rfl) (Nat.le_of_ble_eq_true rfl) (by decide) (ent_0 K _) rfl rfl rfl (Nat.le_of_ble_eq_true rfl) rfl (Nat.le_of_ble_eq_true rfl) (Nat.le_of_ble_eq_true rfl)) (fun r8 M8 => VV_grd (fun hr8 => ?_))
  refine V_iload_n hX (j := 2) (hj := rfl) 7 12 rfl rfl ?_
  refine V_iload_n hX (j := 3) (hj := rfl) 8 13 rfl rfl ?_
  refine V_callI hX 16 3 18 rfl rfl rfl (Nat.le_of_ble_eq_true rfl) (Nat.le_of_ble_eq_true rfl) (VR_V hX 9 (ct_Ra_windowTop (cx_t hX) K r8 v2 v3 M8) my_Ra_windowTop mi_Ra_windowTop ms_Ra_windowTop ml_SA_178 (Nat.le_of_ble_eq_true rfl) (Nat.le_of_ble_eq_true rfl) (by decide) (ent_21 K _) rfl rfl rfl (Nat.le_of_ble_eq_true rfl) rfl (Nat.le_of_ble_eq_true rfl) (Nat.le_of_ble_eq_true rfl)) (fun r13 M13 => ?_)
  exact V_iret hX 10 rfl (Nat.le_of_ble_eq_true rfl) (Nat.le_of_ble_eq_true rfl) rfl
set_option maxRecDepth 20000 in
theorem ct_SA_windowMaximumByScan {l : Launch} (hl : l.stackTraces = false) (K : KT) (v1 : Int32) (v2 : Int32) (v3 : Int32) (M : Mm) : CTp l K y_SA_windowMaximumByScan (Cond.code y_SA_windowMaximumByScan prog_1_method_21_code 4 (some .int)) rvI 12 3 18 [.ref (kA K 0), .int v1, .int v2, .int v3] M (fn_SA_windowMaximumByScan v1 v2 v3 M) := by
  refine CTp_of (L := L_SA_windowMaximumByScan) (lc := [(0, .ref (kA K 0)), (1, .int v1), (2, .int v2), (3, .int v3)]) (by decide +kernel) dec_SA_windowMaximumByScan hl rfl (Nat.le_of_ble_eq_true rfl) (fun X hX => ?_)
  unfold fn_SA_windowMaximumByScan
  refine V_aload_n hX (j := 0) (hj := rfl) 0 1 rfl rfl ?_
  refine V_iload_n hX (j := 1) (hj := rfl) 1 2 rfl rfl ?_
  refine V_iload_n hX (j := 2) (hj := rfl) 2 3 rfl rfl ?_
  refine V_iload_n hX (j := 3) (hj := rfl) 3 4 rfl rfl ?_
  refine V_callL hX 7 3 18 rfl rfl rfl (Nat.le_of_ble_eq_true rfl) (Nat.le_of_ble_eq_true rfl) (VR_V hX 4 (ct_SA_seriesWithWindow (cx_t hX) K v1 v2 v3 M) my_SA_seriesWithWindow mi_SA_seriesWithWindow ms_SA_seriesWithWindow ml_SA_175 (Nat.le_of_ble_eq_true rfl) (Nat.le_of_ble_eq_true rfl) (by decide) (ent_0 K _) rfl rfl rfl (Nat.le_of_ble_eq_true rfl) rfl (Nat.le_of_ble_eq_true rfl) (Nat.le_of_ble_eq_true rfl)) (fun r4 M4 => VV_grd (fun hr4 => ?_))
  refine V_iload_n hX (j := 3) (hj := rfl) 5 8 rfl rfl ?_
  refine V_iload_n hX (j := 2) (hj := rfl) 6 9 rfl rfl ?_
  refine V_isub hX 7 10 rfl rfl ?_
  refine V_iconst hX (v := 1) (hv := by decide) 8 11 rfl rfl ?_
  refine V_iadd hX 9 12 rfl rfl ?_
  refine V_iload_n hX (j := 3) (hj := rfl) 10 13 rfl rfl ?_
  refine V_callI hX 16 3 18 rfl rfl rfl (Nat.le_of_ble_eq_true rfl) (Nat.le_of_ble_eq_true rfl) (VR_V hX 11 (ct_Se_greatest (cx_t hX) K r4 ((v3 - v2) + 1) v3 M4) my_Se_greatest mi_Se_greatest ms_Se_greatest ml_SA_146 (Nat.le_of_ble_eq_true rfl) (Nat.le_of_ble_eq_true rfl) (loc_ser hr4) (ent_ser K _ hr4) rfl rfl rfl (Nat.le_of_ble_eq_true rfl) rfl (Nat.le_of_ble_eq_true rfl) (Nat.le_of_ble_eq_true rfl)) (fun r13 M13 => ?_)
  exact V_iret hX 12 rfl (Nat.le_of_ble_eq_true rfl) (Nat.le_of_ble_eq_true rfl) rfl
set_option maxRecDepth 20000 in
theorem ct_SA_found {l : Launch} (hl : l.stackTraces = false) (K : KT) (v0 : Int32) (M : Mm) : CTp l K y_SA_found (Cond.code y_SA_found prog_1_method_73_code 1 (some .int)) rvI 9 1 6 [.int v0] M (fn_SA_found v0 M) := by
  refine CTp_of (L := L_SA_found) (lc := [(0, .int v0)]) (by decide +kernel) dec_SA_found hl rfl (Nat.le_of_ble_eq_true rfl) (fun X hX => ?_)
  unfold fn_SA_found
  refine V_iload_n hX (j := 0) (hj := rfl) 0 1 rfl rfl ?_
  refine V_iconst hX (v := (-1)) (hv := by decide) 1 2 rfl rfl ?_
  refine V_icmp_ne hX 2 5 16 rfl rfl (by decide) (fun c2 => ?_) (fun c2 => ?_)
  · refine V_iload_n hX (j := 0) (hj := rfl) 8 17 rfl rfl ?_
    exact V_iret hX 9 rfl (Nat.le_of_ble_eq_true rfl) (Nat.le_of_ble_eq_true rfl) rfl
  · exact V_throwN hX 3 3 rfl th_3_156_160 tx_448 (Nat.le_of_ble_eq_true rfl) (Nat.le_of_ble_eq_true rfl) (Nat.le_of_ble_eq_true rfl) (Nat.le_of_ble_eq_true rfl) rfl rfl rfl rfl rfl
set_option maxRecDepth 20000 in
theorem ct_SA_nextGreater {l : Launch} (hl : l.stackTraces = false) (K : KT) (v1 : Int32) (v2 : Int32) (M : Mm) : CTp l K y_SA_nextGreater (Cond.code y_SA_nextGreater prog_1_method_22_code 3 (some .int)) rvI 11 3 18 [.ref (kA K 0), .int v1, .int v2] M (fn_SA_nextGreater v1 v2 M) := by
  refine CTp_of (L := L_SA_nextGreater) (lc := [(0, .ref (kA K 0)), (1, .int v1), (2, .int v2)]) (by decide +kernel) dec_SA_nextGreater hl rfl (Nat.le_of_ble_eq_true rfl) (fun X hX => ?_)
  unfold fn_SA_nextGreater
  refine V_aload_n hX (j := 0) (hj := rfl) 0 1 rfl rfl ?_
  refine V_get hX 1 4 0 (.ref (kA K 21)) fl_SA_54 rfl rfl (by decide) (ent_0 K _) rfl ?_
  refine V_aload_n hX (j := 0) (hj := rfl) 2 5 rfl rfl ?_
  refine V_iload_n hX (j := 1) (hj := rfl) 3 6 rfl rfl ?_
  refine V_iload_n hX (j := 2) (hj := rfl) 4 7 rfl rfl ?_
  refine V_callL hX 10 2 12 rfl rfl rfl (Nat.le_of_ble_eq_true rfl) (Nat.le_of_ble_eq_true rfl) (VR_V hX 5 (ct_SA_seriesWith (cx_t hX) K v1 v2 M) my_SA_seriesWith mi_SA_seriesWith ms_SA_seriesWith ml_SA_123 (Nat.le_of_ble_eq_true rfl) (Nat.le_of_ble_eq_true rfl) (by decide) (ent_0 K _) rfl rfl rfl (Nat.le_of_ble_eq_true rfl) rfl (Nat.le_of_ble_eq_true rfl) (Nat.le_of_ble_eq_true rfl)) (fun r7 M7 => VV_grd (fun hr7 => ?_))
  refine V_iload_n hX (j := 2) (hj := rfl) 6 11 rfl rfl ?_
  refine V_callI hX 14 2 12 rfl rfl rfl (Nat.le_of_ble_eq_true rfl) (Nat.le_of_ble_eq_true rfl) (VR_V hX 7 (ct_Ra_nextAbove (cx_t hX) K r7 v2 M7) my_Ra_nextAbove mi_Ra_nextAbove ms_Ra_nextAbove ml_SA_181 (Nat.le_of_ble_eq_true rfl) (Nat.le_of_ble_eq_true rfl) (by decide) (ent_21 K _) rfl rfl rfl (Nat.le_of_ble_eq_true rfl) rfl (Nat.le_of_ble_eq_true rfl) (Nat.le_of_ble_eq_true rfl)) (fun r11 M11 => ?_)
  refine V_callI hX 17 3 18 rfl rfl rfl (Nat.le_of_ble_eq_true rfl) (Nat.le_of_ble_eq_true rfl) (VR_S hX 8 (ct_SA_found (cx_t hX) K r11 M11) my_SA_found mt_SA_found ml_SA_185 (Nat.le_of_ble_eq_true rfl) (Nat.le_of_ble_eq_true rfl) rfl rfl (Nat.le_of_ble_eq_true rfl) rfl (Nat.le_of_ble_eq_true rfl) (Nat.le_of_ble_eq_true rfl)) (fun r14 M14 => ?_)
  exact V_iret hX 9 rfl (Nat.le_of_ble_eq_true rfl) (Nat.le_of_ble_eq_true rfl) rfl
set_option maxRecDepth 20000 in
theorem ct_SA_nextGreaterByScan {l : Launch} (hl : l.stackTraces = false) (K : KT) (v1 : Int32) (v2 : Int32) (M : Mm) : CTp l K y_SA_nextGreaterByScan (Cond.code y_SA_nextGreaterByScan prog_1_method_23_code 3 (some .int)) rvI 11 3 18 [.ref (kA K 0), .int v1, .int v2] M (fn_SA_nextGreaterByScan v1 v2 M) := by
  refine CTp_of (L := L_SA_nextGreaterByScan) (lc := [(0, .ref (kA K 0)), (1, .int v1), (2, .int v2)]) (by decide +kernel) dec_SA_nextGreaterByScan hl rfl (Nat.le_of_ble_eq_true rfl) (fun X hX => ?_)
  unfold fn_SA_nextGreaterByScan
  refine V_aload_n hX (j := 0) (hj := rfl) 0 1 rfl rfl ?_
  refine V_iload_n hX (j := 1) (hj := rfl) 1 2 rfl rfl ?_
  refine V_iload_n hX (j := 2) (hj := rfl) 2 3 rfl rfl ?_
  refine V_callL hX 6 2 12 rfl rfl rfl (Nat.le_of_ble_eq_true rfl) (Nat.le_of_ble_eq_true rfl) (VR_V hX 3 (ct_SA_seriesWith (cx_t hX) K v1 v2 M) my_SA_seriesWith mi_SA_seriesWith ms_SA_seriesWith ml_SA_123 (Nat.le_of_ble_eq_true rfl) (Nat.le_of_ble_eq_true rfl) (by decide) (ent_0 K _) rfl rfl rfl (Nat.le_of_ble_eq_true rfl) rfl (Nat.le_of_ble_eq_true rfl) (Nat.le_of_ble_eq_true rfl)) (fun r3 M3 => VV_grd (fun hr3 => ?_))
  refine V_iload_n hX (j := 2) (hj := rfl) 4 7 rfl rfl ?_
  refine V_callI hX 10 2 12 rfl rfl rfl (Nat.le_of_ble_eq_true rfl) (Nat.le_of_ble_eq_true rfl) (VR_S hX 5 (ct_Ra_nextAboveByScan (cx_t hX) K r3 v2 M3) my_Ra_nextAboveByScan mt_Ra_nextAboveByScan ml_SA_188 (Nat.le_of_ble_eq_true rfl) (Nat.le_of_ble_eq_true rfl) rfl rfl (Nat.le_of_ble_eq_true rfl) rfl (Nat.le_of_ble_eq_true rfl) (Nat.le_of_ble_eq_true rfl)) (fun r7 M7 => ?_)
  refine V_callI hX 13 3 18 rfl rfl rfl (Nat.le_of_ble_eq_true rfl) (Nat.le_of_ble_eq_true rfl) (VR_S hX 6 (ct_SA_found (cx_t hX) K r7 M7) my_SA_found mt_SA_found ml_SA_185 (Nat.le_of_ble_eq_true rfl) (Nat.le_of_ble_eq_true rfl) rfl rfl (Nat.le_of_ble_eq_true rfl) rfl (Nat.le_of_ble_eq_true rfl) (Nat.le_of_ble_eq_true rfl)) (fun r10 M10 => ?_)
  exact V_iret hX 7 rfl (Nat.le_of_ble_eq_true rfl) (Nat.le_of_ble_eq_true rfl) rfl
set_option maxRecDepth 20000 in
theorem ct_SA_peakCount {l : Launch} (hl : l.stackTraces = false) (K : KT) (v1 : Int32) (M : Mm) : CTp l K y_SA_peakCount (Cond.code y_SA_peakCount prog_1_method_24_code 2 (some .int)) rvI 10 1 6 [.ref (kA K 0), .int v1] M (fn_SA_peakCount v1 M) := by
  refine CTp_of (L := L_SA_peakCount) (lc := [(0, .ref (kA K 0)), (1, .int v1)]) (by decide +kernel) dec_SA_peakCount hl rfl (Nat.le_of_ble_eq_true rfl) (fun X hX => ?_)
  unfold fn_SA_peakCount
  refine V_aload_n hX (j := 0) (hj := rfl) 0 1 rfl rfl ?_
  refine V_iload_n hX (j := 1) (hj := rfl) 1 2 rfl rfl ?_
  refine V_callL hX 5 1 6 rfl rfl rfl (Nat.le_of_ble_eq_true rfl) (Nat.le_of_ble_eq_true rfl) (VR_V hX 2 (ct_SA_seriesIn (cx_t hX) K v1 M) my_SA_seriesIn mi_SA_seriesIn ms_SA_seriesIn ml_SA_113 (Nat.le_of_ble_eq_true rfl) (Nat.le_of_ble_eq_true rfl) (by decide) (ent_0 K _) rfl rfl rfl (Nat.le_of_ble_eq_true rfl) rfl (Nat.le_of_ble_eq_true rfl) (Nat.le_of_ble_eq_true rfl)) (fun r2 M2 => VV_grd (fun hr2 => ?_))
  refine V_callI hX 8 1 6 rfl rfl rfl (Nat.le_of_ble_eq_true rfl) (Nat.le_of_ble_eq_true rfl) (VR_S hX 3 (ct_Pe_number (cx_t hX) K r2 M2) my_Pe_number mt_Pe_number ml_SA_191 (Nat.le_of_ble_eq_true rfl) (Nat.le_of_ble_eq_true rfl) rfl rfl (Nat.le_of_ble_eq_true rfl) rfl (Nat.le_of_ble_eq_true rfl) (Nat.le_of_ble_eq_true rfl)) (fun r5 M5 => ?_)
  exact V_iret hX 4 rfl (Nat.le_of_ble_eq_true rfl) (Nat.le_of_ble_eq_true rfl) rfl
set_option maxRecDepth 20000 in
theorem ct_SA_isPeak {l : Launch} (hl : l.stackTraces = false) (K : KT) (v1 : Int32) (v2 : Int32) (M : Mm) : CTp l K y_SA_isPeak (Cond.code y_SA_isPeak prog_1_method_25_code 3 (some .boolean)) rvI 11 2 12 [.ref (kA K 0), .int v1, .int v2] M (fn_SA_isPeak v1 v2 M) := by
  refine CTp_of (L := L_SA_isPeak) (lc := [(0, .ref (kA K 0)), (1, .int v1), (2, .int v2)]) (by decide +kernel) dec_SA_isPeak hl rfl (Nat.le_of_ble_eq_true rfl) (fun X hX => ?_)
  unfold fn_SA_isPeak
  refine V_aload_n hX (j := 0) (hj := rfl) 0 1 rfl rfl ?_
  refine V_iload_n hX (j := 1) (hj := rfl) 1 2 rfl rfl ?_
  refine V_iload_n hX (j := 2) (hj := rfl) 2 3 rfl rfl ?_
  refine V_callL hX 6 2 12 rfl rfl rfl (Nat.le_of_ble_eq_true rfl) (Nat.le_of_ble_eq_true rfl) (VR_V hX 3 (ct_SA_seriesWith (cx_t hX) K v1 v2 M) my_SA_seriesWith mi_SA_seriesWith ms_SA_seriesWith ml_SA_123 (Nat.le_of_ble_eq_true rfl) (Nat.le_of_ble_eq_true rfl) (by decide) (ent_0 K _) rfl rfl rfl (Nat.le_of_ble_eq_true rfl) rfl (Nat.le_of_ble_eq_true rfl) (Nat.le_of_ble_eq_true rfl)) (fun r3 M3 => VV_grd (fun hr3 => ?_))
  refine V_iload_n hX (j := 2) (hj := rfl) 4 7 rfl rfl ?_
  refine V_callI hX 10 2 12 rfl rfl rfl (Nat.le_of_ble_eq_true rfl) (Nat.le_of_ble_eq_true rfl) (VR_S hX 5 (ct_Pe_standsOut (cx_t hX) K r3 v2 M3) my_Pe_standsOut mt_Pe_standsOut ml_SA_197 (Nat.le_of_ble_eq_true rfl) (Nat.le_of_ble_eq_true rfl) rfl rfl (Nat.le_of_ble_eq_true rfl) rfl (Nat.le_of_ble_eq_true rfl) (Nat.le_of_ble_eq_true rfl)) (fun r7 M7 => ?_)
  refine VV_grd (fun hz1 => ?_)
  exact V_zret hX 6 rfl (vp_narZ hz1).1 (Nat.le_of_ble_eq_true rfl) (Nat.le_of_ble_eq_true rfl) rfl
set_option maxRecDepth 20000 in
theorem ct_SA_seriesWithPeak {l : Launch} (hl : l.stackTraces = false) (K : KT) (v1 : Int32) (v2 : Int32) (M : Mm) : CTp l K y_SA_seriesWithPeak (Cond.code y_SA_seriesWithPeak prog_1_method_69_code 4 (some (.object "SeriesArchive$Series"))) (fun z => some (.ref (kA K z))) 11 3 18 [.ref (kA K 0), .int v1, .int v2] M (fn_SA_seriesWithPeak v1 v2 M) := by
  refine CTp_of (L := L_SA_seriesWithPeak) (lc := [(0, .ref (kA K 0)), (1, .int v1), (2, .int v2)]) (by decide +kernel) dec_SA_seriesWithPeak hl rfl (Nat.le_of_ble_eq_true rfl) (fun X hX => ?_)
  unfold fn_SA_seriesWithPeak
  refine V_aload_n hX (j := 0) (hj := rfl) 0 1 rfl rfl ?_
  refine V_iload_n hX (j := 1) (hj := rfl) 1 2 rfl rfl ?_
  refine V_iload_n hX (j := 2) (hj := rfl) 2 3 rfl rfl ?_
  refine V_callL hX 6 2 12 rfl rfl rfl (Nat.le_of_ble_eq_true rfl) (Nat.le_of_ble_eq_true rfl) (VR_V hX 3 (ct_SA_seriesWith (cx_t hX) K v1 v2 M) my_SA_seriesWith mi_SA_seriesWith ms_SA_seriesWith ml_SA_123 (Nat.le_of_ble_eq_true rfl) (Nat.le_of_ble_eq_true rfl) (by decide) (ent_0 K _) rfl rfl rfl (Nat.le_of_ble_eq_true rfl) rfl (Nat.le_of_ble_eq_true rfl) (Nat.le_of_ble_eq_true rfl)) (fun r3 M3 => VV_grd (fun hr3 => ?_))
  refine V_astore_n hX 4 7 [(3, .ref (kA K r3)), (0, .ref (kA K 0)), (1, .int v1), (2, .int v2)] rfl rfl (Nat.le_of_ble_eq_true rfl) rfl ?_
  refine V_aload_n hX (j := 0) (hj := rfl) 5 8 rfl rfl ?_
  refine V_iload_n hX (j := 3) (hj := rfl) 6 9 rfl rfl ?_
  refine V_callI hX 12 2 12 rfl rfl rfl (Nat.le_of_ble_eq_true rfl) (Nat.le_of_ble_eq_true rfl) (VR_S hX 7 (ct_Pe_standsOut (cx_t hX) K r3 v2 M3) my_Pe_standsOut mt_Pe_standsOut ml_SA_197 (Nat.le_of_ble_eq_true rfl) (Nat.le_of_ble_eq_true rfl) rfl rfl (Nat.le_of_ble_eq_true rfl) rfl (Nat.le_of_ble_eq_true rfl) (Nat.le_of_ble_eq_true rfl)) (fun r9 M9 => ?_)
  refine V_if_ne hX 8 15 26 rfl rfl (by decide) (fun c12 => ?_) (fun c12 => ?_)
  · refine V_aload_n hX (j := 0) (hj := rfl) 14 27 rfl rfl ?_
    exact V_aret hX 15 "SeriesArchive$Series" rfl rfl (Nat.le_of_ble_eq_true rfl) (Nat.le_of_ble_eq_true rfl) rfl
  · exact V_throwN hX 9 3 rfl th_3_156_160 tx_440 (Nat.le_of_ble_eq_true rfl) (Nat.le_of_ble_eq_true rfl) (Nat.le_of_ble_eq_true rfl) (Nat.le_of_ble_eq_true rfl) rfl rfl rfl rfl rfl
set_option maxRecDepth 20000 in
theorem ct_SA_prominence {l : Launch} (hl : l.stackTraces = false) (K : KT) (v1 : Int32) (v2 : Int32) (M : Mm) : CTp l K y_SA_prominence (Cond.code y_SA_prominence prog_1_method_26_code 3 (some .int)) rvI 12 3 18 [.ref (kA K 0), .int v1, .int v2] M (fn_SA_prominence v1 v2 M) := by
  refine CTp_of (L := L_SA_prominence) (lc := [(0, .ref (kA K 0)), (1, .int v1), (2, .int v2)]) (by decide +kernel) dec_SA_prominence hl rfl (Nat.le_of_ble_eq_true rfl) (fun X hX => ?_)
  unfold fn_SA_prominence
  refine V_aload_n hX (j := 0) (hj := rfl) 0 1 rfl rfl ?_
  refine V_iload_n hX (j := 1) (hj := rfl) 1 2 rfl rfl ?_
  refine V_iload_n hX (j := 2) (hj := rfl) 2 3 rfl rfl ?_
  refine V_callL hX 6 3 18 rfl rfl rfl (Nat.le_of_ble_eq_true rfl) (Nat.le_of_ble_eq_true rfl) (VR_V hX 3 (ct_SA_seriesWithPeak (cx_t hX) K v1 v2 M) my_SA_seriesWithPeak mi_SA_seriesWithPeak ms_SA_seriesWithPeak ml_SA_201 (Nat.le_of_ble_eq_true rfl) (Nat.le_of_ble_eq_true rfl) (by decide) (ent_0 K _) rfl rfl rfl (Nat.le_of_ble_eq_true rfl) rfl (Nat.le_of_ble_eq_true rfl) (Nat.le_of_ble_eq_true rfl)) (fun r3 M3 => VV_grd (fun hr3 => ?_))
  refine V_iload_n hX (j := 2) (hj := rfl) 4 7 rfl rfl ?_
  refine V_callI hX 10 3 18 rfl rfl rfl (Nat.le_of_ble_eq_true rfl) (Nat.le_of_ble_eq_true rfl) (VR_S hX 5 (ct_Pe_heightBySides (cx_t hX) K r3 v2 M3) my_Pe_heightBySides mt_Pe_heightBySides ml_SA_204 (Nat.le_of_ble_eq_true rfl) (Nat.le_of_ble_eq_true rfl) rfl rfl (Nat.le_of_ble_eq_true rfl) rfl (Nat.le_of_ble_eq_true rfl) (Nat.le_of_ble_eq_true rfl)) (fun r7 M7 => ?_)
  exact V_iret hX 6 rfl (Nat.le_of_ble_eq_true rfl) (Nat.le_of_ble_eq_true rfl) rfl
set_option maxRecDepth 20000 in
theorem ct_SA_prominenceByLevels {l : Launch} (hl : l.stackTraces = false) (K : KT) (v1 : Int32) (v2 : Int32) (M : Mm) : CTp l K y_SA_prominenceByLevels (Cond.code y_SA_prominenceByLevels prog_1_method_27_code 3 (some .int)) rvI 12 3 18 [.ref (kA K 0), .int v1, .int v2] M (fn_SA_prominenceByLevels v1 v2 M) := by
  refine CTp_of (L := L_SA_prominenceByLevels) (lc := [(0, .ref (kA K 0)), (1, .int v1), (2, .int v2)]) (by decide +kernel) dec_SA_prominenceByLevels hl rfl (Nat.le_of_ble_eq_true rfl) (fun X hX => ?_)
  unfold fn_SA_prominenceByLevels
  refine V_aload_n hX (j := 0) (hj := rfl) 0 1 rfl rfl ?_
  refine V_iload_n hX (j := 1) (hj := rfl) 1 2 rfl rfl ?_
  refine V_iload_n hX (j := 2) (hj := rfl) 2 3 rfl rfl ?_
  refine V_callL hX 6 3 18 rfl rfl rfl (Nat.le_of_ble_eq_true rfl) (Nat.le_of_ble_eq_true rfl) (VR_V hX 3 (ct_SA_seriesWithPeak (cx_t hX) K v1 v2 M) my_SA_seriesWithPeak mi_SA_seriesWithPeak ms_SA_seriesWithPeak ml_SA_201 (Nat.le_of_ble_eq_true rfl) (Nat.le_of_ble_eq_true rfl) (by decide) (ent_0 K _) rfl rfl rfl (Nat.le_of_ble_eq_true rfl) rfl (Nat.le_of_ble_eq_true rfl) (Nat.le_of_ble_eq_true rfl)) (fun r3 M3 => VV_grd (fun hr3 => ?_))
  refine V_iload_n hX (j := 2) (hj := rfl) 4 7 rfl rfl ?_
  refine V_callI hX 10 3 18 rfl rfl rfl (Nat.le_of_ble_eq_true rfl) (Nat.le_of_ble_eq_true rfl) (VR_S hX 5 (ct_Pe_heightByLevels (cx_t hX) K r3 v2 M3) my_Pe_heightByLevels mt_Pe_heightByLevels ml_SA_207 (Nat.le_of_ble_eq_true rfl) (Nat.le_of_ble_eq_true rfl) rfl rfl (Nat.le_of_ble_eq_true rfl) rfl (Nat.le_of_ble_eq_true rfl) (Nat.le_of_ble_eq_true rfl)) (fun r7 M7 => ?_)
  exact V_iret hX 6 rfl (Nat.le_of_ble_eq_true rfl) (Nat.le_of_ble_eq_true rfl) rfl
set_option maxRecDepth 20000 in
theorem ct_SA_peakByProminence {l : Launch} (hl : l.stackTraces = false) (K : KT) (v1 : Int32) (v2 : Int32) (M : Mm) : CTp l K y_SA_peakByProminence (Cond.code y_SA_peakByProminence prog_1_method_28_code 3 (some .int)) rvI 10 2 12 [.ref (kA K 0), .int v1, .int v2] M (fn_SA_peakByProminence v1 v2 M) := by
  refine CTp_of (L := L_SA_peakByProminence) (lc := [(0, .ref (kA K 0)), (1, .int v1), (2, .int v2)]) (by decide +kernel) dec_SA_peakByProminence hl rfl (Nat.le_of_ble_eq_true rfl) (fun X hX => ?_)
  unfold fn_SA_peakByProminence
  refine V_aload_n hX (j := 0) (hj := rfl) 0 1 rfl rfl ?_
  refine V_iload_n hX (j := 1) (hj := rfl) 1 2 rfl rfl ?_
  refine V_callL hX 5 1 6 rfl rfl rfl (Nat.le_of_ble_eq_true rfl) (Nat.le_of_ble_eq_true rfl) (VR_V hX 2 (ct_SA_seriesIn (cx_t hX) K v1 M) my_SA_seriesIn mi_SA_seriesIn ms_SA_seriesIn ml_SA_113 (Nat.le_of_ble_eq_true rfl) (Nat.le_of_ble_eq_true rfl) (by decide) (ent_0 K _) rfl rfl rfl (Nat.le_of_ble_eq_true rfl) rfl (Nat.le_of_ble_eq_true rfl) (Nat.le_of_ble_eq_true rfl)) (fun r2 M2 => VV_grd (fun hr2 => ?_))
  refine V_iload_n hX (j := 2) (hj := rfl) 3 6 rfl rfl ?_
  refine V_callI hX 9 1 6 rfl rfl rfl (Nat.le_of_ble_eq_true rfl) (Nat.le_of_ble_eq_true rfl) (VR_S hX 4 (ct_Pe_ofRank (cx_t hX) K r2 v2 M2) my_Pe_ofRank mt_Pe_ofRank ml_SA_210 (Nat.le_of_ble_eq_true rfl) (Nat.le_of_ble_eq_true rfl) rfl rfl (Nat.le_of_ble_eq_true rfl) rfl (Nat.le_of_ble_eq_true rfl) (Nat.le_of_ble_eq_true rfl)) (fun r6 M6 => ?_)
  refine V_callI hX 12 2 12 rfl rfl rfl (Nat.le_of_ble_eq_true rfl) (Nat.le_of_ble_eq_true rfl) (VR_S hX 5 (ct_SA_found (cx_t hX) K r6 M6) my_SA_found mt_SA_found ml_SA_185 (Nat.le_of_ble_eq_true rfl) (Nat.le_of_ble_eq_true rfl) rfl rfl (Nat.le_of_ble_eq_true rfl) rfl (Nat.le_of_ble_eq_true rfl) (Nat.le_of_ble_eq_true rfl)) (fun r9 M9 => ?_)
  exact V_iret hX 6 rfl (Nat.le_of_ble_eq_true rfl) (Nat.le_of_ble_eq_true rfl) rfl
set_option maxRecDepth 20000 in
theorem ct_SA_filledSeries {l : Launch} (hl : l.stackTraces = false) (K : KT) (v1 : Int32) (M : Mm) : CTp l K y_SA_filledSeries (Cond.code y_SA_filledSeries prog_1_method_70_code 3 (some (.object "SeriesArchive$Series"))) (fun z => some (.ref (kA K z))) 10 2 12 [.ref (kA K 0), .int v1] M (fn_SA_filledSeries v1 M) := by
  refine CTp_of (L := L_SA_filledSeries) (lc := [(0, .ref (kA K 0)), (1, .int v1)]) (by decide +kernel) dec_SA_filledSeries hl rfl (Nat.le_of_ble_eq_true rfl) (fun X hX => ?_)
  unfold fn_SA_filledSeries
  refine V_aload_n hX (j := 0) (hj := rfl) 0 1 rfl rfl ?_
  refine V_iload_n hX (j := 1) (hj := rfl) 1 2 rfl rfl ?_
  refine V_callL hX 5 1 6 rfl rfl rfl (Nat.le_of_ble_eq_true rfl) (Nat.le_of_ble_eq_true rfl) (VR_V hX 2 (ct_SA_seriesIn (cx_t hX) K v1 M) my_SA_seriesIn mi_SA_seriesIn ms_SA_seriesIn ml_SA_113 (Nat.le_of_ble_eq_true rfl) (Nat.le_of_ble_eq_true rfl) (by decide) (ent_0 K _) rfl rfl rfl (Nat.le_of_ble_eq_true rfl) rfl (Nat.le_of_ble_eq_true rfl) (Nat.le_of_ble_eq_true rfl)) (fun r2 M2 => VV_grd (fun hr2 => ?_))
  refine V_astore_n hX 3 6 [(2, .ref (kA K r2)), (0, .ref (kA K 0)), (1, .int v1)] rfl rfl (Nat.le_of_ble_eq_true rfl) rfl ?_
  refine V_aload_n hX (j := 0) (hj := rfl) 4 7 rfl rfl ?_
  refine V_callI hX 10 1 6 rfl rfl rfl (Nat.le_of_ble_eq_true rfl) (Nat.le_of_ble_eq_true rfl) (VR_V hX 5 (ct_Se_isEmpty (cx_t hX) K r2 M2) my_Se_isEmpty mi_Se_isEmpty ms_Se_isEmpty ml_SA_166 (Nat.le_of_ble_eq_true rfl) (Nat.le_of_ble_eq_true rfl) (loc_ser hr2) (ent_ser K _ hr2) rfl rfl rfl (Nat.le_of_ble_eq_true rfl) rfl (Nat.le_of_ble_eq_true rfl) (Nat.le_of_ble_eq_true rfl)) (fun r7 M7 => ?_)
  refine V_if_eq hX 6 13 23 rfl rfl (by decide) (fun c10 => ?_) (fun c10 => ?_)
  · refine V_aload_n hX (j := 0) (hj := rfl) 12 24 rfl rfl ?_
    exact V_aret hX 13 "SeriesArchive$Series" rfl rfl (Nat.le_of_ble_eq_true rfl) (Nat.le_of_ble_eq_true rfl) rfl
  · exact V_throwS hX 7 2 th_2_332_336 tx_172 (Nat.le_of_ble_eq_true rfl) (Nat.le_of_ble_eq_true rfl) (Nat.le_of_ble_eq_true rfl) (Nat.le_of_ble_eq_true rfl) rfl rfl rfl rfl rfl
set_option maxRecDepth 20000 in
theorem ct_SA_bestSum {l : Launch} (hl : l.stackTraces = false) (K : KT) (v1 : Int32) (M : Mm) : CTp l K y_SA_bestSum (Cond.code y_SA_bestSum prog_1_method_29_code 2 (some .int)) rvI 11 2 12 [.ref (kA K 0), .int v1] M (fn_SA_bestSum v1 M) := by
  refine CTp_of (L := L_SA_bestSum) (lc := [(0, .ref (kA K 0)), (1, .int v1)]) (by decide +kernel) dec_SA_bestSum hl rfl (Nat.le_of_ble_eq_true rfl) (fun X hX => ?_)
  unfold fn_SA_bestSum
  refine V_aload_n hX (j := 0) (hj := rfl) 0 1 rfl rfl ?_
  refine V_iload_n hX (j := 1) (hj := rfl) 1 2 rfl rfl ?_
  refine V_callL hX 5 2 12 rfl rfl rfl (Nat.le_of_ble_eq_true rfl) (Nat.le_of_ble_eq_true rfl) (VR_V hX 2 (ct_SA_filledSeries (cx_t hX) K v1 M) my_SA_filledSeries mi_SA_filledSeries ms_SA_filledSeries ml_SA_213 (Nat.le_of_ble_eq_true rfl) (Nat.le_of_ble_eq_true rfl) (by decide) (ent_0 K _) rfl rfl rfl (Nat.le_of_ble_eq_true rfl) rfl (Nat.le_of_ble_eq_true rfl) (Nat.le_of_ble_eq_true rfl)) (fun r2 M2 => VV_grd (fun hr2 => ?_))
  refine V_callI hX 8 2 12 rfl rfl rfl (Nat.le_of_ble_eq_true rfl) (Nat.le_of_ble_eq_true rfl) (VR_S hX 3 (ct_Ra_bestTotal (cx_t hX) K r2 M2) my_Ra_bestTotal mt_Ra_bestTotal ml_SA_216 (Nat.le_of_ble_eq_true rfl) (Nat.le_of_ble_eq_true rfl) rfl rfl (Nat.le_of_ble_eq_true rfl) rfl (Nat.le_of_ble_eq_true rfl) (Nat.le_of_ble_eq_true rfl)) (fun r5 M5 => ?_)
  exact V_iret hX 4 rfl (Nat.le_of_ble_eq_true rfl) (Nat.le_of_ble_eq_true rfl) rfl
set_option maxRecDepth 20000 in
theorem ct_SA_bestSumByRanges {l : Launch} (hl : l.stackTraces = false) (K : KT) (v1 : Int32) (M : Mm) : CTp l K y_SA_bestSumByRanges (Cond.code y_SA_bestSumByRanges prog_1_method_30_code 2 (some .int)) rvI 11 2 12 [.ref (kA K 0), .int v1] M (fn_SA_bestSumByRanges v1 M) := by
  refine CTp_of (L := L_SA_bestSumByRanges) (lc := [(0, .ref (kA K 0)), (1, .int v1)]) (by decide +kernel) dec_SA_bestSumByRanges hl rfl (Nat.le_of_ble_eq_true rfl) (fun X hX => ?_)
  unfold fn_SA_bestSumByRanges
  refine V_aload_n hX (j := 0) (hj := rfl) 0 1 rfl rfl ?_
  refine V_iload_n hX (j := 1) (hj := rfl) 1 2 rfl rfl ?_
  refine V_callL hX 5 2 12 rfl rfl rfl (Nat.le_of_ble_eq_true rfl) (Nat.le_of_ble_eq_true rfl) (VR_V hX 2 (ct_SA_filledSeries (cx_t hX) K v1 M) my_SA_filledSeries mi_SA_filledSeries ms_SA_filledSeries ml_SA_213 (Nat.le_of_ble_eq_true rfl) (Nat.le_of_ble_eq_true rfl) (by decide) (ent_0 K _) rfl rfl rfl (Nat.le_of_ble_eq_true rfl) rfl (Nat.le_of_ble_eq_true rfl) (Nat.le_of_ble_eq_true rfl)) (fun r2 M2 => VV_grd (fun hr2 => ?_))
  refine V_callI hX 8 2 12 rfl rfl rfl (Nat.le_of_ble_eq_true rfl) (Nat.le_of_ble_eq_true rfl) (VR_S hX 3 (ct_Ra_bestTotalByRanges (cx_t hX) K r2 M2) my_Ra_bestTotalByRanges mt_Ra_bestTotalByRanges ml_SA_219 (Nat.le_of_ble_eq_true rfl) (Nat.le_of_ble_eq_true rfl) rfl rfl (Nat.le_of_ble_eq_true rfl) rfl (Nat.le_of_ble_eq_true rfl) (Nat.le_of_ble_eq_true rfl)) (fun r5 M5 => ?_)
  exact V_iret hX 4 rfl (Nat.le_of_ble_eq_true rfl) (Nat.le_of_ble_eq_true rfl) rfl
set_option maxRecDepth 20000 in
theorem ct_SA_bestStart {l : Launch} (hl : l.stackTraces = false) (K : KT) (v1 : Int32) (M : Mm) : CTp l K y_SA_bestStart (Cond.code y_SA_bestStart prog_1_method_31_code 2 (some .int)) rvI 11 2 12 [.ref (kA K 0), .int v1] M (fn_SA_bestStart v1 M) := by
  refine CTp_of (L := L_SA_bestStart) (lc := [(0, .ref (kA K 0)), (1, .int v1)]) (by decide +kernel) dec_SA_bestStart hl rfl (Nat.le_of_ble_eq_true rfl) (fun X hX => ?_)
  unfold fn_SA_bestStart
  refine V_aload_n hX (j := 0) (hj := rfl) 0 1 rfl rfl ?_
  refine V_iload_n hX (j := 1) (hj := rfl) 1 2 rfl rfl ?_
  refine V_callL hX 5 2 12 rfl rfl rfl (Nat.le_of_ble_eq_true rfl) (Nat.le_of_ble_eq_true rfl) (VR_V hX 2 (ct_SA_filledSeries (cx_t hX) K v1 M) my_SA_filledSeries mi_SA_filledSeries ms_SA_filledSeries ml_SA_213 (Nat.le_of_ble_eq_true rfl) (Nat.le_of_ble_eq_true rfl) (by decide) (ent_0 K _) rfl rfl rfl (Nat.le_of_ble_eq_true rfl) rfl (Nat.le_of_ble_eq_true rfl) (Nat.le_of_ble_eq_true rfl)) (fun r2 M2 => VV_grd (fun hr2 => ?_))
  refine V_callI hX 8 2 12 rfl rfl rfl (Nat.le_of_ble_eq_true rfl) (Nat.le_of_ble_eq_true rfl) (VR_S hX 3 (ct_Ra_firstOfBest (cx_t hX) K r2 M2) my_Ra_firstOfBest mt_Ra_firstOfBest ml_SA_222 (Nat.le_of_ble_eq_true rfl) (Nat.le_of_ble_eq_true rfl) rfl rfl (Nat.le_of_ble_eq_true rfl) rfl (Nat.le_of_ble_eq_true rfl) (Nat.le_of_ble_eq_true rfl)) (fun r5 M5 => ?_)
  exact V_iret hX 4 rfl (Nat.le_of_ble_eq_true rfl) (Nat.le_of_ble_eq_true rfl) rfl
set_option maxRecDepth 20000 in
theorem ct_SA_bestEnd {l : Launch} (hl : l.stackTraces = false) (K : KT) (v1 : Int32) (M : Mm) : CTp l K y_SA_bestEnd (Cond.code y_SA_bestEnd prog_1_method_32_code 2 (some .int)) rvI 11 2 12 [.ref (kA K 0), .int v1] M (fn_SA_bestEnd v1 M) := by
  refine CTp_of (L := L_SA_bestEnd) (lc := [(0, .ref (kA K 0)), (1, .int v1)]) (by decide +kernel) dec_SA_bestEnd hl rfl (Nat.le_of_ble_eq_true rfl) (fun X hX => ?_)
  unfold fn_SA_bestEnd
  refine V_aload_n hX (j := 0) (hj := rfl) 0 1 rfl rfl ?_
  refine V_iload_n hX (j := 1) (hj := rfl) 1 2 rfl rfl ?_
  refine V_callL hX 5 2 12 rfl rfl rfl (Nat.le_of_ble_eq_true rfl) (Nat.le_of_ble_eq_true rfl) (VR_V hX 2 (ct_SA_filledSeries (cx_t hX) K v1 M) my_SA_filledSeries mi_SA_filledSeries ms_SA_filledSeries ml_SA_213 (Nat.le_of_ble_eq_true rfl) (Nat.le_of_ble_eq_true rfl) (by decide) (ent_0 K _) rfl rfl rfl (Nat.le_of_ble_eq_true rfl) rfl (Nat.le_of_ble_eq_true rfl) (Nat.le_of_ble_eq_true rfl)) (fun r2 M2 => VV_grd (fun hr2 => ?_))
  refine V_callI hX 8 2 12 rfl rfl rfl (Nat.le_of_ble_eq_true rfl) (Nat.le_of_ble_eq_true rfl) (VR_S hX 3 (ct_Ra_lastOfBest (cx_t hX) K r2 M2) my_Ra_lastOfBest mt_Ra_lastOfBest ml_SA_225 (Nat.le_of_ble_eq_true rfl) (Nat.le_of_ble_eq_true rfl) rfl rfl (Nat.le_of_ble_eq_true rfl) rfl (Nat.le_of_ble_eq_true rfl) (Nat.le_of_ble_eq_true rfl)) (fun r5 M5 => ?_)
  exact V_iret hX 4 rfl (Nat.le_of_ble_eq_true rfl) (Nat.le_of_ble_eq_true rfl) rfl
set_option maxRecDepth 20000 in
theorem ct_SA_inversions {l : Launch} (hl : l.stackTraces = false) (K : KT) (v1 : Int32) (M : Mm) : CTp l K y_SA_inversions (Cond.code y_SA_inversions prog_1_method_33_code 2 (some .int)) rvI 50 1 6 [.ref (kA K 0), .int v1] M (fn_SA_inversions v1 M) := by
  refine CTp_of (L := L_SA_inversions) (lc := [(0, .ref (kA K 0)), (1, .int v1)]) (by decide +kernel) dec_SA_inversions hl rfl (Nat.le_of_ble_eq_true rfl) (fun X hX => ?_)
  unfold fn_SA_inversions
  refine V_aload_n hX (j := 0) (hj := rfl) 0 1 rfl rfl ?_
  refine V_get hX 1 4 0 (.ref (kA K 21)) fl_SA_54 rfl rfl (by decide) (ent_0 K _) rfl ?_
  refine V_aload_n hX (j := 0) (hj := rfl) 2 5 rfl rfl ?_
  refine V_iload_n hX (j := 1) (hj := rfl) 3 6 rfl rfl ?_
  refine V_callL hX 9 1 6 rfl rfl rfl (Nat.le_of_ble_eq_true rfl) (Nat.le_of_ble_eq_true rfl) (VR_V hX 4 (ct_SA_seriesIn (cx_t hX) K v1 M) my_SA_seriesIn mi_SA_seriesIn ms_SA_seriesIn ml_SA_113 (Nat.le_of_ble_eq_true rfl) (Nat.le_of_ble_eq_true rfl) (by decide) (ent_0 K _) rfl rfl rfl (Nat.le_of_ble_eq_true rfl) rfl (Nat.le_of_ble_eq_true rfl) (Nat.le_of_ble_eq_true rfl)) (fun r6 M6 => VV_grd (fun hr6 => ?_))
  refine V_callI hX 12 1 6 rfl rfl rfl (Nat.le_of_ble_eq_true rfl) (Nat.le_of_ble_eq_true rfl) (VR_V hX 5 (ct_Ra_fallingPairs (cx_t hX) K r6 M6) my_Ra_fallingPairs mi_Ra_fallingPairs ms_Ra_fallingPairs ml_SA_228 (Nat.le_of_ble_eq_true rfl) (Nat.le_of_ble_eq_true rfl) (by decide) (ent_21 K _) rfl rfl rfl (Nat.le_of_ble_eq_true rfl) rfl (Nat.le_of_ble_eq_true rfl) (Nat.le_of_ble_eq_true rfl)) (fun r9 M9 => ?_)
  exact V_iret hX 6 rfl (Nat.le_of_ble_eq_true rfl) (Nat.le_of_ble_eq_true rfl) rfl
set_option maxRecDepth 20000 in
theorem ct_SA_inversionsByPairs {l : Launch} (hl : l.stackTraces = false) (K : KT) (v1 : Int32) (M : Mm) : CTp l K y_SA_inversionsByPairs (Cond.code y_SA_inversionsByPairs prog_1_method_34_code 2 (some .int)) rvI 10 1 6 [.ref (kA K 0), .int v1] M (fn_SA_inversionsByPairs v1 M) := by
  refine CTp_of (L := L_SA_inversionsByPairs) (lc := [(0, .ref (kA K 0)), (1, .int v1)]) (by decide +kernel) dec_SA_inversionsByPairs hl rfl (Nat.le_of_ble_eq_true rfl) (fun X hX => ?_)
  unfold fn_SA_inversionsByPairs
  refine V_aload_n hX (j := 0) (hj := rfl) 0 1 rfl rfl ?_
  refine V_iload_n hX (j := 1) (hj := rfl) 1 2 rfl rfl ?_
  refine V_callL hX 5 1 6 rfl rfl rfl (Nat.le_of_ble_eq_true rfl) (Nat.le_of_ble_eq_true rfl) (VR_V hX 2 (ct_SA_seriesIn (cx_t hX) K v1 M) my_SA_seriesIn mi_SA_seriesIn ms_SA_seriesIn ml_SA_113 (Nat.le_of_ble_eq_true rfl) (Nat.le_of_ble_eq_true rfl) (by decide) (ent_0 K _) rfl rfl rfl (Nat.le_of_ble_eq_true rfl) rfl (Nat.le_of_ble_eq_true rfl) (Nat.le_of_ble_eq_true rfl)) (fun r2 M2 => VV_grd (fun hr2 => ?_))
  refine V_callI hX 8 1 6 rfl rfl rfl (Nat.le_of_ble_eq_true rfl) (Nat.le_of_ble_eq_true rfl) (VR_S hX 3 (ct_Ra_fallingPairsByPairs (cx_t hX) K r2 M2) my_Ra_fallingPairsByPairs mt_Ra_fallingPairsByPairs ml_SA_231 (Nat.le_of_ble_eq_true rfl) (Nat.le_of_ble_eq_true rfl) rfl rfl (Nat.le_of_ble_eq_true rfl) rfl (Nat.le_of_ble_eq_true rfl) (Nat.le_of_ble_eq_true rfl)) (fun r5 M5 => ?_)
  exact V_iret hX 4 rfl (Nat.le_of_ble_eq_true rfl) (Nat.le_of_ble_eq_true rfl) rfl
set_option maxRecDepth 20000 in
theorem ct_SA_leastPeriod {l : Launch} (hl : l.stackTraces = false) (K : KT) (v1 : Int32) (M : Mm) : CTp l K y_SA_leastPeriod (Cond.code y_SA_leastPeriod prog_1_method_35_code 2 (some .int)) rvI 11 2 12 [.ref (kA K 0), .int v1] M (fn_SA_leastPeriod v1 M) := by
  refine CTp_of (L := L_SA_leastPeriod) (lc := [(0, .ref (kA K 0)), (1, .int v1)]) (by decide +kernel) dec_SA_leastPeriod hl rfl (Nat.le_of_ble_eq_true rfl) (fun X hX => ?_)
  unfold fn_SA_leastPeriod
  refine V_aload_n hX (j := 0) (hj := rfl) 0 1 rfl rfl ?_
  refine V_get hX 1 4 0 (.ref (kA K 26)) fl_SA_61 rfl rfl (by decide) (ent_0 K _) rfl ?_
  refine V_aload_n hX (j := 0) (hj := rfl) 2 5 rfl rfl ?_
  refine V_iload_n hX (j := 1) (hj := rfl) 3 6 rfl rfl ?_
  refine V_callL hX 9 2 12 rfl rfl rfl (Nat.le_of_ble_eq_true rfl) (Nat.le_of_ble_eq_true rfl) (VR_V hX 4 (ct_SA_filledSeries (cx_t hX) K v1 M) my_SA_filledSeries mi_SA_filledSeries ms_SA_filledSeries ml_SA_213 (Nat.le_of_ble_eq_true rfl) (Nat.le_of_ble_eq_true rfl) (by decide) (ent_0 K _) rfl rfl rfl (Nat.le_of_ble_eq_true rfl) rfl (Nat.le_of_ble_eq_true rfl) (Nat.le_of_ble_eq_true rfl)) (fun r6 M6 => VV_grd (fun hr6 => ?_))
  refine V_callI hX 12 2 12 rfl rfl rfl (Nat.le_of_ble_eq_true rfl) (Nat.le_of_ble_eq_true rfl) (VR_V hX 5 (ct_Pa_period (cx_t hX) K r6 M6) my_Pa_period mi_Pa_period ms_Pa_period ml_SA_234 (Nat.le_of_ble_eq_true rfl) (Nat.le_of_ble_eq_true rfl) (by decide) (ent_26 K _) rfl rfl rfl (Nat.le_of_ble_eq_true rfl) rfl (Nat.le_of_ble_eq_true rfl) (Nat.le_of_ble_eq_true rfl)) (fun r9 M9 => ?_)
  exact V_iret hX 6 rfl (Nat.le_of_ble_eq_true rfl) (Nat.le_of_ble_eq_true rfl) rfl
set_option maxRecDepth 20000 in
theorem ct_SA_leastPeriodByTrial {l : Launch} (hl : l.stackTraces = false) (K : KT) (v1 : Int32) (M : Mm) : CTp l K y_SA_leastPeriodByTrial (Cond.code y_SA_leastPeriodByTrial prog_1_method_36_code 2 (some .int)) rvI 11 2 12 [.ref (kA K 0), .int v1] M (fn_SA_leastPeriodByTrial v1 M) := by
  refine CTp_of (L := L_SA_leastPeriodByTrial) (lc := [(0, .ref (kA K 0)), (1, .int v1)]) (by decide +kernel) dec_SA_leastPeriodByTrial hl rfl (Nat.le_of_ble_eq_true rfl) (fun X hX => ?_)
  unfold fn_SA_leastPeriodByTrial
  refine V_aload_n hX (j := 0) (hj := rfl) 0 1 rfl rfl ?_
  refine V_iload_n hX (j := 1) (hj := rfl) 1 2 rfl rfl ?_
  refine V_callL hX 5 2 12 rfl rfl rfl (Nat.le_of_ble_eq_true rfl) (Nat.le_of_ble_eq_true rfl) (VR_V hX 2 (ct_SA_filledSeries (cx_t hX) K v1 M) my_SA_filledSeries mi_SA_filledSeries ms_SA_filledSeries ml_SA_213 (Nat.le_of_ble_eq_true rfl) (Nat.le_of_ble_eq_true rfl) (by decide) (ent_0 K _) rfl rfl rfl (Nat.le_of_ble_eq_true rfl) rfl (Nat.le_of_ble_eq_true rfl) (Nat.le_of_ble_eq_true rfl)) (fun r2 M2 => VV_grd (fun hr2 => ?_))
  refine V_callI hX 8 2 12 rfl rfl rfl (Nat.le_of_ble_eq_true rfl) (Nat.le_of_ble_eq_true rfl) (VR_S hX 3 (ct_Pa_periodByTrial (cx_t hX) K r2 M2) my_Pa_periodByTrial mt_Pa_periodByTrial ml_SA_237 (Nat.le_of_ble_eq_true rfl) (Nat.le_of_ble_eq_true rfl) rfl rfl (Nat.le_of_ble_eq_true rfl) rfl (Nat.le_of_ble_eq_true rfl) (Nat.le_of_ble_eq_true rfl)) (fun r5 M5 => ?_)
  exact V_iret hX 4 rfl (Nat.le_of_ble_eq_true rfl) (Nat.le_of_ble_eq_true rfl) rfl
set_option maxRecDepth 20000 in
theorem ct_SA_occurrences {l : Launch} (hl : l.stackTraces = false) (K : KT) (v1 : Int32) (v2 : Int32) (M : Mm) : CTp l K y_SA_occurrences (Cond.code y_SA_occurrences prog_1_method_37_code 4 (some .int)) rvI 11 3 18 [.ref (kA K 0), .int v1, .int v2] M (fn_SA_occurrences v1 v2 M) := by
  refine CTp_of (L := L_SA_occurrences) (lc := [(0, .ref (kA K 0)), (1, .int v1), (2, .int v2)]) (by decide +kernel) dec_SA_occurrences hl rfl (Nat.le_of_ble_eq_true rfl) (fun X hX => ?_)
  unfold fn_SA_occurrences
  refine V_aload_n hX (j := 0) (hj := rfl) 0 1 rfl rfl ?_
  refine V_iload_n hX (j := 1) (hj := rfl) 1 2 rfl rfl ?_
  refine V_callL hX 5 1 6 rfl rfl rfl (Nat.le_of_ble_eq_true rfl) (Nat.le_of_ble_eq_true rfl) (VR_V hX 2 (ct_SA_seriesIn (cx_t hX) K v1 M) my_SA_seriesIn mi_SA_seriesIn ms_SA_seriesIn ml_SA_113 (Nat.le_of_ble_eq_true rfl) (Nat.le_of_ble_eq_true rfl) (by decide) (ent_0 K _) rfl rfl rfl (Nat.le_of_ble_eq_true rfl) rfl (Nat.le_of_ble_eq_true rfl) (Nat.le_of_ble_eq_true rfl)) (fun r2 M2 => VV_grd (fun hr2 => ?_))
  refine V_astore_n hX 3 6 [(3, .ref (kA K r2)), (0, .ref (kA K 0)), (1, .int v1), (2, .int v2)] rfl rfl (Nat.le_of_ble_eq_true rfl) rfl ?_
  refine V_aload_n hX (j := 1) (hj := rfl) 4 7 rfl rfl ?_
  refine V_get hX 5 10 0 (.ref (kA K 26)) fl_SA_61 rfl rfl (by decide) (ent_0 K _) rfl ?_
  refine V_aload_n hX (j := 0) (hj := rfl) 6 11 rfl rfl ?_
  refine V_aload_n hX (j := 1) (hj := rfl) 7 12 rfl rfl ?_
  refine V_iload_n hX (j := 3) (hj := rfl) 8 13 rfl rfl ?_
  refine V_callL hX 16 3 18 rfl rfl rfl (Nat.le_of_ble_eq_true rfl) (Nat.le_of_ble_eq_true rfl) (VR_V hX 9 (ct_SA_filledSeries (cx_t hX) K v2 M2) my_SA_filledSeries mi_SA_filledSeries ms_SA_filledSeries ml_SA_213 (Nat.le_of_ble_eq_true rfl) (Nat.le_of_ble_eq_true rfl) (by decide) (ent_0 K _) rfl rfl rfl (Nat.le_of_ble_eq_true rfl) rfl (Nat.le_of_ble_eq_true rfl) (Nat.le_of_ble_eq_true rfl)) (fun r13 M13 => VV_grd (fun hr13 => ?_))
  refine V_callI hX 19 3 18 rfl rfl rfl (Nat.le_of_ble_eq_true rfl) (Nat.le_of_ble_eq_true rfl) (VR_V hX 10 (ct_Pa_places (cx_t hX) K r2 r13 M13) my_Pa_places mi_Pa_places ms_Pa_places ml_SA_240 (Nat.le_of_ble_eq_true rfl) (Nat.le_of_ble_eq_true rfl) (by decide) (ent_26 K _) rfl rfl rfl (Nat.le_of_ble_eq_true rfl) rfl (Nat.le_of_ble_eq_true rfl) (Nat.le_of_ble_eq_true rfl)) (fun r16 M16 => ?_)
  exact V_iret hX 11 rfl (Nat.le_of_ble_eq_true rfl) (Nat.le_of_ble_eq_true rfl) rfl
set_option maxRecDepth 20000 in
theorem ct_SA_occurrencesByScan {l : Launch} (hl : l.stackTraces = false) (K : KT) (v1 : Int32) (v2 : Int32) (M : Mm) : CTp l K y_SA_occurrencesByScan (Cond.code y_SA_occurrencesByScan prog_1_method_38_code 4 (some .int)) rvI 11 3 18 [.ref (kA K 0), .int v1, .int v2] M (fn_SA_occurrencesByScan v1 v2 M) := by
  refine CTp_of (L := L_SA_occurrencesByScan) (lc := [(0, .ref (kA K 0)), (1, .int v1), (2, .int v2)]) (by decide +kernel) dec_SA_occurrencesByScan hl rfl (Nat.le_of_ble_eq_true rfl) (fun X hX => ?_)
  unfold fn_SA_occurrencesByScan
  refine V_aload_n hX (j := 0) (hj := rfl) 0 1 rfl rfl ?_
  refine V_iload_n hX (j := 1) (hj := rfl) 1 2 rfl rfl ?_
  refine V_callL hX 5 1 6 rfl rfl rfl (Nat.le_of_ble_eq_true rfl) (Nat.le_of_ble_eq_true rfl) (VR_V hX 2 (ct_SA_seriesIn (cx_t hX) K v1 M) my_SA_seriesIn mi_SA_seriesIn ms_SA_seriesIn ml_SA_113 (Nat.le_of_ble_eq_true rfl) (Nat.le_of_ble_eq_true rfl) (by decide) (ent_0 K _) rfl rfl rfl (Nat.le_of_ble_eq_true rfl) rfl (Nat.le_of_ble_eq_true rfl) (Nat.le_of_ble_eq_true rfl)) (fun r2 M2 => VV_grd (fun hr2 => ?_))
  refine V_astore_n hX 3 6 [(3, .ref (kA K r2)), (0, .ref (kA K 0)), (1, .int v1), (2, .int v2)] rfl rfl (Nat.le_of_ble_eq_true rfl) rfl ?_
  refine V_aload_n hX (j := 0) (hj := rfl) 4 7 rfl rfl ?_
  refine V_aload_n hX (j := 1) (hj := rfl) 5 8 rfl rfl ?_
  refine V_iload_n hX (j := 3) (hj := rfl) 6 9 rfl rfl ?_
  refine V_callL hX 12 3 18 rfl rfl rfl (Nat.le_of_ble_eq_true rfl) (Nat.le_of_ble_eq_true rfl) (VR_V hX 7 (ct_SA_filledSeries (cx_t hX) K v2 M2) my_SA_filledSeries mi_SA_filledSeries ms_SA_filledSeries ml_SA_213 (Nat.le_of_ble_eq_true rfl) (Nat.le_of_ble_eq_true rfl) (by decide) (ent_0 K _) rfl rfl rfl (Nat.le_of_ble_eq_true rfl) rfl (Nat.le_of_ble_eq_true rfl) (Nat.le_of_ble_eq_true rfl)) (fun r9 M9 => VV_grd (fun hr9 => ?_))
  refine V_callI hX 15 3 18 rfl rfl rfl (Nat.le_of_ble_eq_true rfl) (Nat.le_of_ble_eq_true rfl) (VR_S hX 8 (ct_Pa_placesByScan (cx_t hX) K r2 r9 M9) my_Pa_placesByScan mt_Pa_placesByScan ml_SA_244 (Nat.le_of_ble_eq_true rfl) (Nat.le_of_ble_eq_true rfl) rfl rfl (Nat.le_of_ble_eq_true rfl) rfl (Nat.le_of_ble_eq_true rfl) (Nat.le_of_ble_eq_true rfl)) (fun r12 M12 => ?_)
  exact V_iret hX 9 rfl (Nat.le_of_ble_eq_true rfl) (Nat.le_of_ble_eq_true rfl) rfl
set_option maxRecDepth 20000 in
theorem ct_SA_divisibleSeries {l : Launch} (hl : l.stackTraces = false) (K : KT) (v1 : Int32) (v2 : Int32) (M : Mm) : CTp l K y_SA_divisibleSeries (Cond.code y_SA_divisibleSeries prog_1_method_71_code 4 (some (.object "SeriesArchive$Series"))) (fun z => some (.ref (kA K z))) 10 2 12 [.ref (kA K 0), .int v1, .int v2] M (fn_SA_divisibleSeries v1 v2 M) := by
  refine CTp_of (L := L_SA_divisibleSeries) (lc := [(0, .ref (kA K 0)), (1, .int v1), (2, .int v2)]) (by decide +kernel) dec_SA_divisibleSeries hl rfl (Nat.le_of_ble_eq_true rfl) (fun X hX => ?_)
  unfold fn_SA_divisibleSeries
  refine V_aload_n hX (j := 0) (hj := rfl) 0 1 rfl rfl ?_
  refine V_iload_n hX (j := 1) (hj := rfl) 1 2 rfl rfl ?_
  refine V_callL hX 5 1 6 rfl rfl rfl (Nat.le_of_ble_eq_true rfl) (Nat.le_of_ble_eq_true rfl) (VR_V hX 2 (ct_SA_seriesIn (cx_t hX) K v1 M) my_SA_seriesIn mi_SA_seriesIn ms_SA_seriesIn ml_SA_113 (Nat.le_of_ble_eq_true rfl) (Nat.le_of_ble_eq_true rfl) (by decide) (ent_0 K _) rfl rfl rfl (Nat.le_of_ble_eq_true rfl) rfl (Nat.le_of_ble_eq_true rfl) (Nat.le_of_ble_eq_true rfl)) (fun r2 M2 => VV_grd (fun hr2 => ?_))
  refine V_astore_n hX 3 6 [(3, .ref (kA K r2)), (0, .ref (kA K 0)), (1, .int v1), (2, .int v2)] rfl rfl (Nat.le_of_ble_eq_true rfl) rfl ?_
  refine V_iload_n hX (j := 3) (hj := rfl) 4 7 rfl rfl ?_
  refine V_iconst hX (v := 1) (hv := by decide) 5 8 rfl rfl ?_
  refine V_icmp_lt hX 6 11 16 rfl rfl (by decide) (fun c8 => ?_) (fun c8 => ?_)
  · exact V_throw hX 10 1 th_1_324_328 tx_442 (Nat.le_of_ble_eq_true rfl) (Nat.le_of_ble_eq_true rfl) (Nat.le_of_ble_eq_true rfl) (Nat.le_of_ble_eq_true rfl) rfl rfl rfl rfl rfl
  · refine V_iload_n hX (j := 3) (hj := rfl) 7 12 rfl rfl ?_
    refine V_iconst hX (v := 4) (hv := by decide) 8 13 rfl rfl ?_
    refine V_icmp_le hX 9 16 27 rfl rfl (by decide) (fun c13 => ?_) (fun c13 => ?_)
    · refine V_aload_n hX (j := 0) (hj := rfl) 15 28 rfl rfl ?_
      refine V_callI hX 31 1 6 rfl rfl rfl (Nat.le_of_ble_eq_true rfl) (Nat.le_of_ble_eq_true rfl) (VR_V hX 16 (ct_Se_size (cx_t hX) K r2 M2) my_Se_size mi_Se_size ms_Se_size ml_SA_117 (Nat.le_of_ble_eq_true rfl) (Nat.le_of_ble_eq_true rfl) (loc_ser hr2) (ent_ser K _ hr2) rfl rfl rfl (Nat.le_of_ble_eq_true rfl) rfl (Nat.le_of_ble_eq_true rfl) (Nat.le_of_ble_eq_true rfl)) (fun r28 M28 => ?_)
      refine V_iload_n hX (j := 3) (hj := rfl) 17 32 rfl rfl ?_
      refine V_icmp_ge hX 18 35 46 rfl rfl (by decide) (fun c32 => ?_) (fun c32 => ?_)
      · refine V_aload_n hX (j := 0) (hj := rfl) 24 47 rfl rfl ?_
        exact V_aret hX 25 "SeriesArchive$Series" rfl rfl (Nat.le_of_ble_eq_true rfl) (Nat.le_of_ble_eq_true rfl) rfl
      · exact V_throw hX 19 2 th_2_332_336 tx_444 (Nat.le_of_ble_eq_true rfl) (Nat.le_of_ble_eq_true rfl) (Nat.le_of_ble_eq_true rfl) (Nat.le_of_ble_eq_true rfl) rfl rfl rfl rfl rfl
    · exact V_throw hX 10 1 th_1_324_328 tx_442 (Nat.le_of_ble_eq_true rfl) (Nat.le_of_ble_eq_true rfl) (Nat.le_of_ble_eq_true rfl) (Nat.le_of_ble_eq_true rfl) rfl rfl rfl rfl rfl
set_option maxRecDepth 20000 in
theorem ct_SA_leastError {l : Launch} (hl : l.stackTraces = false) (K : KT) (v1 : Int32) (v2 : Int32) (M : Mm) : CTp l K y_SA_leastError (Cond.code y_SA_leastError prog_1_method_39_code 3 (some .int)) rvI 11 2 12 [.ref (kA K 0), .int v1, .int v2] M (fn_SA_leastError v1 v2 M) := by
  refine CTp_of (L := L_SA_leastError) (lc := [(0, .ref (kA K 0)), (1, .int v1), (2, .int v2)]) (by decide +kernel) dec_SA_leastError hl rfl (Nat.le_of_ble_eq_true rfl) (fun X hX => ?_)
  unfold fn_SA_leastError
  refine V_aload_n hX (j := 0) (hj := rfl) 0 1 rfl rfl ?_
  refine V_get hX 1 4 0 (.ref (kA K 28)) fl_SA_68 rfl rfl (by decide) (ent_0 K _) rfl ?_
  refine V_aload_n hX (j := 0) (hj := rfl) 2 5 rfl rfl ?_
  refine V_iload_n hX (j := 1) (hj := rfl) 3 6 rfl rfl ?_
  refine V_iload_n hX (j := 2) (hj := rfl) 4 7 rfl rfl ?_
  refine V_callL hX 10 2 12 rfl rfl rfl (Nat.le_of_ble_eq_true rfl) (Nat.le_of_ble_eq_true rfl) (VR_V hX 5 (ct_SA_divisibleSeries (cx_t hX) K v1 v2 M) my_SA_divisibleSeries mi_SA_divisibleSeries ms_SA_divisibleSeries ml_SA_247 (Nat.le_of_ble_eq_true rfl) (Nat.le_of_ble_eq_true rfl) (by decide) (ent_0 K _) rfl rfl rfl (Nat.le_of_ble_eq_true rfl) rfl (Nat.le_of_ble_eq_true rfl) (Nat.le_of_ble_eq_true rfl)) (fun r7 M7 => VV_grd (fun hr7 => ?_))
  refine V_iload_n hX (j := 2) (hj := rfl) 6 11 rfl rfl ?_
  refine V_callI hX 14 2 12 rfl rfl rfl (Nat.le_of_ble_eq_true rfl) (Nat.le_of_ble_eq_true rfl) (VR_V hX 7 (ct_Di_error (cx_t hX) K r7 v2 M7) my_Di_error mi_Di_error ms_Di_error ml_SA_250 (Nat.le_of_ble_eq_true rfl) (Nat.le_of_ble_eq_true rfl) (by decide) (ent_28 K _) rfl rfl rfl (Nat.le_of_ble_eq_true rfl) rfl (Nat.le_of_ble_eq_true rfl) (Nat.le_of_ble_eq_true rfl)) (fun r11 M11 => ?_)
  exact V_iret hX 8 rfl (Nat.le_of_ble_eq_true rfl) (Nat.le_of_ble_eq_true rfl) rfl
set_option maxRecDepth 20000 in
theorem ct_SA_leastErrorByCuts {l : Launch} (hl : l.stackTraces = false) (K : KT) (v1 : Int32) (v2 : Int32) (M : Mm) : CTp l K y_SA_leastErrorByCuts (Cond.code y_SA_leastErrorByCuts prog_1_method_40_code 3 (some .int)) rvI 51 2 12 [.ref (kA K 0), .int v1, .int v2] M (fn_SA_leastErrorByCuts v1 v2 M) := by
  refine CTp_of (L := L_SA_leastErrorByCuts) (lc := [(0, .ref (kA K 0)), (1, .int v1), (2, .int v2)]) (by decide +kernel) dec_SA_leastErrorByCuts hl rfl (Nat.le_of_ble_eq_true rfl) (fun X hX => ?_)
  unfold fn_SA_leastErrorByCuts
  refine V_aload_n hX (j := 0) (hj := rfl) 0 1 rfl rfl ?_
  refine V_iload_n hX (j := 1) (hj := rfl) 1 2 rfl rfl ?_
  refine V_iload_n hX (j := 2) (hj := rfl) 2 3 rfl rfl ?_
  refine V_callL hX 6 2 12 rfl rfl rfl (Nat.le_of_ble_eq_true rfl) (Nat.le_of_ble_eq_true rfl) (VR_V hX 3 (ct_SA_divisibleSeries (cx_t hX) K v1 v2 M) my_SA_divisibleSeries mi_SA_divisibleSeries ms_SA_divisibleSeries ml_SA_247 (Nat.le_of_ble_eq_true rfl) (Nat.le_of_ble_eq_true rfl) (by decide) (ent_0 K _) rfl rfl rfl (Nat.le_of_ble_eq_true rfl) rfl (Nat.le_of_ble_eq_true rfl) (Nat.le_of_ble_eq_true rfl)) (fun r3 M3 => VV_grd (fun hr3 => ?_))
  refine V_iload_n hX (j := 2) (hj := rfl) 4 7 rfl rfl ?_
  refine V_callI hX 10 2 12 rfl rfl rfl (Nat.le_of_ble_eq_true rfl) (Nat.le_of_ble_eq_true rfl) (VR_S hX 5 (ct_Di_errorByCuts (cx_t hX) K r3 v2 M3) my_Di_errorByCuts mt_Di_errorByCuts ml_SA_253 (Nat.le_of_ble_eq_true rfl) (Nat.le_of_ble_eq_true rfl) rfl rfl (Nat.le_of_ble_eq_true rfl) rfl (Nat.le_of_ble_eq_true rfl) (Nat.le_of_ble_eq_true rfl)) (fun r7 M7 => ?_)
  exact V_iret hX 6 rfl (Nat.le_of_ble_eq_true rfl) (Nat.le_of_ble_eq_true rfl) rfl
set_option maxRecDepth 20000 in
theorem ct_SA_segmentStart {l : Launch} (hl : l.stackTraces = false) (K : KT) (v1 : Int32) (v2 : Int32) (v3 : Int32) (M : Mm) : CTp l K y_SA_segmentStart (Cond.code y_SA_segmentStart prog_1_method_41_code 5 (some .int)) rvI 11 3 18 [.ref (kA K 0), .int v1, .int v2, .int v3] M (fn_SA_segmentStart v1 v2 v3 M) := by
  refine CTp_of (L := L_SA_segmentStart) (lc := [(0, .ref (kA K 0)), (1, .int v1), (2, .int v2), (3, .int v3)]) (by decide +kernel) dec_SA_segmentStart hl rfl (Nat.le_of_ble_eq_true rfl) (fun X hX => ?_)
  unfold fn_SA_segmentStart
  refine V_aload_n hX (j := 0) (hj := rfl) 0 1 rfl rfl ?_
  refine V_iload_n hX (j := 1) (hj := rfl) 1 2 rfl rfl ?_
  refine V_iload_n hX (j := 2) (hj := rfl) 2 3 rfl rfl ?_
  refine V_callL hX 6 2 12 rfl rfl rfl (Nat.le_of_ble_eq_true rfl) (Nat.le_of_ble_eq_true rfl) (VR_V hX 3 (ct_SA_divisibleSeries (cx_t hX) K v1 v2 M) my_SA_divisibleSeries mi_SA_divisibleSeries ms_SA_divisibleSeries ml_SA_247 (Nat.le_of_ble_eq_true rfl) (Nat.le_of_ble_eq_true rfl) (by decide) (ent_0 K _) rfl rfl rfl (Nat.le_of_ble_eq_true rfl) rfl (Nat.le_of_ble_eq_true rfl) (Nat.le_of_ble_eq_true rfl)) (fun r3 M3 => VV_grd (fun hr3 => ?_))
  refine V_astore hX 4 8 [(4, .ref (kA K r3)), (0, .ref (kA K 0)), (1, .int v1), (2, .int v2), (3, .int v3)] rfl rfl (Nat.le_of_ble_eq_true rfl) rfl ?_
  refine V_iload_n hX (j := 4) (hj := rfl) 5 9 rfl rfl ?_
  refine V_if_lt hX 6 12 17 rfl rfl (by decide) (fun c9 => ?_) (fun c9 => ?_)
  · exact V_throwN hX 10 3 rfl th_3_156_160 tx_256 (Nat.le_of_ble_eq_true rfl) (Nat.le_of_ble_eq_true rfl) (Nat.le_of_ble_eq_true rfl) (Nat.le_of_ble_eq_true rfl) rfl rfl rfl rfl rfl
  · refine V_iload_n hX (j := 4) (hj := rfl) 7 13 rfl rfl ?_
    refine V_iload_n hX (j := 3) (hj := rfl) 8 14 rfl rfl ?_
    refine V_icmp_lt hX 9 17 28 rfl rfl (by decide) (fun c14 => ?_) (fun c14 => ?_)
    · refine V_aload_n hX (j := 1) (hj := rfl) 15 29 rfl rfl ?_
      refine V_get hX 16 32 0 (.ref (kA K 28)) fl_SA_68 rfl rfl (by decide) (ent_0 K _) rfl ?_
      refine V_aload hX (j := 0) (hj := rfl) 17 34 rfl rfl ?_
      refine V_iload_n hX (j := 3) (hj := rfl) 18 35 rfl rfl ?_
      refine V_iload_n hX (j := 4) (hj := rfl) 19 36 rfl rfl ?_
      refine V_callI hX 39 2 12 rfl rfl rfl (Nat.le_of_ble_eq_true rfl) (Nat.le_of_ble_eq_true rfl) (VR_V hX 20 (ct_Di_start (cx_t hX) K r3 v2 v3 M3) my_Di_start mi_Di_start ms_Di_start ml_SA_258 (Nat.le_of_ble_eq_true rfl) (Nat.le_of_ble_eq_true rfl) (by decide) (ent_28 K _) rfl rfl rfl (Nat.le_of_ble_eq_true rfl) rfl (Nat.le_of_ble_eq_true rfl) (Nat.le_of_ble_eq_true rfl)) (fun r36 M36 => ?_)
      exact V_iret hX 21 rfl (Nat.le_of_ble_eq_true rfl) (Nat.le_of_ble_eq_true rfl) rfl
    · exact V_throwN hX 10 3 rfl th_3_156_160 tx_256 (Nat.le_of_ble_eq_true rfl) (Nat.le_of_ble_eq_true rfl) (Nat.le_of_ble_eq_true rfl) (Nat.le_of_ble_eq_true rfl) rfl rfl rfl rfl rfl
set_option maxRecDepth 20000 in
theorem ct_SA_needBothFilled {l : Launch} (hl : l.stackTraces = false) (K : KT) (v1 : Int32) (v2 : Int32) (M : Mm) : CTp l K y_SA_needBothFilled (Cond.code y_SA_needBothFilled prog_1_method_72_code 5 none) rvU 10 3 18 [.ref (kA K 0), .int v1, .int v2] M (fn_SA_needBothFilled v1 v2 M) := by
  refine CTp_of (L := L_SA_needBothFilled) (lc := [(0, .ref (kA K 0)), (1, .int v1), (2, .int v2)]) (by decide +kernel) dec_SA_needBothFilled hl rfl (Nat.le_of_ble_eq_true rfl) (fun X hX => ?_)
  unfold fn_SA_needBothFilled
  refine V_aload_n hX (j := 0) (hj := rfl) 0 1 rfl rfl ?_
  refine V_iload_n hX (j := 1) (hj := rfl) 1 2 rfl rfl ?_
  refine V_callL hX 5 1 6 rfl rfl rfl (Nat.le_of_ble_eq_true rfl) (Nat.le_of_ble_eq_true rfl) (VR_V hX 2 (ct_SA_seriesIn (cx_t hX) K v1 M) my_SA_seriesIn mi_SA_seriesIn ms_SA_seriesIn ml_SA_113 (Nat.le_of_ble_eq_true rfl) (Nat.le_of_ble_eq_true rfl) (by decide) (ent_0 K _) rfl rfl rfl (Nat.le_of_ble_eq_true rfl) rfl (Nat.le_of_ble_eq_true rfl) (Nat.le_of_ble_eq_true rfl)) (fun r2 M2 => VV_grd (fun hr2 => ?_))
  refine V_astore_n hX 3 6 [(3, .ref (kA K r2)), (0, .ref (kA K 0)), (1, .int v1), (2, .int v2)] rfl rfl (Nat.le_of_ble_eq_true rfl) rfl ?_
  refine V_aload_n hX (j := 1) (hj := rfl) 4 7 rfl rfl ?_
  refine V_iload_n hX (j := 3) (hj := rfl) 5 8 rfl rfl ?_
  refine V_callL hX 11 2 12 rfl rfl rfl (Nat.le_of_ble_eq_true rfl) (Nat.le_of_ble_eq_true rfl) (VR_V hX 6 (ct_SA_seriesIn (cx_t hX) K v2 M2) my_SA_seriesIn mi_SA_seriesIn ms_SA_seriesIn ml_SA_113 (Nat.le_of_ble_eq_true rfl) (Nat.le_of_ble_eq_true rfl) (by decide) (ent_0 K _) rfl rfl rfl (Nat.le_of_ble_eq_true rfl) rfl (Nat.le_of_ble_eq_true rfl) (Nat.le_of_ble_eq_true rfl)) (fun r8 M8 => VV_grd (fun hr8 => ?_))
  refine V_astore hX 7 13 [(4, .ref (kA K r8)), (3, .ref (kA K r2)), (0, .ref (kA K 0)), (1, .int v1), (2, .int v2)] rfl rfl (Nat.le_of_ble_eq_true rfl) rfl ?_
  refine V_aload_n hX (j := 1) (hj := rfl) 8 14 rfl rfl ?_
  refine V_callI hX 17 2 12 rfl rfl rfl (Nat.le_of_ble_eq_true rfl) (Nat.le_of_ble_eq_true rfl) (VR_V hX 9 (ct_Se_isEmpty (cx_t hX) K r2 M8) my_Se_isEmpty mi_Se_isEmpty ms_Se_isEmpty ml_SA_166 (Nat.le_of_ble_eq_true rfl) (Nat.le_of_ble_eq_true rfl) (loc_ser hr2) (ent_ser K _ hr2) rfl rfl rfl (Nat.le_of_ble_eq_true rfl) rfl (Nat.le_of_ble_eq_true rfl) (Nat.le_of_ble_eq_true rfl)) (fun r14 M14 => ?_)
  refine V_if_ne hX 10 20 28 rfl rfl (by decide) (fun c17 => ?_) (fun c17 => ?_)
  · exact V_throw hX 14 2 th_2_332_336 tx_446 (Nat.le_of_ble_eq_true rfl) (Nat.le_of_ble_eq_true rfl) (Nat.le_of_ble_eq_true rfl) (Nat.le_of_ble_eq_true rfl) rfl rfl rfl rfl rfl
  · refine V_aload hX (j := 0) (hj := rfl) 11 22 rfl rfl ?_
    refine V_callI hX 25 2 12 rfl rfl rfl (Nat.le_of_ble_eq_true rfl) (Nat.le_of_ble_eq_true rfl) (VR_V hX 12 (ct_Se_isEmpty (cx_t hX) K r8 M14) my_Se_isEmpty mi_Se_isEmpty ms_Se_isEmpty ml_SA_166 (Nat.le_of_ble_eq_true rfl) (Nat.le_of_ble_eq_true rfl) (loc_ser hr8) (ent_ser K _ hr8) rfl rfl rfl (Nat.le_of_ble_eq_true rfl) rfl (Nat.le_of_ble_eq_true rfl) (Nat.le_of_ble_eq_true rfl)) (fun r22 M22 => ?_)
    refine V_if_eq hX 13 28 39 rfl rfl (by decide) (fun c25 => ?_) (fun c25 => ?_)
    · exact V_vret hX 19 rfl (Nat.le_of_ble_eq_true rfl) (Nat.le_of_ble_eq_true rfl) rfl
    · exact V_throw hX 14 2 th_2_332_336 tx_446 (Nat.le_of_ble_eq_true rfl) (Nat.le_of_ble_eq_true rfl) (Nat.le_of_ble_eq_true rfl) (Nat.le_of_ble_eq_true rfl) rfl rfl rfl rfl rfl
set_option maxRecDepth 20000 in
theorem ct_SA_distance {l : Launch} (hl : l.stackTraces = false) (K : KT) (v1 : Int32) (v2 : Int32) (M : Mm) : CTp l K y_SA_distance (Cond.code y_SA_distance prog_1_method_42_code 3 (some .int)) rvI 11 3 18 [.ref (kA K 0), .int v1, .int v2] M (fn_SA_distance v1 v2 M) := by
  refine CTp_of (L := L_SA_distance) (lc := [(0, .ref (kA K 0)), (1, .int v1), (2, .int v2)]) (by decide +kernel) dec_SA_distance hl rfl (Nat.le_of_ble_eq_true rfl) (fun X hX => ?_)
  unfold fn_SA_distance
  refine V_aload_n hX (j := 0) (hj := rfl) 0 1 rfl rfl ?_
  refine V_iload_n hX (j := 1) (hj := rfl) 1 2 rfl rfl ?_
  refine V_iload_n hX (j := 2) (hj := rfl) 2 3 rfl rfl ?_
  refine V_callU hX 6 3 18 rfl rfl rfl (Nat.le_of_ble_eq_true rfl) (Nat.le_of_ble_eq_true rfl) (VR_V hX 3 (ct_SA_needBothFilled (cx_t hX) K v1 v2 M) my_SA_needBothFilled mi_SA_needBothFilled ms_SA_needBothFilled ml_SA_261 (Nat.le_of_ble_eq_true rfl) (Nat.le_of_ble_eq_true rfl) (by decide) (ent_0 K _) rfl rfl rfl (Nat.le_of_ble_eq_true rfl) rfl (Nat.le_of_ble_eq_true rfl) (Nat.le_of_ble_eq_true rfl)) (fun r3 M3 => ?_)
  refine V_aload_n hX (j := 0) (hj := rfl) 4 7 rfl rfl ?_
  refine V_get hX 5 10 0 (.ref (kA K 30)) fl_SA_75 rfl rfl (by decide) (ent_0 K _) rfl ?_
  refine V_aload_n hX (j := 0) (hj := rfl) 6 11 rfl rfl ?_
  refine V_get hX 7 14 0 (.ref (kA K 1)) fl_SA_12 rfl rfl (by decide) (ent_0 K _) rfl ?_
  refine V_iload_n hX (j := 1) (hj := rfl) 8 15 rfl rfl ?_
  refine V_callL hX 18 3 18 rfl rfl rfl (Nat.le_of_ble_eq_true rfl) (Nat.le_of_ble_eq_true rfl) (VR_V hX 9 (ct_St_at (cx_t hX) K v1 M3) my_St_at mi_St_at ms_St_at ml_SA_265 (Nat.le_of_ble_eq_true rfl) (Nat.le_of_ble_eq_true rfl) (by decide) (ent_1 K _) rfl rfl rfl (Nat.le_of_ble_eq_true rfl) rfl (Nat.le_of_ble_eq_true rfl) (Nat.le_of_ble_eq_true rfl)) (fun r15 M15 => VV_grd (fun hr15 => ?_))
  refine V_aload_n hX (j := 0) (hj := rfl) 10 19 rfl rfl ?_
  refine V_get hX 11 22 0 (.ref (kA K 1)) fl_SA_12 rfl rfl (by decide) (ent_0 K _) rfl ?_
  refine V_iload_n hX (j := 2) (hj := rfl) 12 23 rfl rfl ?_
  refine V_callL hX 26 3 18 rfl rfl rfl (Nat.le_of_ble_eq_true rfl) (Nat.le_of_ble_eq_true rfl) (VR_V hX 13 (ct_St_at (cx_t hX) K v2 M15) my_St_at mi_St_at ms_St_at ml_SA_265 (Nat.le_of_ble_eq_true rfl) (Nat.le_of_ble_eq_true rfl) (by decide) (ent_1 K _) rfl rfl rfl (Nat.le_of_ble_eq_true rfl) rfl (Nat.le_of_ble_eq_true rfl) (Nat.le_of_ble_eq_true rfl)) (fun r23 M23 => VV_grd (fun hr23 => ?_))
  refine V_callI hX 29 3 18 rfl rfl rfl (Nat.le_of_ble_eq_true rfl) (Nat.le_of_ble_eq_true rfl) (VR_V hX 14 (ct_Wa_costByTable (cx_t hX) K r15 r23 M23) my_Wa_costByTable mi_Wa_costByTable ms_Wa_costByTable ml_SA_267 (Nat.le_of_ble_eq_true rfl) (Nat.le_of_ble_eq_true rfl) (by decide) (ent_30 K _) rfl rfl rfl (Nat.le_of_ble_eq_true rfl) rfl (Nat.le_of_ble_eq_true rfl) (Nat.le_of_ble_eq_true rfl)) (fun r26 M26 => ?_)
  exact V_iret hX 15 rfl (Nat.le_of_ble_eq_true rfl) (Nat.le_of_ble_eq_true rfl) rfl
set_option maxRecDepth 20000 in
theorem ct_SA_distanceByWalks {l : Launch} (hl : l.stackTraces = false) (K : KT) (v1 : Int32) (v2 : Int32) (M : Mm) : CTp l K y_SA_distanceByWalks (Cond.code y_SA_distanceByWalks prog_1_method_43_code 3 (some .int)) rvI 50 3 18 [.ref (kA K 0), .int v1, .int v2] M (fn_SA_distanceByWalks v1 v2 M) := by
  refine CTp_of (L := L_SA_distanceByWalks) (lc := [(0, .ref (kA K 0)), (1, .int v1), (2, .int v2)]) (by decide +kernel) dec_SA_distanceByWalks hl rfl (Nat.le_of_ble_eq_true rfl) (fun X hX => ?_)
  unfold fn_SA_distanceByWalks
  refine V_aload_n hX (j := 0) (hj := rfl) 0 1 rfl rfl ?_
  refine V_iload_n hX (j := 1) (hj := rfl) 1 2 rfl rfl ?_
  refine V_iload_n hX (j := 2) (hj := rfl) 2 3 rfl rfl ?_
  refine V_callU hX 6 3 18 rfl rfl rfl (Nat.le_of_ble_eq_true rfl) (Nat.le_of_ble_eq_true rfl) (VR_V hX 3 (ct_SA_needBothFilled (cx_t hX) K v1 v2 M) my_SA_needBothFilled mi_SA_needBothFilled ms_SA_needBothFilled ml_SA_261 (Nat.le_of_ble_eq_true rfl) (Nat.le_of_ble_eq_true rfl) (by decide) (ent_0 K _) rfl rfl rfl (Nat.le_of_ble_eq_true rfl) rfl (Nat.le_of_ble_eq_true rfl) (Nat.le_of_ble_eq_true rfl)) (fun r3 M3 => ?_)
  refine V_aload_n hX (j := 0) (hj := rfl) 4 7 rfl rfl ?_
  refine V_get hX 5 10 0 (.ref (kA K 30)) fl_SA_75 rfl rfl (by decide) (ent_0 K _) rfl ?_
  refine V_aload_n hX (j := 0) (hj := rfl) 6 11 rfl rfl ?_
  refine V_get hX 7 14 0 (.ref (kA K 1)) fl_SA_12 rfl rfl (by decide) (ent_0 K _) rfl ?_
  refine V_iload_n hX (j := 1) (hj := rfl) 8 15 rfl rfl ?_
  refine V_callL hX 18 3 18 rfl rfl rfl (Nat.le_of_ble_eq_true rfl) (Nat.le_of_ble_eq_true rfl) (VR_V hX 9 (ct_St_at (cx_t hX) K v1 M3) my_St_at mi_St_at ms_St_at ml_SA_265 (Nat.le_of_ble_eq_true rfl) (Nat.le_of_ble_eq_true rfl) (by decide) (ent_1 K _) rfl rfl rfl (Nat.le_of_ble_eq_true rfl) rfl (Nat.le_of_ble_eq_true rfl) (Nat.le_of_ble_eq_true rfl)) (fun r15 M15 => VV_grd (fun hr15 => ?_))
  refine V_aload_n hX (j := 0) (hj := rfl) 10 19 rfl rfl ?_
  refine V_get hX 11 22 0 (.ref (kA K 1)) fl_SA_12 rfl rfl (by decide) (ent_0 K _) rfl ?_
  refine V_iload_n hX (j := 2) (hj := rfl) 12 23 rfl rfl ?_
  refine V_callL hX 26 3 18 rfl rfl rfl (Nat.le_of_ble_eq_true rfl) (Nat.le_of_ble_eq_true rfl) (VR_V hX 13 (ct_St_at (cx_t hX) K v2 M15) my_St_at mi_St_at ms_St_at ml_SA_265 (Nat.le_of_ble_eq_true rfl) (Nat.le_of_ble_eq_true rfl) (by decide) (ent_1 K _) rfl rfl rfl (Nat.le_of_ble_eq_true rfl) rfl (Nat.le_of_ble_eq_true rfl) (Nat.le_of_ble_eq_true rfl)) (fun r23 M23 => VV_grd (fun hr23 => ?_))
  refine V_callI hX 29 3 18 rfl rfl rfl (Nat.le_of_ble_eq_true rfl) (Nat.le_of_ble_eq_true rfl) (VR_V hX 14 (ct_Wa_costByGoingOn (cx_t hX) K r15 r23 M23) my_Wa_costByGoingOn mi_Wa_costByGoingOn ms_Wa_costByGoingOn ml_SA_270 (Nat.le_of_ble_eq_true rfl) (Nat.le_of_ble_eq_true rfl) (by decide) (ent_30 K _) rfl rfl rfl (Nat.le_of_ble_eq_true rfl) rfl (Nat.le_of_ble_eq_true rfl) (Nat.le_of_ble_eq_true rfl)) (fun r26 M26 => ?_)
  exact V_iret hX 15 rfl (Nat.le_of_ble_eq_true rfl) (Nat.le_of_ble_eq_true rfl) rfl
set_option maxRecDepth 20000 in
theorem ct_SA_areEqual {l : Launch} (hl : l.stackTraces = false) (K : KT) (v1 : Int32) (v2 : Int32) (M : Mm) : CTp l K y_SA_areEqual (Cond.code y_SA_areEqual prog_1_method_44_code 3 (some .boolean)) rvI 10 2 12 [.ref (kA K 0), .int v1, .int v2] M (fn_SA_areEqual v1 v2 M) := by
  refine CTp_of (L := L_SA_areEqual) (lc := [(0, .ref (kA K 0)), (1, .int v1), (2, .int v2)]) (by decide +kernel) dec_SA_areEqual hl rfl (Nat.le_of_ble_eq_true rfl) (fun X hX => ?_)
  unfold fn_SA_areEqual
  refine V_aload_n hX (j := 0) (hj := rfl) 0 1 rfl rfl ?_
  refine V_iload_n hX (j := 1) (hj := rfl) 1 2 rfl rfl ?_
  refine V_callL hX 5 1 6 rfl rfl rfl (Nat.le_of_ble_eq_true rfl) (Nat.le_of_ble_eq_true rfl) (VR_V hX 2 (ct_SA_seriesIn (cx_t hX) K v1 M) my_SA_seriesIn mi_SA_seriesIn ms_SA_seriesIn ml_SA_113 (Nat.le_of_ble_eq_true rfl) (Nat.le_of_ble_eq_true rfl) (by decide) (ent_0 K _) rfl rfl rfl (Nat.le_of_ble_eq_true rfl) rfl (Nat.le_of_ble_eq_true rfl) (Nat.le_of_ble_eq_true rfl)) (fun r2 M2 => VV_grd (fun hr2 => ?_))
  refine V_aload_n hX (j := 0) (hj := rfl) 3 6 rfl rfl ?_
  refine V_iload_n hX (j := 2) (hj := rfl) 4 7 rfl rfl ?_
  refine V_callL hX 10 2 12 rfl rfl rfl (Nat.le_of_ble_eq_true rfl) (Nat.le_of_ble_eq_true rfl) (VR_V hX 5 (ct_SA_seriesIn (cx_t hX) K v2 M2) my_SA_seriesIn mi_SA_seriesIn ms_SA_seriesIn ml_SA_113 (Nat.le_of_ble_eq_true rfl) (Nat.le_of_ble_eq_true rfl) (by decide) (ent_0 K _) rfl rfl rfl (Nat.le_of_ble_eq_true rfl) rfl (Nat.le_of_ble_eq_true rfl) (Nat.le_of_ble_eq_true rfl)) (fun r7 M7 => VV_grd (fun hr7 => ?_))
  refine V_callI hX 13 2 12 rfl rfl rfl (Nat.le_of_ble_eq_true rfl) (Nat.le_of_ble_eq_true rfl) (VR_V hX 6 (ct_Se_isSameAs (cx_t hX) K r2 r7 M7) my_Se_isSameAs mi_Se_isSameAs ms_Se_isSameAs ml_SA_273 (Nat.le_of_ble_eq_true rfl) (Nat.le_of_ble_eq_true rfl) (loc_ser hr2) (ent_ser K _ hr2) rfl rfl rfl (Nat.le_of_ble_eq_true rfl) rfl (Nat.le_of_ble_eq_true rfl) (Nat.le_of_ble_eq_true rfl)) (fun r10 M10 => ?_)
  refine VV_grd (fun hz1 => ?_)
  exact V_zret hX 7 rfl (vp_narZ hz1).1 (Nat.le_of_ble_eq_true rfl) (Nat.le_of_ble_eq_true rfl) rfl
set_option maxRecDepth 20000 in
theorem ct_SA_areParallel {l : Launch} (hl : l.stackTraces = false) (K : KT) (v1 : Int32) (v2 : Int32) (M : Mm) : CTp l K y_SA_areParallel (Cond.code y_SA_areParallel prog_1_method_45_code 3 (some .boolean)) rvI 10 2 12 [.ref (kA K 0), .int v1, .int v2] M (fn_SA_areParallel v1 v2 M) := by
  refine CTp_of (L := L_SA_areParallel) (lc := [(0, .ref (kA K 0)), (1, .int v1), (2, .int v2)]) (by decide +kernel) dec_SA_areParallel hl rfl (Nat.le_of_ble_eq_true rfl) (fun X hX => ?_)
  unfold fn_SA_areParallel
  refine V_aload_n hX (j := 0) (hj := rfl) 0 1 rfl rfl ?_
  refine V_iload_n hX (j := 1) (hj := rfl) 1 2 rfl rfl ?_
  refine V_callL hX 5 1 6 rfl rfl rfl (Nat.le_of_ble_eq_true rfl) (Nat.le_of_ble_eq_true rfl) (VR_V hX 2 (ct_SA_seriesIn (cx_t hX) K v1 M) my_SA_seriesIn mi_SA_seriesIn ms_SA_seriesIn ml_SA_113 (Nat.le_of_ble_eq_true rfl) (Nat.le_of_ble_eq_true rfl) (by decide) (ent_0 K _) rfl rfl rfl (Nat.le_of_ble_eq_true rfl) rfl (Nat.le_of_ble_eq_true rfl) (Nat.le_of_ble_eq_true rfl)) (fun r2 M2 => VV_grd (fun hr2 => ?_))
  refine V_aload_n hX (j := 0) (hj := rfl) 3 6 rfl rfl ?_
  refine V_iload_n hX (j := 2) (hj := rfl) 4 7 rfl rfl ?_
  refine V_callL hX 10 2 12 rfl rfl rfl (Nat.le_of_ble_eq_true rfl) (Nat.le_of_ble_eq_true rfl) (VR_V hX 5 (ct_SA_seriesIn (cx_t hX) K v2 M2) my_SA_seriesIn mi_SA_seriesIn ms_SA_seriesIn ml_SA_113 (Nat.le_of_ble_eq_true rfl) (Nat.le_of_ble_eq_true rfl) (by decide) (ent_0 K _) rfl rfl rfl (Nat.le_of_ble_eq_true rfl) rfl (Nat.le_of_ble_eq_true rfl) (Nat.le_of_ble_eq_true rfl)) (fun r7 M7 => VV_grd (fun hr7 => ?_))
  refine V_callI hX 13 2 12 rfl rfl rfl (Nat.le_of_ble_eq_true rfl) (Nat.le_of_ble_eq_true rfl) (VR_V hX 6 (ct_Se_runsAlong (cx_t hX) K r2 r7 M7) my_Se_runsAlong mi_Se_runsAlong ms_Se_runsAlong ml_SA_277 (Nat.le_of_ble_eq_true rfl) (Nat.le_of_ble_eq_true rfl) (loc_ser hr2) (ent_ser K _ hr2) rfl rfl rfl (Nat.le_of_ble_eq_true rfl) rfl (Nat.le_of_ble_eq_true rfl) (Nat.le_of_ble_eq_true rfl)) (fun r10 M10 => ?_)
  refine VV_grd (fun hz1 => ?_)
  exact V_zret hX 7 rfl (vp_narZ hz1).1 (Nat.le_of_ble_eq_true rfl) (Nat.le_of_ble_eq_true rfl) rfl
