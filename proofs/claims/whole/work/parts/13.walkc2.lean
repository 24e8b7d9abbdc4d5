set_option maxRecDepth 20000 in
theorem ct_Ra_sortHalves {l : Launch} (hl : l.stackTraces = false) (K : KT) : ∀ (n : Nat) (v0 : Nat) (v1 : Nat) (v2 : Int32) (v3 : Int32) (v4 : Int32) (M : Mm), CTp l K y_Ra_sortHalves (Cond.code y_Ra_sortHalves prog_10_method_14_code 7 (some .int)) rvI (3 + n) 0 0 [.ref (kA K v0), .ref (kA K v1), .int v2, .int v3, .int v4] M (fn_Ra_sortHalves n v0 v1 v2 v3 v4 M) := by
  intro n
  induction n with
  | zero => intro v0 v1 v2 v3 v4 M o M1 h; cases h
  | succ n ih =>
    intro v0 v1 v2 v3 v4 M
    rw [fn_Ra_sortHalves]
    refine CTp_of (L := L_Ra_sortHalves) (lc := [(0, .ref (kA K v0)), (1, .ref (kA K v1)), (2, .int v2), (3, .int v3), (4, .int v4)]) (by decide +kernel) dec_Ra_sortHalves hl rfl (Nat.le_of_ble_eq_true rfl) (fun X hX => ?_)
    have hd : 3 + n + 1 ≤ 3 + (n + 1) ∧ 3 ≤ 3 + (n + 1) := ⟨by omega, by omega⟩
    refine VV_grd (fun hv0 => ?_)
    refine VV_grd (fun hv1 => ?_)
    refine V_iload_n hX (j := 3) (hj := rfl) 0 1 rfl rfl ?_
    refine V_iload_n hX (j := 2) (hj := rfl) 1 2 rfl rfl ?_
    refine V_isub hX 2 3 rfl rfl ?_
    refine V_iconst hX (v := 2) (hv := by decide) 3 4 rfl rfl ?_
    refine V_icmp_lt hX 4 7 14 rfl rfl (by decide) (fun c4 => ?_) (fun c4 => ?_)
    · refine V_iconst hX (v := 0) (hv := by decide) 8 15 rfl rfl ?_
      exact V_iret hX 9 rfl (Nat.le_of_ble_eq_true rfl) (Nat.le_of_ble_eq_true rfl) rfl
    · refine V_iload hX (j := 4) (hj := rfl) 5 9 rfl rfl ?_
      refine V_bipush hX (v := 40) (hv := by decide) 6 11 rfl rfl ?_
      refine V_icmp_le hX 7 14 16 rfl rfl (by decide) (fun c11 => ?_) (fun c11 => ?_)
      · refine V_iload_n hX (j := 2) (hj := rfl) 10 17 rfl rfl ?_
        refine V_iload_n hX (j := 3) (hj := rfl) 11 18 rfl rfl ?_
        refine V_iload_n hX (j := 2) (hj := rfl) 12 19 rfl rfl ?_
        refine V_isub hX 13 20 rfl rfl ?_
        refine V_iconst hX (v := 2) (hv := by decide) 14 21 rfl rfl ?_
        refine V_idiv hX (hne := by decide) 15 22 rfl rfl ?_
        refine V_iadd hX 16 23 rfl rfl ?_
        refine VV_li (fun x5_23 hx5_23 => ?_)
        refine V_istore hX 17 25 [(5, .int x5_23), (0, .ref (kA K v0)), (1, .ref (kA K v1)), (2, .int v2), (3, .int v3), (4, .int v4)] rfl rfl (Nat.le_of_ble_eq_true rfl) rfl ?_
        refine V_aload_n hX (j := 1) (hj := rfl) 18 26 rfl rfl ?_
        refine V_aload_n hX (j := 2) (hj := rfl) 19 27 rfl rfl ?_
        refine V_iload_n hX (j := 3) (hj := rfl) 20 28 rfl rfl ?_
        refine V_iload hX (j := 0) (hj := rfl) 21 30 rfl rfl ?_
        refine V_iload hX (j := 5) (hj := rfl) 22 32 rfl rfl ?_
        refine V_iconst hX (v := 1) (hv := by decide) 23 33 rfl rfl ?_
        refine V_iadd hX 24 34 rfl rfl ?_
        refine V_callI hX 37 0 0 rfl rfl rfl (Nat.le_of_ble_eq_true rfl) (Nat.le_of_ble_eq_true rfl) (VR_S hX 25 (ih v0 v1 v2 x5_23 (v4 + 1) M) my_Ra_sortHalves mt_Ra_sortHalves ml_Ra_66 (by omega) (Nat.le_of_ble_eq_true rfl) rfl rfl (Nat.le_of_ble_eq_true rfl) rfl (Nat.le_of_ble_eq_true rfl) (Nat.le_of_ble_eq_true rfl)) (fun r34 M34 => ?_)
        refine V_istore hX 26 39 [(6, .int r34), (5, .int x5_23), (0, .ref (kA K v0)), (1, .ref (kA K v1)), (2, .int v2), (3, .int v3), (4, .int v4)] rfl rfl (Nat.le_of_ble_eq_true rfl) rfl ?_
        refine V_iload hX (j := 0) (hj := rfl) 27 41 rfl rfl ?_
        refine V_aload_n hX (j := 2) (hj := rfl) 28 42 rfl rfl ?_
        refine V_aload_n hX (j := 3) (hj := rfl) 29 43 rfl rfl ?_
        refine V_iload hX (j := 1) (hj := rfl) 30 45 rfl rfl ?_
        refine V_iload_n hX (j := 5) (hj := rfl) 31 46 rfl rfl ?_
        refine V_iload hX (j := 6) (hj := rfl) 32 48 rfl rfl ?_
        refine V_iconst hX (v := 1) (hv := by decide) 33 49 rfl rfl ?_
        refine V_iadd hX 34 50 rfl rfl ?_
        refine V_callI hX 53 0 0 rfl rfl rfl (Nat.le_of_ble_eq_true rfl) (Nat.le_of_ble_eq_true rfl) (VR_S hX 35 (ih v0 v1 x5_23 v3 (v4 + 1) M34) my_Ra_sortHalves mt_Ra_sortHalves ml_Ra_66 (by omega) (Nat.le_of_ble_eq_true rfl) rfl rfl (Nat.le_of_ble_eq_true rfl) rfl (Nat.le_of_ble_eq_true rfl) (Nat.le_of_ble_eq_true rfl)) (fun r50 M50 => ?_)
        refine V_iadd hX 36 54 rfl rfl ?_
        refine VV_li (fun x6_54 hx6_54 => ?_)
        refine V_istore hX 37 56 [(6, .int x6_54), (5, .int x5_23), (0, .ref (kA K v0)), (1, .ref (kA K v1)), (2, .int v2), (3, .int v3), (4, .int v4)] rfl rfl (Nat.le_of_ble_eq_true rfl) rfl ?_
        refine V_iload hX (j := 0) (hj := rfl) 38 58 rfl rfl ?_
        refine V_aload_n hX (j := 2) (hj := rfl) 39 59 rfl rfl ?_
        refine V_aload_n hX (j := 3) (hj := rfl) 40 60 rfl rfl ?_
        refine V_iload_n hX (j := 4) (hj := rfl) 41 61 rfl rfl ?_
        refine V_iload hX (j := 1) (hj := rfl) 42 63 rfl rfl ?_
        refine V_iload_n hX (j := 5) (hj := rfl) 43 64 rfl rfl ?_
        refine V_callI hX 67 0 0 rfl rfl rfl (Nat.le_of_ble_eq_true rfl) (Nat.le_of_ble_eq_true rfl) (VR_S hX 44 (ct_Ra_merge (cx_t hX) K v0 v1 v2 x5_23 v3 M50) my_Ra_merge mt_Ra_merge ml_Ra_70 (by omega) (Nat.le_of_ble_eq_true rfl) rfl rfl (Nat.le_of_ble_eq_true rfl) rfl (Nat.le_of_ble_eq_true rfl) (Nat.le_of_ble_eq_true rfl)) (fun r64 M64 => ?_)
        refine V_iadd hX 45 68 rfl rfl ?_
        exact V_iret hX 46 rfl (Nat.le_of_ble_eq_true rfl) (Nat.le_of_ble_eq_true rfl) rfl
      · refine V_iconst hX (v := 0) (hv := by decide) 8 15 rfl rfl ?_
        exact V_iret hX 9 rfl (Nat.le_of_ble_eq_true rfl) (Nat.le_of_ble_eq_true rfl) rfl
set_option maxRecDepth 20000 in
theorem bt_Ra_fallingPairs_29 {l : Launch} {K : KT} {X : XT} (hX : Cx l K 49 3 0 0 X prog_10_method_13_code "SeriesArchive$Ranges" (some .int) [] L_Ra_fallingPairs) (v1 : Nat) (hv1 : isSer v1) (M : Mm) : VV l K 49 3 0 0 rvI X (fn_Ra_fallingPairs_29 v1 M) 0 0 M 29 [(0, .ref (kA K 21)), (1, .ref (kA K v1))] [] := by
  unfold fn_Ra_fallingPairs_29
  refine V_aload_n hX (j := 0) (hj := rfl) 15 30 rfl rfl ?_
  refine V_get hX 16 33 21 (.ref (kA K 24)) fl_Ra_18 rfl rfl (by decide) (ent_21 K _) rfl ?_
  refine V_aload_n hX (j := 0) (hj := rfl) 17 34 rfl rfl ?_
  refine V_get hX 18 37 21 (.ref (kA K 25)) fl_Ra_21 rfl rfl (by decide) (ent_21 K _) rfl ?_
  refine V_iconst hX (v := 0) (hv := by decide) 19 38 rfl rfl ?_
  refine V_aload_n hX (j := 1) (hj := rfl) 20 39 rfl rfl ?_
  refine V_callI hX 42 0 0 rfl rfl rfl (Nat.le_of_ble_eq_true rfl) (Nat.le_of_ble_eq_true rfl) (VR_V hX 21 (ct_Se_size (cx_t hX) K v1 M) my_Se_size mi_Se_size ms_Se_size ml_Ra_32 (Nat.le_of_ble_eq_true rfl) (Nat.le_of_ble_eq_true rfl) (loc_ser hv1) (ent_ser K _ hv1) rfl rfl rfl (Nat.le_of_ble_eq_true rfl) rfl (Nat.le_of_ble_eq_true rfl) (Nat.le_of_ble_eq_true rfl)) (fun r39 M39 => ?_)
  refine V_iconst hX (v := 0) (hv := by decide) 22 43 rfl rfl ?_
  refine V_callI hX 46 0 0 rfl rfl rfl (Nat.le_of_ble_eq_true rfl) (Nat.le_of_ble_eq_true rfl) (VR_S hX 23 (ct_Ra_sortHalves (cx_t hX) K 45 24 25 0 r39 0 M39) my_Ra_sortHalves mt_Ra_sortHalves ml_Ra_66 (Nat.le_of_ble_eq_true rfl) (Nat.le_of_ble_eq_true rfl) rfl rfl (Nat.le_of_ble_eq_true rfl) rfl (Nat.le_of_ble_eq_true rfl) (Nat.le_of_ble_eq_true rfl)) (fun r43 M43 => ?_)
  exact V_iret hX 24 rfl (Nat.le_of_ble_eq_true rfl) (Nat.le_of_ble_eq_true rfl) rfl
set_option maxRecDepth 20000 in
theorem bt_Ra_fallingPairs_2 {l : Launch} {K : KT} {X : XT} (hX : Cx l K 49 3 0 0 X prog_10_method_13_code "SeriesArchive$Ranges" (some .int) [] L_Ra_fallingPairs) (v1 : Nat) (hv1 : isSer v1) : ∀ (n : Nat) (v2 : Int32) (M : Mm), VV l K 49 3 0 0 rvI X (fn_Ra_fallingPairs_2 v1 n v2 M) 0 0 M 2 [(0, .ref (kA K 21)), (1, .ref (kA K v1)), (2, .int v2)] [] := by
  intro n
  induction n with
  | zero => intro v2 M; exact VV_none
  | succ n ih =>
    intro v2 M
    rw [fn_Ra_fallingPairs_2]
    refine V_iload_n hX (j := 2) (hj := rfl) 2 3 rfl rfl ?_
    refine V_aload_n hX (j := 1) (hj := rfl) 3 4 rfl rfl ?_
    refine V_callI hX 7 0 0 rfl rfl rfl (Nat.le_of_ble_eq_true rfl) (Nat.le_of_ble_eq_true rfl) (VR_V hX 4 (ct_Se_size (cx_t hX) K v1 M) my_Se_size mi_Se_size ms_Se_size ml_Ra_32 (Nat.le_of_ble_eq_true rfl) (Nat.le_of_ble_eq_true rfl) (loc_ser hv1) (ent_ser K _ hv1) rfl rfl rfl (Nat.le_of_ble_eq_true rfl) rfl (Nat.le_of_ble_eq_true rfl) (Nat.le_of_ble_eq_true rfl)) (fun r4 M4 => ?_)
    refine V_icmp_ge hX 5 10 29 rfl rfl (by decide) (fun c7 => ?_) (fun c7 => ?_)
    · refine VV_sub [0, 1] rfl ?_
      exact bt_Ra_fallingPairs_29 hX v1 hv1 M4
    · refine V_aload_n hX (j := 0) (hj := rfl) 6 11 rfl rfl ?_
      refine V_get hX 7 14 21 (.ref (kA K 24)) fl_Ra_18 rfl rfl (by decide) (ent_21 K _) rfl ?_
      refine V_iload_n hX (j := 2) (hj := rfl) 8 15 rfl rfl ?_
      refine V_aload_n hX (j := 1) (hj := rfl) 9 16 rfl rfl ?_
      refine V_iload_n hX (j := 2) (hj := rfl) 10 17 rfl rfl ?_
      refine V_callI hX 20 0 0 rfl rfl rfl (Nat.le_of_ble_eq_true rfl) (Nat.le_of_ble_eq_true rfl) (VR_V hX 11 (ct_Se_at (cx_t hX) K v1 v2 M4) my_Se_at mi_Se_at ms_Se_at ml_Ra_46 (Nat.le_of_ble_eq_true rfl) (Nat.le_of_ble_eq_true rfl) (loc_ser hv1) (ent_ser K _ hv1) rfl rfl rfl (Nat.le_of_ble_eq_true rfl) rfl (Nat.le_of_ble_eq_true rfl) (Nat.le_of_ble_eq_true rfl)) (fun r17 M17 => ?_)
      refine V_callU hX 23 0 0 rfl rfl rfl (Nat.le_of_ble_eq_true rfl) (Nat.le_of_ble_eq_true rfl) (VR_SN hX 12 (ct_SA_write (cx_t hX) K 24 v2 r17 M17) my_SA_write mt_SA_write mn_Ra_38 (Nat.le_of_ble_eq_true rfl) (Nat.le_of_ble_eq_true rfl) rfl rfl (Nat.le_of_ble_eq_true rfl) rfl (Nat.le_of_ble_eq_true rfl) (Nat.le_of_ble_eq_true rfl)) (fun r20 M20 => ?_)
      refine V_iincL hX 13 26 2 rfl rfl rfl rfl (Nat.le_of_ble_eq_true rfl) (fun x2_23 hx2_23 => ?_)
      refine VV_lc [(2, .int x2_23), (0, .ref (kA K 21)), (1, .ref (kA K v1))] rfl ?_
      refine V_goto hX 14 2 rfl (by decide) ?_
      refine VV_sub [1, 2, 0] rfl ?_
      exact ih x2_23 M20
set_option maxRecDepth 20000 in
theorem ct_Ra_fallingPairs {l : Launch} (hl : l.stackTraces = false) (K : KT) (v1 : Nat) (M : Mm) : CTp l K y_Ra_fallingPairs (Cond.code y_Ra_fallingPairs prog_10_method_13_code 3 (some .int)) rvI 49 0 0 [.ref (kA K 21), .ref (kA K v1)] M (fn_Ra_fallingPairs v1 M) := by
  refine CTp_of (L := L_Ra_fallingPairs) (lc := [(0, .ref (kA K 21)), (1, .ref (kA K v1))]) (by decide +kernel) dec_Ra_fallingPairs hl rfl (Nat.le_of_ble_eq_true rfl) (fun X hX => ?_)
  unfold fn_Ra_fallingPairs
  refine VV_grd (fun hv1 => ?_)
  refine V_iconst hX (v := 0) (hv := by decide) 0 1 rfl rfl ?_
  refine V_istore_n hX 1 2 [(2, .int 0), (0, .ref (kA K 21)), (1, .ref (kA K v1))] rfl rfl (Nat.le_of_ble_eq_true rfl) rfl ?_
  refine VV_sub [1, 2, 0] rfl ?_
  exact bt_Ra_fallingPairs_2 hX v1 hv1 fuel0 0 M
set_option maxRecDepth 20000 in
theorem bt_Ra_fallingPairsByPairs_43 {l : Launch} {K : KT} {X : XT} (hX : Cx l K 2 4 0 0 X prog_10_method_16_code "SeriesArchive$Ranges" (some .int) [] L_Ra_fallingPairsByPairs) (k4 : Int32 → Int32 → Mm → Rs Int32) (k16 : Int32 → Int32 → Mm → Rs Int32) (v0 : Nat) (v2 : Int32) (v3 : Int32) (hk4 : ∀ (v1 : Int32) (v2 : Int32) M, VV l K 2 4 0 0 rvI X (k4 v1 v2 M) 0 0 M 4 [(0, .ref (kA K v0)), (1, .int v1), (2, .int v2)] []) (hk16 : ∀ (v1 : Int32) (v3 : Int32) M, VV l K 2 4 0 0 rvI X (k16 v1 v3 M) 0 0 M 16 [(0, .ref (kA K v0)), (1, .int v1), (2, .int v2), (3, .int v3)] []) (s0 : Int32) (s1 : Int32) (hv0 : isSer v0) (M : Mm) : VV l K 2 4 0 0 rvI X (fn_Ra_fallingPairsByPairs_43 k4 k16 v0 v2 v3 s0 s1 M) 0 0 M 43 [(0, .ref (kA K v0)), (2, .int v2), (3, .int v3)] [.int s1, .int s0] := by
  unfold fn_Ra_fallingPairsByPairs_43
  refine V_iadd hX 27 44 rfl rfl ?_
  refine VV_li (fun x1_44 hx1_44 => ?_)
  refine V_istore_n hX 28 45 [(1, .int x1_44), (0, .ref (kA K v0)), (2, .int v2), (3, .int v3)] rfl rfl (Nat.le_of_ble_eq_true rfl) rfl ?_
  refine V_iincL hX 29 48 3 rfl rfl rfl rfl (Nat.le_of_ble_eq_true rfl) (fun x3_45 hx3_45 => ?_)
  refine VV_lc [(3, .int x3_45), (1, .int x1_44), (0, .ref (kA K v0)), (2, .int v2)] rfl ?_
  refine V_goto hX 30 16 rfl (by decide) ?_
  refine VV_sub [2, 1, 3, 0] rfl ?_
  exact hk16 x1_44 x3_45 M
set_option maxRecDepth 20000 in
theorem bt_Ra_fallingPairsByPairs_51 {l : Launch} {K : KT} {X : XT} (hX : Cx l K 2 4 0 0 X prog_10_method_16_code "SeriesArchive$Ranges" (some .int) [] L_Ra_fallingPairsByPairs) (k4 : Int32 → Int32 → Mm → Rs Int32) (v0 : Nat) (v1 : Int32) (v2 : Int32) (hk4 : ∀ (v1 : Int32) (v2 : Int32) M, VV l K 2 4 0 0 rvI X (k4 v1 v2 M) 0 0 M 4 [(0, .ref (kA K v0)), (1, .int v1), (2, .int v2)] []) (hv0 : isSer v0) (M : Mm) : VV l K 2 4 0 0 rvI X (fn_Ra_fallingPairsByPairs_51 k4 v0 v1 v2 M) 0 0 M 51 [(0, .ref (kA K v0)), (1, .int v1), (2, .int v2)] [] := by
  unfold fn_Ra_fallingPairsByPairs_51
  refine V_iincL hX 31 54 2 rfl rfl rfl rfl (Nat.le_of_ble_eq_true rfl) (fun x2_51 hx2_51 => ?_)
  refine VV_lc [(2, .int x2_51), (0, .ref (kA K v0)), (1, .int v1)] rfl ?_
  refine V_goto hX 32 4 rfl (by decide) ?_
  refine VV_sub [1, 2, 0] rfl ?_
  exact hk4 v1 x2_51 M
set_option maxRecDepth 20000 in
theorem bt_Ra_fallingPairsByPairs_16 {l : Launch} {K : KT} {X : XT} (hX : Cx l K 2 4 0 0 X prog_10_method_16_code "SeriesArchive$Ranges" (some .int) [] L_Ra_fallingPairsByPairs) (k4 : Int32 → Int32 → Mm → Rs Int32) (v0 : Nat) (v2 : Int32) (hk4 : ∀ (v1 : Int32) (v2 : Int32) M, VV l K 2 4 0 0 rvI X (k4 v1 v2 M) 0 0 M 4 [(0, .ref (kA K v0)), (1, .int v1), (2, .int v2)] []) (hv0 : isSer v0) : ∀ (n : Nat) (v1 : Int32) (v3 : Int32) (M : Mm), VV l K 2 4 0 0 rvI X (fn_Ra_fallingPairsByPairs_16 k4 v0 v2 n v1 v3 M) 0 0 M 16 [(0, .ref (kA K v0)), (1, .int v1), (2, .int v2), (3, .int v3)] [] := by
  intro n
  induction n with
  | zero => intro v1 v3 M; exact VV_none
  | succ n ih =>
    intro v1 v3 M
    rw [fn_Ra_fallingPairsByPairs_16]
    refine V_iload_n hX (j := 3) (hj := rfl) 12 17 rfl rfl ?_
    refine V_aload_n hX (j := 0) (hj := rfl) 13 18 rfl rfl ?_
    refine V_callI hX 21 0 0 rfl rfl rfl (Nat.le_of_ble_eq_true rfl) (Nat.le_of_ble_eq_true rfl) (VR_V hX 14 (ct_Se_size (cx_t hX) K v0 M) my_Se_size mi_Se_size ms_Se_size ml_Ra_32 (Nat.le_of_ble_eq_true rfl) (Nat.le_of_ble_eq_true rfl) (loc_ser hv0) (ent_ser K _ hv0) rfl rfl rfl (Nat.le_of_ble_eq_true rfl) rfl (Nat.le_of_ble_eq_true rfl) (Nat.le_of_ble_eq_true rfl)) (fun r18 M18 => ?_)
    refine V_icmp_ge hX 15 24 51 rfl rfl (by decide) (fun c21 => ?_) (fun c21 => ?_)
    · refine VV_sub [0, 1, 2] rfl ?_
      exact bt_Ra_fallingPairsByPairs_51 hX k4 v0 v1 v2 hk4 hv0 M18
    · refine V_iload_n hX (j := 1) (hj := rfl) 16 25 rfl rfl ?_
      refine V_aload_n hX (j := 0) (hj := rfl) 17 26 rfl rfl ?_
      refine V_iload_n hX (j := 2) (hj := rfl) 18 27 rfl rfl ?_
      refine V_callI hX 30 0 0 rfl rfl rfl (Nat.le_of_ble_eq_true rfl) (Nat.le_of_ble_eq_true rfl) (VR_V hX 19 (ct_Se_at (cx_t hX) K v0 v2 M18) my_Se_at mi_Se_at ms_Se_at ml_Ra_46 (Nat.le_of_ble_eq_true rfl) (Nat.le_of_ble_eq_true rfl) (loc_ser hv0) (ent_ser K _ hv0) rfl rfl rfl (Nat.le_of_ble_eq_true rfl) rfl (Nat.le_of_ble_eq_true rfl) (Nat.le_of_ble_eq_true rfl)) (fun r27 M27 => ?_)
      refine V_aload_n hX (j := 0) (hj := rfl) 20 31 rfl rfl ?_
      refine V_iload_n hX (j := 3) (hj := rfl) 21 32 rfl rfl ?_
      refine V_callI hX 35 0 0 rfl rfl rfl (Nat.le_of_ble_eq_true rfl) (Nat.le_of_ble_eq_true rfl) (VR_V hX 22 (ct_Se_at (cx_t hX) K v0 v3 M27) my_Se_at mi_Se_at ms_Se_at ml_Ra_46 (Nat.le_of_ble_eq_true rfl) (Nat.le_of_ble_eq_true rfl) (loc_ser hv0) (ent_ser K _ hv0) rfl rfl rfl (Nat.le_of_ble_eq_true rfl) rfl (Nat.le_of_ble_eq_true rfl) (Nat.le_of_ble_eq_true rfl)) (fun r32 M32 => ?_)
      refine V_icmp_le hX 23 38 42 rfl rfl (by decide) (fun c35 => ?_) (fun c35 => ?_)
      · refine V_iconst hX (v := 0) (hv := by decide) 26 43 rfl rfl ?_
        refine VV_sub [0, 2, 3] rfl ?_
        exact bt_Ra_fallingPairsByPairs_43 hX k4 (fn_Ra_fallingPairsByPairs_16 k4 v0 v2 n) v0 v2 v3 hk4 ih v1 0 hv0 M32
      · refine V_iconst hX (v := 1) (hv := by decide) 24 39 rfl rfl ?_
        refine V_goto hX 25 43 rfl (by decide) ?_
        refine VV_sub [0, 2, 3] rfl ?_
        exact bt_Ra_fallingPairsByPairs_43 hX k4 (fn_Ra_fallingPairsByPairs_16 k4 v0 v2 n) v0 v2 v3 hk4 ih v1 1 hv0 M32
set_option maxRecDepth 20000 in
theorem bt_Ra_fallingPairsByPairs_4 {l : Launch} {K : KT} {X : XT} (hX : Cx l K 2 4 0 0 X prog_10_method_16_code "SeriesArchive$Ranges" (some .int) [] L_Ra_fallingPairsByPairs) (v0 : Nat) (hv0 : isSer v0) : ∀ (n : Nat) (v1 : Int32) (v2 : Int32) (M : Mm), VV l K 2 4 0 0 rvI X (fn_Ra_fallingPairsByPairs_4 v0 n v1 v2 M) 0 0 M 4 [(0, .ref (kA K v0)), (1, .int v1), (2, .int v2)] [] := by
  intro n
  induction n with
  | zero => intro v1 v2 M; exact VV_none
  | succ n ih =>
    intro v1 v2 M
    rw [fn_Ra_fallingPairsByPairs_4]
    refine V_iload_n hX (j := 2) (hj := rfl) 4 5 rfl rfl ?_
    refine V_aload_n hX (j := 0) (hj := rfl) 5 6 rfl rfl ?_
    refine V_callI hX 9 0 0 rfl rfl rfl (Nat.le_of_ble_eq_true rfl) (Nat.le_of_ble_eq_true rfl) (VR_V hX 6 (ct_Se_size (cx_t hX) K v0 M) my_Se_size mi_Se_size ms_Se_size ml_Ra_32 (Nat.le_of_ble_eq_true rfl) (Nat.le_of_ble_eq_true rfl) (loc_ser hv0) (ent_ser K _ hv0) rfl rfl rfl (Nat.le_of_ble_eq_true rfl) rfl (Nat.le_of_ble_eq_true rfl) (Nat.le_of_ble_eq_true rfl)) (fun r6 M6 => ?_)
    refine V_icmp_ge hX 7 12 57 rfl rfl (by decide) (fun c9 => ?_) (fun c9 => ?_)
    · refine V_iload_n hX (j := 1) (hj := rfl) 33 58 rfl rfl ?_
      exact V_iret hX 34 rfl (Nat.le_of_ble_eq_true rfl) (Nat.le_of_ble_eq_true rfl) rfl
    · refine V_iload_n hX (j := 2) (hj := rfl) 8 13 rfl rfl ?_
      refine V_iconst hX (v := 1) (hv := by decide) 9 14 rfl rfl ?_
      refine V_iadd hX 10 15 rfl rfl ?_
      refine VV_li (fun x3_15 hx3_15 => ?_)
      refine V_istore_n hX 11 16 [(3, .int x3_15), (0, .ref (kA K v0)), (1, .int v1), (2, .int v2)] rfl rfl (Nat.le_of_ble_eq_true rfl) rfl ?_
      refine VV_sub [1, 2, 3, 0] rfl ?_
      exact bt_Ra_fallingPairsByPairs_16 hX (fn_Ra_fallingPairsByPairs_4 v0 n) v0 v2 ih hv0 fuel0 v1 x3_15 M6
set_option maxRecDepth 20000 in
theorem ct_Ra_fallingPairsByPairs {l : Launch} (hl : l.stackTraces = false) (K : KT) (v0 : Nat) (M : Mm) : CTp l K y_Ra_fallingPairsByPairs (Cond.code y_Ra_fallingPairsByPairs prog_10_method_16_code 4 (some .int)) rvI 2 0 0 [.ref (kA K v0)] M (fn_Ra_fallingPairsByPairs v0 M) := by
  refine CTp_of (L := L_Ra_fallingPairsByPairs) (lc := [(0, .ref (kA K v0))]) (by decide +kernel) dec_Ra_fallingPairsByPairs hl rfl (Nat.le_of_ble_eq_true rfl) (fun X hX => ?_)
  unfold fn_Ra_fallingPairsByPairs
  refine VV_grd (fun hv0 => ?_)
  refine V_iconst hX (v := 0) (hv := by decide) 0 1 rfl rfl ?_
  refine V_istore_n hX 1 2 [(1, .int 0), (0, .ref (kA K v0))] rfl rfl (Nat.le_of_ble_eq_true rfl) rfl ?_
  refine V_iconst hX (v := 0) (hv := by decide) 2 3 rfl rfl ?_
  refine V_istore_n hX 3 4 [(2, .int 0), (1, .int 0), (0, .ref (kA K v0))] rfl rfl (Nat.le_of_ble_eq_true rfl) rfl ?_
  refine VV_sub [2, 1, 0] rfl ?_
  exact bt_Ra_fallingPairsByPairs_4 hX v0 hv0 fuel0 0 0 M
set_option maxRecDepth 20000 in
theorem bt_Se_total_5 {l : Launch} {K : KT} {X : XT} (hX : Cx l K 2 5 0 0 X prog_11_method_22_code "SeriesArchive$Series" (some .int) [] L_Se_total) (v0 : Nat) (v2 : Int32) (hv0 : isSer v0) : ∀ (n : Nat) (v3 : Int32) (v4 : Int32) (M : Mm), VV l K 2 5 0 0 rvI X (fn_Se_total_5 v0 v2 n v3 v4 M) 0 0 M 5 [(0, .ref (kA K v0)), (2, .int v2), (3, .int v3), (4, .int v4)] [] := by
  intro n
  induction n with
  | zero => intro v3 v4 M; exact VV_none
  | succ n ih =>
    intro v3 v4 M
    rw [fn_Se_total_5]
    refine V_iload hX (j := 3) (hj := rfl) 4 7 rfl rfl ?_
    refine V_iload_n hX (j := 1) (hj := rfl) 5 8 rfl rfl ?_
    refine V_icmp_gt hX 6 11 26 rfl rfl (by decide) (fun c8 => ?_) (fun c8 => ?_)
    · refine V_iload_n hX (j := 2) (hj := rfl) 15 27 rfl rfl ?_
      exact V_iret hX 16 rfl (Nat.le_of_ble_eq_true rfl) (Nat.le_of_ble_eq_true rfl) rfl
    · refine V_iload_n hX (j := 2) (hj := rfl) 7 12 rfl rfl ?_
      refine V_aload_n hX (j := 0) (hj := rfl) 8 13 rfl rfl ?_
      refine V_iload hX (j := 3) (hj := rfl) 9 15 rfl rfl ?_
      refine V_callI hX 18 0 0 rfl rfl rfl (Nat.le_of_ble_eq_true rfl) (Nat.le_of_ble_eq_true rfl) (VR_V hX 10 (ct_Se_at (cx_t hX) K v0 v4 M) my_Se_at mi_Se_at ms_Se_at ml_Se_31 (Nat.le_of_ble_eq_true rfl) (Nat.le_of_ble_eq_true rfl) (loc_ser hv0) (ent_ser K _ hv0) rfl rfl rfl (Nat.le_of_ble_eq_true rfl) rfl (Nat.le_of_ble_eq_true rfl) (Nat.le_of_ble_eq_true rfl)) (fun r15 M15 => ?_)
      refine V_iadd hX 11 19 rfl rfl ?_
      refine VV_li (fun x3_19 hx3_19 => ?_)
      refine V_istore_n hX 12 20 [(3, .int x3_19), (0, .ref (kA K v0)), (2, .int v2), (4, .int v4)] rfl rfl (Nat.le_of_ble_eq_true rfl) rfl ?_
      refine V_iincL hX 13 23 3 rfl rfl rfl rfl (Nat.le_of_ble_eq_true rfl) (fun x4_20 hx4_20 => ?_)
      refine VV_lc [(4, .int x4_20), (3, .int x3_19), (0, .ref (kA K v0)), (2, .int v2)] rfl ?_
      refine V_goto hX 14 5 rfl (by decide) ?_
      refine VV_sub [2, 3, 1, 0] rfl ?_
      exact ih x3_19 x4_20 M15
set_option maxRecDepth 20000 in
theorem ct_Se_total {l : Launch} (hl : l.stackTraces = false) (K : KT) (v0 : Nat) (v1 : Int32) (v2 : Int32) (M : Mm) : CTp l K y_Se_total (Cond.code y_Se_total prog_11_method_22_code 5 (some .int)) rvI 2 0 0 [.ref (kA K v0), .int v1, .int v2] M (fn_Se_total v0 v1 v2 M) := by
  refine CTp_of (L := L_Se_total) (lc := [(0, .ref (kA K v0)), (1, .int v1), (2, .int v2)]) (by decide +kernel) dec_Se_total hl rfl (Nat.le_of_ble_eq_true rfl) (fun X hX => ?_)
  unfold fn_Se_total
  refine VV_grd (fun hv0 => ?_)
  refine V_iconst hX (v := 0) (hv := by decide) 0 1 rfl rfl ?_
  refine V_istore_n hX 1 2 [(3, .int 0), (0, .ref (kA K v0)), (1, .int v1), (2, .int v2)] rfl rfl (Nat.le_of_ble_eq_true rfl) rfl ?_
  refine V_iload_n hX (j := 2) (hj := rfl) 2 3 rfl rfl ?_
  refine V_istore hX 3 5 [(4, .int v1), (3, .int 0), (0, .ref (kA K v0)), (1, .int v1), (2, .int v2)] rfl rfl (Nat.le_of_ble_eq_true rfl) rfl ?_
  refine VV_sub [2, 4, 1, 0] rfl ?_
  exact bt_Se_total_5 hX v0 v2 hv0 fuel0 0 v1 M
set_option maxRecDepth 20000 in
theorem bt_Ra_agreeOn_78 {l : Launch} {K : KT} {X : XT} (hX : Cx l K 50 3 0 0 X prog_10_method_17_code "SeriesArchive$Ranges" (some .boolean) [] L_Ra_agreeOn) (M : Mm) : VV l K 50 3 0 0 rvI X (fn_Ra_agreeOn_78 M) 0 0 M 78 [] [] := by
  unfold fn_Ra_agreeOn_78
  refine V_iconst hX (v := 1) (hv := by decide) 42 79 rfl rfl ?_
  refine V_goto hX 43 83 rfl (by decide) ?_
  exact V_zret hX 45 rfl rfl (Nat.le_of_ble_eq_true rfl) (Nat.le_of_ble_eq_true rfl) rfl
set_option maxRecDepth 20000 in
theorem bt_Ra_agreeOn_48 {l : Launch} {K : KT} {X : XT} (hX : Cx l K 50 3 0 0 X prog_10_method_17_code "SeriesArchive$Ranges" (some .boolean) [] L_Ra_agreeOn) (v1 : Nat) (hv1 : isSer v1) (M : Mm) : VV l K 50 3 0 0 rvI X (fn_Ra_agreeOn_48 v1 M) 0 0 M 48 [(0, .ref (kA K 21)), (1, .ref (kA K v1))] [] := by
  unfold fn_Ra_agreeOn_48
  refine V_aload_n hX (j := 0) (hj := rfl) 28 49 rfl rfl ?_
  refine V_aload_n hX (j := 1) (hj := rfl) 29 50 rfl rfl ?_
  refine V_callI hX 53 0 0 rfl rfl rfl (Nat.le_of_ble_eq_true rfl) (Nat.le_of_ble_eq_true rfl) (VR_V hX 30 (ct_Ra_fallingPairs (cx_t hX) K v1 M) my_Ra_fallingPairs mi_Ra_fallingPairs ms_Ra_fallingPairs ml_Ra_86 (Nat.le_of_ble_eq_true rfl) (Nat.le_of_ble_eq_true rfl) (by decide) (ent_21 K _) rfl rfl rfl (Nat.le_of_ble_eq_true rfl) rfl (Nat.le_of_ble_eq_true rfl) (Nat.le_of_ble_eq_true rfl)) (fun r50 M50 => ?_)
  refine V_aload_n hX (j := 1) (hj := rfl) 31 54 rfl rfl ?_
  refine V_callI hX 57 0 0 rfl rfl rfl (Nat.le_of_ble_eq_true rfl) (Nat.le_of_ble_eq_true rfl) (VR_S hX 32 (ct_Ra_fallingPairsByPairs (cx_t hX) K v1 M50) my_Ra_fallingPairsByPairs mt_Ra_fallingPairsByPairs ml_Ra_89 (Nat.le_of_ble_eq_true rfl) (Nat.le_of_ble_eq_true rfl) rfl rfl (Nat.le_of_ble_eq_true rfl) rfl (Nat.le_of_ble_eq_true rfl) (Nat.le_of_ble_eq_true rfl)) (fun r54 M54 => ?_)
  refine V_icmp_ne hX 33 60 82 rfl rfl (by decide) (fun c57 => ?_) (fun c57 => ?_)
  · refine V_iconst hX (v := 0) (hv := by decide) 44 83 rfl rfl ?_
    exact V_zret hX 45 rfl rfl (Nat.le_of_ble_eq_true rfl) (Nat.le_of_ble_eq_true rfl) rfl
  · refine V_aload_n hX (j := 1) (hj := rfl) 34 61 rfl rfl ?_
    refine V_callI hX 64 0 0 rfl rfl rfl (Nat.le_of_ble_eq_true rfl) (Nat.le_of_ble_eq_true rfl) (VR_V hX 35 (ct_Se_isEmpty (cx_t hX) K v1 M54) my_Se_isEmpty mi_Se_isEmpty ms_Se_isEmpty ml_Ra_92 (Nat.le_of_ble_eq_true rfl) (Nat.le_of_ble_eq_true rfl) (loc_ser hv1) (ent_ser K _ hv1) rfl rfl rfl (Nat.le_of_ble_eq_true rfl) rfl (Nat.le_of_ble_eq_true rfl) (Nat.le_of_ble_eq_true rfl)) (fun r61 M61 => ?_)
    refine V_if_ne hX 36 67 78 rfl rfl (by decide) (fun c64 => ?_) (fun c64 => ?_)
    · refine VV_sub [] rfl ?_
      exact bt_Ra_agreeOn_78 hX M61
    · refine V_aload_n hX (j := 1) (hj := rfl) 37 68 rfl rfl ?_
      refine V_callI hX 71 0 0 rfl rfl rfl (Nat.le_of_ble_eq_true rfl) (Nat.le_of_ble_eq_true rfl) (VR_S hX 38 (ct_Ra_bestTotal (cx_t hX) K v1 M61) my_Ra_bestTotal mt_Ra_bestTotal ml_Ra_55 (Nat.le_of_ble_eq_true rfl) (Nat.le_of_ble_eq_true rfl) rfl rfl (Nat.le_of_ble_eq_true rfl) rfl (Nat.le_of_ble_eq_true rfl) (Nat.le_of_ble_eq_true rfl)) (fun r68 M68 => ?_)
      refine V_aload_n hX (j := 1) (hj := rfl) 39 72 rfl rfl ?_
      refine V_callI hX 75 0 0 rfl rfl rfl (Nat.le_of_ble_eq_true rfl) (Nat.le_of_ble_eq_true rfl) (VR_S hX 40 (ct_Ra_bestTotalByRanges (cx_t hX) K v1 M68) my_Ra_bestTotalByRanges mt_Ra_bestTotalByRanges ml_Ra_96 (Nat.le_of_ble_eq_true rfl) (Nat.le_of_ble_eq_true rfl) rfl rfl (Nat.le_of_ble_eq_true rfl) rfl (Nat.le_of_ble_eq_true rfl) (Nat.le_of_ble_eq_true rfl)) (fun r72 M72 => ?_)
      refine V_icmp_ne hX 41 78 82 rfl rfl (by decide) (fun c75 => ?_) (fun c75 => ?_)
      · refine V_iconst hX (v := 0) (hv := by decide) 44 83 rfl rfl ?_
        exact V_zret hX 45 rfl rfl (Nat.le_of_ble_eq_true rfl) (Nat.le_of_ble_eq_true rfl) rfl
      · refine VV_sub [] rfl ?_
        exact bt_Ra_agreeOn_78 hX M72
set_option maxRecDepth 20000 in
theorem bt_Ra_agreeOn_2 {l : Launch} {K : KT} {X : XT} (hX : Cx l K 50 3 0 0 X prog_10_method_17_code "SeriesArchive$Ranges" (some .boolean) [] L_Ra_agreeOn) (v1 : Nat) (hv1 : isSer v1) : ∀ (n : Nat) (v2 : Int32) (M : Mm), VV l K 50 3 0 0 rvI X (fn_Ra_agreeOn_2 v1 n v2 M) 0 0 M 2 [(0, .ref (kA K 21)), (1, .ref (kA K v1)), (2, .int v2)] [] := by
  intro n
  induction n with
  | zero => intro v2 M; exact VV_none
  | succ n ih =>
    intro v2 M
    rw [fn_Ra_agreeOn_2]
    refine V_iload_n hX (j := 2) (hj := rfl) 2 3 rfl rfl ?_
    refine V_aload_n hX (j := 1) (hj := rfl) 3 4 rfl rfl ?_
    refine V_callI hX 7 0 0 rfl rfl rfl (Nat.le_of_ble_eq_true rfl) (Nat.le_of_ble_eq_true rfl) (VR_V hX 4 (ct_Se_size (cx_t hX) K v1 M) my_Se_size mi_Se_size ms_Se_size ml_Ra_32 (Nat.le_of_ble_eq_true rfl) (Nat.le_of_ble_eq_true rfl) (loc_ser hv1) (ent_ser K _ hv1) rfl rfl rfl (Nat.le_of_ble_eq_true rfl) rfl (Nat.le_of_ble_eq_true rfl) (Nat.le_of_ble_eq_true rfl)) (fun r4 M4 => ?_)
    refine V_icmp_ge hX 5 10 48 rfl rfl (by decide) (fun c7 => ?_) (fun c7 => ?_)
    · refine VV_sub [0, 1] rfl ?_
      exact bt_Ra_agreeOn_48 hX v1 hv1 M4
    · refine V_aload_n hX (j := 1) (hj := rfl) 6 11 rfl rfl ?_
      refine V_iconst hX (v := 0) (hv := by decide) 7 12 rfl rfl ?_
      refine V_iload_n hX (j := 2) (hj := rfl) 8 13 rfl rfl ?_
      refine V_callI hX 16 0 0 rfl rfl rfl (Nat.le_of_ble_eq_true rfl) (Nat.le_of_ble_eq_true rfl) (VR_V hX 9 (ct_Se_total (cx_t hX) K v1 0 v2 M4) my_Se_total mi_Se_total ms_Se_total ml_Ra_73 (Nat.le_of_ble_eq_true rfl) (Nat.le_of_ble_eq_true rfl) (loc_ser hv1) (ent_ser K _ hv1) rfl rfl rfl (Nat.le_of_ble_eq_true rfl) rfl (Nat.le_of_ble_eq_true rfl) (Nat.le_of_ble_eq_true rfl)) (fun r13 M13 => ?_)
      refine V_aload_n hX (j := 0) (hj := rfl) 10 17 rfl rfl ?_
      refine V_aload_n hX (j := 1) (hj := rfl) 11 18 rfl rfl ?_
      refine V_iconst hX (v := 0) (hv := by decide) 12 19 rfl rfl ?_
      refine V_iload_n hX (j := 2) (hj := rfl) 13 20 rfl rfl ?_
      refine V_callI hX 23 0 0 rfl rfl rfl (Nat.le_of_ble_eq_true rfl) (Nat.le_of_ble_eq_true rfl) (VR_V hX 14 (ct_Ra_totalByTree (cx_t hX) K v1 0 v2 M13) my_Ra_totalByTree mi_Ra_totalByTree ms_Ra_totalByTree ml_Ra_76 (Nat.le_of_ble_eq_true rfl) (Nat.le_of_ble_eq_true rfl) (by decide) (ent_21 K _) rfl rfl rfl (Nat.le_of_ble_eq_true rfl) rfl (Nat.le_of_ble_eq_true rfl) (Nat.le_of_ble_eq_true rfl)) (fun r20 M20 => ?_)
      refine V_icmp_ne hX 15 26 40 rfl rfl (by decide) (fun c23 => ?_) (fun c23 => ?_)
      · refine V_iconst hX (v := 0) (hv := by decide) 24 41 rfl rfl ?_
        exact V_zret hX 25 rfl rfl (Nat.le_of_ble_eq_true rfl) (Nat.le_of_ble_eq_true rfl) rfl
      · refine V_aload_n hX (j := 0) (hj := rfl) 16 27 rfl rfl ?_
        refine V_aload_n hX (j := 1) (hj := rfl) 17 28 rfl rfl ?_
        refine V_iload_n hX (j := 2) (hj := rfl) 18 29 rfl rfl ?_
        refine V_callI hX 32 0 0 rfl rfl rfl (Nat.le_of_ble_eq_true rfl) (Nat.le_of_ble_eq_true rfl) (VR_V hX 19 (ct_Ra_nextAbove (cx_t hX) K v1 v2 M20) my_Ra_nextAbove mi_Ra_nextAbove ms_Ra_nextAbove ml_Ra_79 (Nat.le_of_ble_eq_true rfl) (Nat.le_of_ble_eq_true rfl) (by decide) (ent_21 K _) rfl rfl rfl (Nat.le_of_ble_eq_true rfl) rfl (Nat.le_of_ble_eq_true rfl) (Nat.le_of_ble_eq_true rfl)) (fun r29 M29 => ?_)
        refine V_aload_n hX (j := 1) (hj := rfl) 20 33 rfl rfl ?_
        refine V_iload_n hX (j := 2) (hj := rfl) 21 34 rfl rfl ?_
        refine V_callI hX 37 0 0 rfl rfl rfl (Nat.le_of_ble_eq_true rfl) (Nat.le_of_ble_eq_true rfl) (VR_S hX 22 (ct_Ra_nextAboveByScan (cx_t hX) K v1 v2 M29) my_Ra_nextAboveByScan mt_Ra_nextAboveByScan ml_Ra_83 (Nat.le_of_ble_eq_true rfl) (Nat.le_of_ble_eq_true rfl) rfl rfl (Nat.le_of_ble_eq_true rfl) rfl (Nat.le_of_ble_eq_true rfl) (Nat.le_of_ble_eq_true rfl)) (fun r34 M34 => ?_)
        refine V_icmp_eq hX 23 40 42 rfl rfl (by decide) (fun c37 => ?_) (fun c37 => ?_)
        · refine V_iincL hX 26 45 2 rfl rfl rfl rfl (Nat.le_of_ble_eq_true rfl) (fun x2_42 hx2_42 => ?_)
          refine VV_lc [(2, .int x2_42), (0, .ref (kA K 21)), (1, .ref (kA K v1))] rfl ?_
          refine V_goto hX 27 2 rfl (by decide) ?_
          refine VV_sub [1, 2, 0] rfl ?_
          exact ih x2_42 M34
        · refine V_iconst hX (v := 0) (hv := by decide) 24 41 rfl rfl ?_
          exact V_zret hX 25 rfl rfl (Nat.le_of_ble_eq_true rfl) (Nat.le_of_ble_eq_true rfl) rfl
set_option maxRecDepth 20000 in
theorem ct_Ra_agreeOn {l : Launch} (hl : l.stackTraces = false) (K : KT) (v1 : Nat) (M : Mm) : CTp l K y_Ra_agreeOn (Cond.code y_Ra_agreeOn prog_10_method_17_code 3 (some .boolean)) rvI 50 0 0 [.ref (kA K 21), .ref (kA K v1)] M (fn_Ra_agreeOn v1 M) := by
  refine CTp_of (L := L_Ra_agreeOn) (lc := [(0, .ref (kA K 21)), (1, .ref (kA K v1))]) (by decide +kernel) dec_Ra_agreeOn hl rfl (Nat.le_of_ble_eq_true rfl) (fun X hX => ?_)
  unfold fn_Ra_agreeOn
  refine VV_grd (fun hv1 => ?_)
  refine V_iconst hX (v := 0) (hv := by decide) 0 1 rfl rfl ?_
  refine V_istore_n hX 1 2 [(2, .int 0), (0, .ref (kA K 21)), (1, .ref (kA K v1))] rfl rfl (Nat.le_of_ble_eq_true rfl) rfl ?_
  refine VV_sub [1, 2, 0] rfl ?_
  exact bt_Ra_agreeOn_2 hX v1 hv1 fuel0 0 M
set_option maxRecDepth 20000 in
theorem ct_Se_isFull {l : Launch} (hl : l.stackTraces = false) (K : KT) (v0 : Nat) (M : Mm) : CTp l K y_Se_isFull (Cond.code y_Se_isFull prog_11_method_4_code 1 (some .boolean)) rvI 1 0 0 [.ref (kA K v0)] M (fn_Se_isFull v0 M) := by
  refine CTp_of (L := L_Se_isFull) (lc := [(0, .ref (kA K v0))]) (by decide +kernel) dec_Se_isFull hl rfl (Nat.le_of_ble_eq_true rfl) (fun X hX => ?_)
  unfold fn_Se_isFull
  refine VV_grd (fun hv0 => ?_)
  refine V_aload_n hX (j := 0) (hj := rfl) 0 1 rfl rfl ?_
  refine V_get hX 1 4 v0 (.int (M v0 1)) fl_Se_15 rfl rfl (loc_ser hv0) (ent_ser K _ hv0) rfl ?_
  refine V_bipush hX (v := 20) (hv := by decide) 2 6 rfl rfl ?_
  refine V_icmp_lt hX 3 9 13 rfl rfl (by decide) (fun c6 => ?_) (fun c6 => ?_)
  · refine V_iconst hX (v := 0) (hv := by decide) 6 14 rfl rfl ?_
    exact V_zret hX 7 rfl rfl (Nat.le_of_ble_eq_true rfl) (Nat.le_of_ble_eq_true rfl) rfl
  · refine V_iconst hX (v := 1) (hv := by decide) 4 10 rfl rfl ?_
    refine V_goto hX 5 14 rfl (by decide) ?_
    exact V_zret hX 7 rfl rfl (Nat.le_of_ble_eq_true rfl) (Nat.le_of_ble_eq_true rfl) rfl
set_option maxRecDepth 20000 in
theorem ct_Se_add {l : Launch} (hl : l.stackTraces = false) (K : KT) (v0 : Nat) (v1 : Int32) (M : Mm) : CTp l K y_Se_add (Cond.code y_Se_add prog_11_method_8_code 2 none) rvU 3 0 0 [.ref (kA K v0), .int v1] M (fn_Se_add v0 v1 M) := by
  refine CTp_of (L := L_Se_add) (lc := [(0, .ref (kA K v0)), (1, .int v1)]) (by decide +kernel) dec_Se_add hl rfl (Nat.le_of_ble_eq_true rfl) (fun X hX => ?_)
  unfold fn_Se_add
  refine VV_grd (fun hv0 => ?_)
  refine V_aload_n hX (j := 0) (hj := rfl) 0 1 rfl rfl ?_
  refine V_callI hX 4 0 0 rfl rfl rfl (Nat.le_of_ble_eq_true rfl) (Nat.le_of_ble_eq_true rfl) (VR_V hX 1 (ct_Se_isFull (cx_t hX) K v0 M) my_Se_isFull mi_Se_isFull ms_Se_isFull ml_Se_23 (Nat.le_of_ble_eq_true rfl) (Nat.le_of_ble_eq_true rfl) (loc_ser hv0) (ent_ser K _ hv0) rfl rfl rfl (Nat.le_of_ble_eq_true rfl) rfl (Nat.le_of_ble_eq_true rfl) (Nat.le_of_ble_eq_true rfl)) (fun r1 M1 => ?_)
  refine V_if_ne hX 2 7 26 rfl rfl (by decide) (fun c4 => ?_) (fun c4 => ?_)
  · exact V_vret hX 14 rfl (Nat.le_of_ble_eq_true rfl) (Nat.le_of_ble_eq_true rfl) rfl
  · refine V_aload_n hX (j := 0) (hj := rfl) 3 8 rfl rfl ?_
    refine V_aload_n hX (j := 0) (hj := rfl) 4 9 rfl rfl ?_
    refine V_get hX 5 12 v0 (.int (M1 v0 1)) fl_Se_15 rfl rfl (loc_ser hv0) (ent_ser K _ hv0) rfl ?_
    refine V_iload_n hX (j := 1) (hj := rfl) 6 13 rfl rfl ?_
    refine V_callU hX 16 0 0 rfl rfl rfl (Nat.le_of_ble_eq_true rfl) (Nat.le_of_ble_eq_true rfl) (VR_V hX 7 (ct_Se_put (cx_t hX) K v0 (M1 v0 1) v1 M1) my_Se_put mi_Se_put ms_Se_put ml_Se_27 (Nat.le_of_ble_eq_true rfl) (Nat.le_of_ble_eq_true rfl) (loc_ser hv0) (ent_ser K _ hv0) rfl rfl rfl (Nat.le_of_ble_eq_true rfl) rfl (Nat.le_of_ble_eq_true rfl) (Nat.le_of_ble_eq_true rfl)) (fun r13 M13 => ?_)
    refine V_aload_n hX (j := 0) (hj := rfl) 8 17 rfl rfl ?_
    refine V_dup hX (hc := rfl) 9 18 rfl rfl ?_
    refine V_get hX 10 21 v0 (.int (M13 v0 1)) fl_Se_15 rfl rfl (loc_ser hv0) (ent_ser K _ hv0) rfl ?_
    refine V_iconst hX (v := 1) (hv := by decide) 11 22 rfl rfl ?_
    refine V_iadd hX 12 23 rfl rfl ?_
    refine V_putI hX 13 26 v0 fp_Se_15 (ser_ne19 hv0) rfl rfl (loc_ser hv0) (ent_ser K _ hv0) (Nat.le_of_ble_eq_true rfl) (ent_ser K _ hv0) (fun M23 hM23 => ?_)
    exact V_vret hX 14 rfl (Nat.le_of_ble_eq_true rfl) (Nat.le_of_ble_eq_true rfl) rfl
set_option maxRecDepth 20000 in
theorem bt_Se_dropFirst_28 {l : Launch} {K : KT} {X : XT} (hX : Cx l K 3 3 0 0 X prog_11_method_9_code "SeriesArchive$Series" none [] L_Se_dropFirst) (v0 : Nat) (v1 : Int32) (hv0 : isSer v0) (M : Mm) : VV l K 3 3 0 0 rvU X (fn_Se_dropFirst_28 v0 v1 M) 0 0 M 28 [(0, .ref (kA K v0)), (1, .int v1)] [] := by
  unfold fn_Se_dropFirst_28
  refine V_aload_n hX (j := 0) (hj := rfl) 16 29 rfl rfl ?_
  refine V_dup hX (hc := rfl) 17 30 rfl rfl ?_
  refine V_get hX 18 33 v0 (.int (M v0 1)) fl_Se_15 rfl rfl (loc_ser hv0) (ent_ser K _ hv0) rfl ?_
  refine V_iload_n hX (j := 1) (hj := rfl) 19 34 rfl rfl ?_
  refine V_isub hX 20 35 rfl rfl ?_
  refine V_putI hX 21 38 v0 fp_Se_15 (ser_ne19 hv0) rfl rfl (loc_ser hv0) (ent_ser K _ hv0) (Nat.le_of_ble_eq_true rfl) (ent_ser K _ hv0) (fun M35 hM35 => ?_)
  exact V_vret hX 22 rfl (Nat.le_of_ble_eq_true rfl) (Nat.le_of_ble_eq_true rfl) rfl
set_option maxRecDepth 20000 in
theorem bt_Se_dropFirst_2 {l : Launch} {K : KT} {X : XT} (hX : Cx l K 3 3 0 0 X prog_11_method_9_code "SeriesArchive$Series" none [] L_Se_dropFirst) (v0 : Nat) (v1 : Int32) (hv0 : isSer v0) : ∀ (n : Nat) (v2 : Int32) (M : Mm), VV l K 3 3 0 0 rvU X (fn_Se_dropFirst_2 v0 v1 n v2 M) 0 0 M 2 [(0, .ref (kA K v0)), (1, .int v1), (2, .int v2)] [] := by
  intro n
  induction n with
  | zero => intro v2 M; exact VV_none
  | succ n ih =>
    intro v2 M
    rw [fn_Se_dropFirst_2]
    refine V_iload_n hX (j := 2) (hj := rfl) 2 3 rfl rfl ?_
    refine V_aload_n hX (j := 0) (hj := rfl) 3 4 rfl rfl ?_
    refine V_get hX 4 7 v0 (.int (M v0 1)) fl_Se_15 rfl rfl (loc_ser hv0) (ent_ser K _ hv0) rfl ?_
    refine V_icmp_ge hX 5 10 28 rfl rfl (by decide) (fun c7 => ?_) (fun c7 => ?_)
    · refine VV_sub [0, 1] rfl ?_
      exact bt_Se_dropFirst_28 hX v0 v1 hv0 M
    · refine V_aload_n hX (j := 0) (hj := rfl) 6 11 rfl rfl ?_
      refine V_iload_n hX (j := 2) (hj := rfl) 7 12 rfl rfl ?_
      refine V_iload_n hX (j := 1) (hj := rfl) 8 13 rfl rfl ?_
      refine V_isub hX 9 14 rfl rfl ?_
      refine V_aload_n hX (j := 0) (hj := rfl) 10 15 rfl rfl ?_
      refine V_iload_n hX (j := 2) (hj := rfl) 11 16 rfl rfl ?_
      refine V_callI hX 19 0 0 rfl rfl rfl (Nat.le_of_ble_eq_true rfl) (Nat.le_of_ble_eq_true rfl) (VR_V hX 12 (ct_Se_at (cx_t hX) K v0 v2 M) my_Se_at mi_Se_at ms_Se_at ml_Se_31 (Nat.le_of_ble_eq_true rfl) (Nat.le_of_ble_eq_true rfl) (loc_ser hv0) (ent_ser K _ hv0) rfl rfl rfl (Nat.le_of_ble_eq_true rfl) rfl (Nat.le_of_ble_eq_true rfl) (Nat.le_of_ble_eq_true rfl)) (fun r16 M16 => ?_)
      refine V_callU hX 22 0 0 rfl rfl rfl (Nat.le_of_ble_eq_true rfl) (Nat.le_of_ble_eq_true rfl) (VR_V hX 13 (ct_Se_put (cx_t hX) K v0 (v2 - v1) r16 M16) my_Se_put mi_Se_put ms_Se_put ml_Se_27 (Nat.le_of_ble_eq_true rfl) (Nat.le_of_ble_eq_true rfl) (loc_ser hv0) (ent_ser K _ hv0) rfl rfl rfl (Nat.le_of_ble_eq_true rfl) rfl (Nat.le_of_ble_eq_true rfl) (Nat.le_of_ble_eq_true rfl)) (fun r19 M19 => ?_)
      refine V_iincL hX 14 25 2 rfl rfl rfl rfl (Nat.le_of_ble_eq_true rfl) (fun x2_22 hx2_22 => ?_)
      refine VV_lc [(2, .int x2_22), (0, .ref (kA K v0)), (1, .int v1)] rfl ?_
      refine V_goto hX 15 2 rfl (by decide) ?_
      refine VV_sub [1, 2, 0] rfl ?_
      exact ih x2_22 M19
set_option maxRecDepth 20000 in
theorem ct_Se_dropFirst {l : Launch} (hl : l.stackTraces = false) (K : KT) (v0 : Nat) (v1 : Int32) (M : Mm) : CTp l K y_Se_dropFirst (Cond.code y_Se_dropFirst prog_11_method_9_code 3 none) rvU 3 0 0 [.ref (kA K v0), .int v1] M (fn_Se_dropFirst v0 v1 M) := by
  refine CTp_of (L := L_Se_dropFirst) (lc := [(0, .ref (kA K v0)), (1, .int v1)]) (by decide +kernel) dec_Se_dropFirst hl rfl (Nat.le_of_ble_eq_true rfl) (fun X hX => ?_)
  unfold fn_Se_dropFirst
  refine VV_grd (fun hv0 => ?_)
  refine V_iload_n hX (j := 1) (hj := rfl) 0 1 rfl rfl ?_
  refine V_istore_n hX 1 2 [(2, .int v1), (0, .ref (kA K v0)), (1, .int v1)] rfl rfl (Nat.le_of_ble_eq_true rfl) rfl ?_
  refine VV_sub [1, 2, 0] rfl ?_
  exact bt_Se_dropFirst_2 hX v0 v1 hv0 fuel0 v1 M
set_option maxRecDepth 20000 in
theorem bt_Se_become_26 {l : Launch} {K : KT} {X : XT} (hX : Cx l K 3 3 0 0 X prog_11_method_10_code "SeriesArchive$Series" none [] L_Se_become) (v0 : Nat) (v1 : Nat) (hv0 : isSer v0) (hv1 : isSer v1) (M : Mm) : VV l K 3 3 0 0 rvU X (fn_Se_become_26 v0 v1 M) 0 0 M 26 [(0, .ref (kA K v0)), (1, .ref (kA K v1))] [] := by
  unfold fn_Se_become_26
  refine V_aload_n hX (j := 0) (hj := rfl) 14 27 rfl rfl ?_
  refine V_aload_n hX (j := 1) (hj := rfl) 15 28 rfl rfl ?_
  refine V_get hX 16 31 v1 (.int (M v1 1)) fl_Se_15 rfl rfl (loc_ser hv1) (ent_ser K _ hv1) rfl ?_
  refine V_putI hX 17 34 v0 fp_Se_15 (ser_ne19 hv0) rfl rfl (loc_ser hv0) (ent_ser K _ hv0) (Nat.le_of_ble_eq_true rfl) (ent_ser K _ hv0) (fun M31 hM31 => ?_)
  exact V_vret hX 18 rfl (Nat.le_of_ble_eq_true rfl) (Nat.le_of_ble_eq_true rfl) rfl
set_option maxRecDepth 20000 in
theorem bt_Se_become_2 {l : Launch} {K : KT} {X : XT} (hX : Cx l K 3 3 0 0 X prog_11_method_10_code "SeriesArchive$Series" none [] L_Se_become) (v0 : Nat) (v1 : Nat) (hv0 : isSer v0) (hv1 : isSer v1) : ∀ (n : Nat) (v2 : Int32) (M : Mm), VV l K 3 3 0 0 rvU X (fn_Se_become_2 v0 v1 n v2 M) 0 0 M 2 [(0, .ref (kA K v0)), (1, .ref (kA K v1)), (2, .int v2)] [] := by
  intro n
  induction n with
  | zero => intro v2 M; exact VV_none
  | succ n ih =>
    intro v2 M
    rw [fn_Se_become_2]
    refine V_iload_n hX (j := 2) (hj := rfl) 2 3 rfl rfl ?_
    refine V_aload_n hX (j := 1) (hj := rfl) 3 4 rfl rfl ?_
    refine V_get hX 4 7 v1 (.int (M v1 1)) fl_Se_15 rfl rfl (loc_ser hv1) (ent_ser K _ hv1) rfl ?_
    refine V_icmp_ge hX 5 10 26 rfl rfl (by decide) (fun c7 => ?_) (fun c7 => ?_)
    · refine VV_sub [0, 1] rfl ?_
      exact bt_Se_become_26 hX v0 v1 hv0 hv1 M
    · refine V_aload_n hX (j := 0) (hj := rfl) 6 11 rfl rfl ?_
      refine V_iload_n hX (j := 2) (hj := rfl) 7 12 rfl rfl ?_
      refine V_aload_n hX (j := 1) (hj := rfl) 8 13 rfl rfl ?_
      refine V_iload_n hX (j := 2) (hj := rfl) 9 14 rfl rfl ?_
      refine V_callI hX 17 0 0 rfl rfl rfl (Nat.le_of_ble_eq_true rfl) (Nat.le_of_ble_eq_true rfl) (VR_V hX 10 (ct_Se_at (cx_t hX) K v1 v2 M) my_Se_at mi_Se_at ms_Se_at ml_Se_31 (Nat.le_of_ble_eq_true rfl) (Nat.le_of_ble_eq_true rfl) (loc_ser hv1) (ent_ser K _ hv1) rfl rfl rfl (Nat.le_of_ble_eq_true rfl) rfl (Nat.le_of_ble_eq_true rfl) (Nat.le_of_ble_eq_true rfl)) (fun r14 M14 => ?_)
      refine V_callU hX 20 0 0 rfl rfl rfl (Nat.le_of_ble_eq_true rfl) (Nat.le_of_ble_eq_true rfl) (VR_V hX 11 (ct_Se_put (cx_t hX) K v0 v2 r14 M14) my_Se_put mi_Se_put ms_Se_put ml_Se_27 (Nat.le_of_ble_eq_true rfl) (Nat.le_of_ble_eq_true rfl) (loc_ser hv0) (ent_ser K _ hv0) rfl rfl rfl (Nat.le_of_ble_eq_true rfl) rfl (Nat.le_of_ble_eq_true rfl) (Nat.le_of_ble_eq_true rfl)) (fun r17 M17 => ?_)
      refine V_iincL hX 12 23 2 rfl rfl rfl rfl (Nat.le_of_ble_eq_true rfl) (fun x2_20 hx2_20 => ?_)
      refine VV_lc [(2, .int x2_20), (0, .ref (kA K v0)), (1, .ref (kA K v1))] rfl ?_
      refine V_goto hX 13 2 rfl (by decide) ?_
      refine VV_sub [1, 2, 0] rfl ?_
      exact ih x2_20 M17
set_option maxRecDepth 20000 in
theorem ct_Se_become {l : Launch} (hl : l.stackTraces = false) (K : KT) (v0 : Nat) (v1 : Nat) (M : Mm) : CTp l K y_Se_become (Cond.code y_Se_become prog_11_method_10_code 3 none) rvU 3 0 0 [.ref (kA K v0), .ref (kA K v1)] M (fn_Se_become v0 v1 M) := by
  refine CTp_of (L := L_Se_become) (lc := [(0, .ref (kA K v0)), (1, .ref (kA K v1))]) (by decide +kernel) dec_Se_become hl rfl (Nat.le_of_ble_eq_true rfl) (fun X hX => ?_)
  unfold fn_Se_become
  refine VV_grd (fun hv0 => ?_)
  refine VV_grd (fun hv1 => ?_)
  refine V_iconst hX (v := 0) (hv := by decide) 0 1 rfl rfl ?_
  refine V_istore_n hX 1 2 [(2, .int 0), (0, .ref (kA K v0)), (1, .ref (kA K v1))] rfl rfl (Nat.le_of_ble_eq_true rfl) rfl ?_
  refine VV_sub [1, 2, 0] rfl ?_
  exact bt_Se_become_2 hX v0 v1 hv0 hv1 fuel0 0 M
set_option maxRecDepth 20000 in
theorem ct_Se_replace {l : Launch} (hl : l.stackTraces = false) (K : KT) (v0 : Nat) (v1 : Int32) (v2 : Int32) (M : Mm) : CTp l K y_Se_replace (Cond.code y_Se_replace prog_11_method_13_code 4 (some .int)) rvI 3 0 0 [.ref (kA K v0), .int v1, .int v2] M (fn_Se_replace v0 v1 v2 M) := by
  refine CTp_of (L := L_Se_replace) (lc := [(0, .ref (kA K v0)), (1, .int v1), (2, .int v2)]) (by decide +kernel) dec_Se_replace hl rfl (Nat.le_of_ble_eq_true rfl) (fun X hX => ?_)
  unfold fn_Se_replace
  refine VV_grd (fun hv0 => ?_)
  refine V_aload_n hX (j := 0) (hj := rfl) 0 1 rfl rfl ?_
  refine V_iload_n hX (j := 1) (hj := rfl) 1 2 rfl rfl ?_
  refine V_callI hX 5 0 0 rfl rfl rfl (Nat.le_of_ble_eq_true rfl) (Nat.le_of_ble_eq_true rfl) (VR_V hX 2 (ct_Se_at (cx_t hX) K v0 v1 M) my_Se_at mi_Se_at ms_Se_at ml_Se_31 (Nat.le_of_ble_eq_true rfl) (Nat.le_of_ble_eq_true rfl) (loc_ser hv0) (ent_ser K _ hv0) rfl rfl rfl (Nat.le_of_ble_eq_true rfl) rfl (Nat.le_of_ble_eq_true rfl) (Nat.le_of_ble_eq_true rfl)) (fun r2 M2 => ?_)
  refine V_istore_n hX 3 6 [(3, .int r2), (0, .ref (kA K v0)), (1, .int v1), (2, .int v2)] rfl rfl (Nat.le_of_ble_eq_true rfl) rfl ?_
  refine V_aload_n hX (j := 1) (hj := rfl) 4 7 rfl rfl ?_
  refine V_iload_n hX (j := 2) (hj := rfl) 5 8 rfl rfl ?_
  refine V_iload_n hX (j := 3) (hj := rfl) 6 9 rfl rfl ?_
  refine V_callU hX 12 0 0 rfl rfl rfl (Nat.le_of_ble_eq_true rfl) (Nat.le_of_ble_eq_true rfl) (VR_V hX 7 (ct_Se_put (cx_t hX) K v0 v1 v2 M2) my_Se_put mi_Se_put ms_Se_put ml_Se_27 (Nat.le_of_ble_eq_true rfl) (Nat.le_of_ble_eq_true rfl) (loc_ser hv0) (ent_ser K _ hv0) rfl rfl rfl (Nat.le_of_ble_eq_true rfl) rfl (Nat.le_of_ble_eq_true rfl) (Nat.le_of_ble_eq_true rfl)) (fun r9 M9 => ?_)
  refine V_iload_n hX (j := 0) (hj := rfl) 8 13 rfl rfl ?_
  exact V_iret hX 9 rfl (Nat.le_of_ble_eq_true rfl) (Nat.le_of_ble_eq_true rfl) rfl
set_option maxRecDepth 20000 in
theorem bt_Se_turn_57 {l : Launch} {K : KT} {X : XT} (hX : Cx l K 4 5 0 0 X prog_11_method_14_code "SeriesArchive$Series" (some .int) [] L_Se_turn) (k11 : Int32 → Int32 → Mm → Rs Int32) (v0 : Nat) (v2 : Int32) (v3 : Int32) (hk11 : ∀ (v1 : Int32) (v3 : Int32) M, VV l K 4 5 0 0 rvI X (k11 v1 v3 M) 0 0 M 11 [(0, .ref (kA K v0)), (1, .int v1), (2, .int v2), (3, .int v3)] []) (s0 : Int32) (s1 : Int32) (hv0 : isSer v0) (M : Mm) : VV l K 4 5 0 0 rvI X (fn_Se_turn_57 k11 v0 v2 v3 s0 s1 M) 0 0 M 57 [(0, .ref (kA K v0)), (2, .int v2), (3, .int v3)] [.int s1, .int s0] := by
  unfold fn_Se_turn_57
  refine V_iadd hX 38 58 rfl rfl ?_
  refine VV_li (fun x1_58 hx1_58 => ?_)
  refine V_istore_n hX 39 59 [(1, .int x1_58), (0, .ref (kA K v0)), (2, .int v2), (3, .int v3)] rfl rfl (Nat.le_of_ble_eq_true rfl) rfl ?_
  refine V_iincL hX 40 62 3 rfl rfl rfl rfl (Nat.le_of_ble_eq_true rfl) (fun x3_59 hx3_59 => ?_)
  refine VV_lc [(3, .int x3_59), (1, .int x1_58), (0, .ref (kA K v0)), (2, .int v2)] rfl ?_
  refine V_goto hX 41 11 rfl (by decide) ?_
  refine VV_sub [2, 1, 3, 0] rfl ?_
  exact hk11 x1_58 x3_59 M
set_option maxRecDepth 20000 in
theorem bt_Se_turn_11 {l : Launch} {K : KT} {X : XT} (hX : Cx l K 4 5 0 0 X prog_11_method_14_code "SeriesArchive$Series" (some .int) [] L_Se_turn) (v0 : Nat) (v2 : Int32) (hv0 : isSer v0) : ∀ (n : Nat) (v1 : Int32) (v3 : Int32) (M : Mm), VV l K 4 5 0 0 rvI X (fn_Se_turn_11 v0 v2 n v1 v3 M) 0 0 M 11 [(0, .ref (kA K v0)), (1, .int v1), (2, .int v2), (3, .int v3)] [] := by
  intro n
  induction n with
  | zero => intro v1 v3 M; exact VV_none
  | succ n ih =>
    intro v1 v3 M
    rw [fn_Se_turn_11]
    refine V_iload_n hX (j := 3) (hj := rfl) 9 12 rfl rfl ?_
    refine V_iload_n hX (j := 2) (hj := rfl) 10 13 rfl rfl ?_
    refine V_iload_n hX (j := 3) (hj := rfl) 11 14 rfl rfl ?_
    refine V_isub hX 12 15 rfl rfl ?_
    refine V_icmp_ge hX 13 18 65 rfl rfl (by decide) (fun c15 => ?_) (fun c15 => ?_)
    · refine V_iload_n hX (j := 1) (hj := rfl) 42 66 rfl rfl ?_
      exact V_iret hX 43 rfl (Nat.le_of_ble_eq_true rfl) (Nat.le_of_ble_eq_true rfl) rfl
    · refine V_aload_n hX (j := 0) (hj := rfl) 14 19 rfl rfl ?_
      refine V_iload_n hX (j := 3) (hj := rfl) 15 20 rfl rfl ?_
      refine V_aload_n hX (j := 0) (hj := rfl) 16 21 rfl rfl ?_
      refine V_iload_n hX (j := 2) (hj := rfl) 17 22 rfl rfl ?_
      refine V_iload_n hX (j := 3) (hj := rfl) 18 23 rfl rfl ?_
      refine V_isub hX 19 24 rfl rfl ?_
      refine V_callI hX 27 0 0 rfl rfl rfl (Nat.le_of_ble_eq_true rfl) (Nat.le_of_ble_eq_true rfl) (VR_V hX 20 (ct_Se_at (cx_t hX) K v0 (v2 - v3) M) my_Se_at mi_Se_at ms_Se_at ml_Se_31 (Nat.le_of_ble_eq_true rfl) (Nat.le_of_ble_eq_true rfl) (loc_ser hv0) (ent_ser K _ hv0) rfl rfl rfl (Nat.le_of_ble_eq_true rfl) rfl (Nat.le_of_ble_eq_true rfl) (Nat.le_of_ble_eq_true rfl)) (fun r24 M24 => ?_)
      refine V_callI hX 30 0 0 rfl rfl rfl (Nat.le_of_ble_eq_true rfl) (Nat.le_of_ble_eq_true rfl) (VR_V hX 21 (ct_Se_replace (cx_t hX) K v0 v3 r24 M24) my_Se_replace mi_Se_replace ms_Se_replace ml_Se_39 (Nat.le_of_ble_eq_true rfl) (Nat.le_of_ble_eq_true rfl) (loc_ser hv0) (ent_ser K _ hv0) rfl rfl rfl (Nat.le_of_ble_eq_true rfl) rfl (Nat.le_of_ble_eq_true rfl) (Nat.le_of_ble_eq_true rfl)) (fun r27 M27 => ?_)
      refine V_istore hX 22 32 [(4, .int r27), (0, .ref (kA K v0)), (1, .int v1), (2, .int v2), (3, .int v3)] rfl rfl (Nat.le_of_ble_eq_true rfl) rfl ?_
      refine V_aload_n hX (j := 1) (hj := rfl) 23 33 rfl rfl ?_
      refine V_iload_n hX (j := 3) (hj := rfl) 24 34 rfl rfl ?_
      refine V_iload_n hX (j := 4) (hj := rfl) 25 35 rfl rfl ?_
      refine V_isub hX 26 36 rfl rfl ?_
      refine V_iload hX (j := 0) (hj := rfl) 27 38 rfl rfl ?_
      refine V_callU hX 41 0 0 rfl rfl rfl (Nat.le_of_ble_eq_true rfl) (Nat.le_of_ble_eq_true rfl) (VR_V hX 28 (ct_Se_put (cx_t hX) K v0 (v2 - v3) r27 M27) my_Se_put mi_Se_put ms_Se_put ml_Se_27 (Nat.le_of_ble_eq_true rfl) (Nat.le_of_ble_eq_true rfl) (loc_ser hv0) (ent_ser K _ hv0) rfl rfl rfl (Nat.le_of_ble_eq_true rfl) rfl (Nat.le_of_ble_eq_true rfl) (Nat.le_of_ble_eq_true rfl)) (fun r38 M38 => ?_)
      refine V_iload_n hX (j := 2) (hj := rfl) 29 42 rfl rfl ?_
      refine V_aload_n hX (j := 1) (hj := rfl) 30 43 rfl rfl ?_
      refine V_iload_n hX (j := 4) (hj := rfl) 31 44 rfl rfl ?_
      refine V_callI hX 47 0 0 rfl rfl rfl (Nat.le_of_ble_eq_true rfl) (Nat.le_of_ble_eq_true rfl) (VR_V hX 32 (ct_Se_at (cx_t hX) K v0 v3 M38) my_Se_at mi_Se_at ms_Se_at ml_Se_31 (Nat.le_of_ble_eq_true rfl) (Nat.le_of_ble_eq_true rfl) (loc_ser hv0) (ent_ser K _ hv0) rfl rfl rfl (Nat.le_of_ble_eq_true rfl) rfl (Nat.le_of_ble_eq_true rfl) (Nat.le_of_ble_eq_true rfl)) (fun r44 M44 => ?_)
      refine V_iload hX (j := 0) (hj := rfl) 33 49 rfl rfl ?_
      refine V_icmp_ne hX 34 52 56 rfl rfl (by decide) (fun c49 => ?_) (fun c49 => ?_)
      · refine V_iconst hX (v := 2) (hv := by decide) 37 57 rfl rfl ?_
        refine VV_sub [1, 3, 4] rfl ?_
        exact bt_Se_turn_57 hX (fn_Se_turn_11 v0 v2 n) v0 v2 v3 ih v1 2 hv0 M44
      · refine V_iconst hX (v := 0) (hv := by decide) 35 53 rfl rfl ?_
        refine V_goto hX 36 57 rfl (by decide) ?_
        refine VV_sub [1, 3, 4] rfl ?_
        exact bt_Se_turn_57 hX (fn_Se_turn_11 v0 v2 n) v0 v2 v3 ih v1 0 hv0 M44
set_option maxRecDepth 20000 in
theorem ct_Se_turn {l : Launch} (hl : l.stackTraces = false) (K : KT) (v0 : Nat) (M : Mm) : CTp l K y_Se_turn (Cond.code y_Se_turn prog_11_method_14_code 5 (some .int)) rvI 4 0 0 [.ref (kA K v0)] M (fn_Se_turn v0 M) := by
  refine CTp_of (L := L_Se_turn) (lc := [(0, .ref (kA K v0))]) (by decide +kernel) dec_Se_turn hl rfl (Nat.le_of_ble_eq_true rfl) (fun X hX => ?_)
  unfold fn_Se_turn
  refine VV_grd (fun hv0 => ?_)
  refine V_iconst hX (v := 0) (hv := by decide) 0 1 rfl rfl ?_
  refine V_istore_n hX 1 2 [(1, .int 0), (0, .ref (kA K v0))] rfl rfl (Nat.le_of_ble_eq_true rfl) rfl ?_
  refine V_aload_n hX (j := 1) (hj := rfl) 2 3 rfl rfl ?_
  refine V_get hX 3 6 v0 (.int (M v0 1)) fl_Se_15 rfl rfl (loc_ser hv0) (ent_ser K _ hv0) rfl ?_
  refine V_iconst hX (v := 1) (hv := by decide) 4 7 rfl rfl ?_
  refine V_isub hX 5 8 rfl rfl ?_
  refine VV_li (fun x2_8 hx2_8 => ?_)
  refine V_istore_n hX 6 9 [(2, .int x2_8), (1, .int 0), (0, .ref (kA K v0))] rfl rfl (Nat.le_of_ble_eq_true rfl) rfl ?_
  refine V_iconst hX (v := 0) (hv := by decide) 7 10 rfl rfl ?_
  refine V_istore_n hX 8 11 [(3, .int 0), (2, .int x2_8), (1, .int 0), (0, .ref (kA K v0))] rfl rfl (Nat.le_of_ble_eq_true rfl) rfl ?_
  refine VV_sub [3, 2, 1, 0] rfl ?_
  exact bt_Se_turn_11 hX v0 x2_8 hv0 fuel0 0 0 M
set_option maxRecDepth 20000 in
theorem ct_SA_isValue {l : Launch} (hl : l.stackTraces = false) (K : KT) (v0 : Int32) (M : Mm) : CTp l K y_SA_isValue (Cond.code y_SA_isValue prog_1_method_76_code 1 (some .boolean)) rvI 1 0 0 [.int v0] M (fn_SA_isValue v0 M) := by
  refine CTp_of (L := L_SA_isValue) (lc := [(0, .int v0)]) (by decide +kernel) dec_SA_isValue hl rfl (Nat.le_of_ble_eq_true rfl) (fun X hX => ?_)
  unfold fn_SA_isValue
  refine V_iload_n hX (j := 0) (hj := rfl) 0 1 rfl rfl ?_
  refine V_bipush hX (v := (-99)) (hv := by decide) 1 3 rfl rfl ?_
  refine V_icmp_lt hX 2 6 16 rfl rfl (by decide) (fun c3 => ?_) (fun c3 => ?_)
  · refine V_iconst hX (v := 0) (hv := by decide) 8 17 rfl rfl ?_
    exact V_zret hX 9 rfl rfl (Nat.le_of_ble_eq_true rfl) (Nat.le_of_ble_eq_true rfl) rfl
  · refine V_iload_n hX (j := 0) (hj := rfl) 3 7 rfl rfl ?_
    refine V_bipush hX (v := 99) (hv := by decide) 4 9 rfl rfl ?_
    refine V_icmp_gt hX 5 12 16 rfl rfl (by decide) (fun c9 => ?_) (fun c9 => ?_)
    · refine V_iconst hX (v := 0) (hv := by decide) 8 17 rfl rfl ?_
      exact V_zret hX 9 rfl rfl (Nat.le_of_ble_eq_true rfl) (Nat.le_of_ble_eq_true rfl) rfl
    · refine V_iconst hX (v := 1) (hv := by decide) 6 13 rfl rfl ?_
      refine V_goto hX 7 17 rfl (by decide) ?_
      exact V_zret hX 9 rfl rfl (Nat.le_of_ble_eq_true rfl) (Nat.le_of_ble_eq_true rfl) rfl
set_option maxRecDepth 20000 in
theorem bt_Se_canRise_2 {l : Launch} {K : KT} {X : XT} (hX : Cx l K 2 3 0 0 X prog_11_method_15_code "SeriesArchive$Series" (some .boolean) [] L_Se_canRise) (v0 : Nat) (v1 : Int32) (hv0 : isSer v0) : ∀ (n : Nat) (v2 : Int32) (M : Mm), VV l K 2 3 0 0 rvI X (fn_Se_canRise_2 v0 v1 n v2 M) 0 0 M 2 [(0, .ref (kA K v0)), (1, .int v1), (2, .int v2)] [] := by
  intro n
  induction n with
  | zero => intro v2 M; exact VV_none
  | succ n ih =>
    intro v2 M
    rw [fn_Se_canRise_2]
    refine V_iload_n hX (j := 2) (hj := rfl) 2 3 rfl rfl ?_
    refine V_aload_n hX (j := 0) (hj := rfl) 3 4 rfl rfl ?_
    refine V_get hX 4 7 v0 (.int (M v0 1)) fl_Se_15 rfl rfl (loc_ser hv0) (ent_ser K _ hv0) rfl ?_
    refine V_icmp_ge hX 5 10 31 rfl rfl (by decide) (fun c7 => ?_) (fun c7 => ?_)
    · refine V_iconst hX (v := 1) (hv := by decide) 17 32 rfl rfl ?_
      exact V_zret hX 18 rfl rfl (Nat.le_of_ble_eq_true rfl) (Nat.le_of_ble_eq_true rfl) rfl
    · refine V_aload_n hX (j := 0) (hj := rfl) 6 11 rfl rfl ?_
      refine V_iload_n hX (j := 2) (hj := rfl) 7 12 rfl rfl ?_
      refine V_callI hX 15 0 0 rfl rfl rfl (Nat.le_of_ble_eq_true rfl) (Nat.le_of_ble_eq_true rfl) (VR_V hX 8 (ct_Se_at (cx_t hX) K v0 v2 M) my_Se_at mi_Se_at ms_Se_at ml_Se_31 (Nat.le_of_ble_eq_true rfl) (Nat.le_of_ble_eq_true rfl) (loc_ser hv0) (ent_ser K _ hv0) rfl rfl rfl (Nat.le_of_ble_eq_true rfl) rfl (Nat.le_of_ble_eq_true rfl) (Nat.le_of_ble_eq_true rfl)) (fun r12 M12 => ?_)
      refine V_iload_n hX (j := 1) (hj := rfl) 9 16 rfl rfl ?_
      refine V_iadd hX 10 17 rfl rfl ?_
      refine V_callI hX 20 0 0 rfl rfl rfl (Nat.le_of_ble_eq_true rfl) (Nat.le_of_ble_eq_true rfl) (VR_SN hX 11 (ct_SA_isValue (cx_t hX) K (r12 + v1) M12) my_SA_isValue mt_SA_isValue mn_Se_43 (Nat.le_of_ble_eq_true rfl) (Nat.le_of_ble_eq_true rfl) rfl rfl (Nat.le_of_ble_eq_true rfl) rfl (Nat.le_of_ble_eq_true rfl) (Nat.le_of_ble_eq_true rfl)) (fun r17 M17 => ?_)
      refine V_if_ne hX 12 23 25 rfl rfl (by decide) (fun c20 => ?_) (fun c20 => ?_)
      · refine V_iincL hX 15 28 2 rfl rfl rfl rfl (Nat.le_of_ble_eq_true rfl) (fun x2_25 hx2_25 => ?_)
        refine VV_lc [(2, .int x2_25), (0, .ref (kA K v0)), (1, .int v1)] rfl ?_
        refine V_goto hX 16 2 rfl (by decide) ?_
        refine VV_sub [1, 2, 0] rfl ?_
        exact ih x2_25 M17
      · refine V_iconst hX (v := 0) (hv := by decide) 13 24 rfl rfl ?_
        exact V_zret hX 14 rfl rfl (Nat.le_of_ble_eq_true rfl) (Nat.le_of_ble_eq_true rfl) rfl
set_option maxRecDepth 20000 in
theorem ct_Se_canRise {l : Launch} (hl : l.stackTraces = false) (K : KT) (v0 : Nat) (v1 : Int32) (M : Mm) : CTp l K y_Se_canRise (Cond.code y_Se_canRise prog_11_method_15_code 3 (some .boolean)) rvI 2 0 0 [.ref (kA K v0), .int v1] M (fn_Se_canRise v0 v1 M) := by
  refine CTp_of (L := L_Se_canRise) (lc := [(0, .ref (kA K v0)), (1, .int v1)]) (by decide +kernel) dec_Se_canRise hl rfl (Nat.le_of_ble_eq_true rfl) (fun X hX => ?_)
  unfold fn_Se_canRise
  refine VV_grd (fun hv0 => ?_)
  refine V_iconst hX (v := 0) (hv := by decide) 0 1 rfl rfl ?_
  refine V_istore_n hX 1 2 [(2, .int 0), (0, .ref (kA K v0)), (1, .int v1)] rfl rfl (Nat.le_of_ble_eq_true rfl) rfl ?_
  refine VV_sub [1, 2, 0] rfl ?_
  exact bt_Se_canRise_2 hX v0 v1 hv0 fuel0 0 M
set_option maxRecDepth 20000 in
theorem bt_Se_rise_28 {l : Launch} {K : KT} {X : XT} (hX : Cx l K 3 3 0 0 X prog_11_method_16_code "SeriesArchive$Series" (some .int) [] L_Se_rise) (v0 : Nat) (hv0 : isSer v0) (M : Mm) : VV l K 3 3 0 0 rvI X (fn_Se_rise_28 v0 M) 0 0 M 28 [(0, .ref (kA K v0))] [] := by
  unfold fn_Se_rise_28
  refine V_aload_n hX (j := 0) (hj := rfl) 16 29 rfl rfl ?_
  refine V_iconst hX (v := 0) (hv := by decide) 17 30 rfl rfl ?_
  refine V_aload_n hX (j := 0) (hj := rfl) 18 31 rfl rfl ?_
  refine V_get hX 19 34 v0 (.int (M v0 1)) fl_Se_15 rfl rfl (loc_ser hv0) (ent_ser K _ hv0) rfl ?_
  refine V_iconst hX (v := 1) (hv := by decide) 20 35 rfl rfl ?_
  refine V_isub hX 21 36 rfl rfl ?_
  refine V_callI hX 39 0 0 rfl rfl rfl (Nat.le_of_ble_eq_true rfl) (Nat.le_of_ble_eq_true rfl) (VR_V hX 22 (ct_Se_total (cx_t hX) K v0 0 ((M v0 1) - 1) M) my_Se_total mi_Se_total ms_Se_total ml_Se_47 (Nat.le_of_ble_eq_true rfl) (Nat.le_of_ble_eq_true rfl) (loc_ser hv0) (ent_ser K _ hv0) rfl rfl rfl (Nat.le_of_ble_eq_true rfl) rfl (Nat.le_of_ble_eq_true rfl) (Nat.le_of_ble_eq_true rfl)) (fun r36 M36 => ?_)
  exact V_iret hX 23 rfl (Nat.le_of_ble_eq_true rfl) (Nat.le_of_ble_eq_true rfl) rfl
set_option maxRecDepth 20000 in
theorem bt_Se_rise_2 {l : Launch} {K : KT} {X : XT} (hX : Cx l K 3 3 0 0 X prog_11_method_16_code "SeriesArchive$Series" (some .int) [] L_Se_rise) (v0 : Nat) (v1 : Int32) (hv0 : isSer v0) : ∀ (n : Nat) (v2 : Int32) (M : Mm), VV l K 3 3 0 0 rvI X (fn_Se_rise_2 v0 v1 n v2 M) 0 0 M 2 [(0, .ref (kA K v0)), (1, .int v1), (2, .int v2)] [] := by
  intro n
  induction n with
  | zero => intro v2 M; exact VV_none
  | succ n ih =>
    intro v2 M
    rw [fn_Se_rise_2]
    refine V_iload_n hX (j := 2) (hj := rfl) 2 3 rfl rfl ?_
    refine V_aload_n hX (j := 0) (hj := rfl) 3 4 rfl rfl ?_
    refine V_get hX 4 7 v0 (.int (M v0 1)) fl_Se_15 rfl rfl (loc_ser hv0) (ent_ser K _ hv0) rfl ?_
    refine V_icmp_ge hX 5 10 28 rfl rfl (by decide) (fun c7 => ?_) (fun c7 => ?_)
    · refine VV_sub [0] rfl ?_
      exact bt_Se_rise_28 hX v0 hv0 M
    · refine V_aload_n hX (j := 0) (hj := rfl) 6 11 rfl rfl ?_
      refine V_iload_n hX (j := 2) (hj := rfl) 7 12 rfl rfl ?_
      refine V_aload_n hX (j := 0) (hj := rfl) 8 13 rfl rfl ?_
      refine V_iload_n hX (j := 2) (hj := rfl) 9 14 rfl rfl ?_
      refine V_callI hX 17 0 0 rfl rfl rfl (Nat.le_of_ble_eq_true rfl) (Nat.le_of_ble_eq_true rfl) (VR_V hX 10 (ct_Se_at (cx_t hX) K v0 v2 M) my_Se_at mi_Se_at ms_Se_at ml_Se_31 (Nat.le_of_ble_eq_true rfl) (Nat.le_of_ble_eq_true rfl) (loc_ser hv0) (ent_ser K _ hv0) rfl rfl rfl (Nat.le_of_ble_eq_true rfl) rfl (Nat.le_of_ble_eq_true rfl) (Nat.le_of_ble_eq_true rfl)) (fun r14 M14 => ?_)
      refine V_iload_n hX (j := 1) (hj := rfl) 11 18 rfl rfl ?_
      refine V_iadd hX 12 19 rfl rfl ?_
      refine V_callU hX 22 0 0 rfl rfl rfl (Nat.le_of_ble_eq_true rfl) (Nat.le_of_ble_eq_true rfl) (VR_V hX 13 (ct_Se_put (cx_t hX) K v0 v2 (r14 + v1) M14) my_Se_put mi_Se_put ms_Se_put ml_Se_27 (Nat.le_of_ble_eq_true rfl) (Nat.le_of_ble_eq_true rfl) (loc_ser hv0) (ent_ser K _ hv0) rfl rfl rfl (Nat.le_of_ble_eq_true rfl) rfl (Nat.le_of_ble_eq_true rfl) (Nat.le_of_ble_eq_true rfl)) (fun r19 M19 => ?_)
      refine V_iincL hX 14 25 2 rfl rfl rfl rfl (Nat.le_of_ble_eq_true rfl) (fun x2_22 hx2_22 => ?_)
      refine VV_lc [(2, .int x2_22), (0, .ref (kA K v0)), (1, .int v1)] rfl ?_
      refine V_goto hX 15 2 rfl (by decide) ?_
      refine VV_sub [1, 2, 0] rfl ?_
      exact ih x2_22 M19
set_option maxRecDepth 20000 in
theorem ct_Se_rise {l : Launch} (hl : l.stackTraces = false) (K : KT) (v0 : Nat) (v1 : Int32) (M : Mm) : CTp l K y_Se_rise (Cond.code y_Se_rise prog_11_method_16_code 3 (some .int)) rvI 3 0 0 [.ref (kA K v0), .int v1] M (fn_Se_rise v0 v1 M) := by
  refine CTp_of (L := L_Se_rise) (lc := [(0, .ref (kA K v0)), (1, .int v1)]) (by decide +kernel) dec_Se_rise hl rfl (Nat.le_of_ble_eq_true rfl) (fun X hX => ?_)
  unfold fn_Se_rise
  refine VV_grd (fun hv0 => ?_)
  refine V_iconst hX (v := 0) (hv := by decide) 0 1 rfl rfl ?_
  refine V_istore_n hX 1 2 [(2, .int 0), (0, .ref (kA K v0)), (1, .int v1)] rfl rfl (Nat.le_of_ble_eq_true rfl) rfl ?_
  refine VV_sub [1, 2, 0] rfl ?_
  exact bt_Se_rise_2 hX v0 v1 hv0 fuel0 0 M
set_option maxRecDepth 20000 in
theorem ct_Ma_floorDiv {l : Launch} (hl : l.stackTraces = false) (K : KT) (v0 : Int32) (v1 : Int32) (M : Mm) : CTp l K y_Ma_floorDiv (Cond.code y_Ma_floorDiv prog_30_method_47_code 3 (some .int)) rvI 1 0 0 [.int v0, .int v1] M (fn_Ma_floorDiv v0 v1 M) := by
  refine CTp_ofF (L := L_Ma_floorDiv) (lc := [(0, .int v0), (1, .int v1)]) (by decide +kernel) dec_Ma_floorDiv hl rfl (Nat.le_of_ble_eq_true rfl) (fun X hX => ?_)
  unfold fn_Ma_floorDiv
  refine V_iload_n hX (j := 0) (hj := rfl) 0 1 rfl rfl ?_
  refine V_iload_n hX (j := 1) (hj := rfl) 1 2 rfl rfl ?_
  refine VV_grd (fun hz1 => ?_)
  refine V_idiv hX (hne := hz1) 2 3 rfl rfl ?_
  refine VV_li (fun x2_3 hx2_3 => ?_)
  refine V_istore_n hX 3 4 [(2, .int x2_3), (0, .int v0), (1, .int v1)] rfl rfl (Nat.le_of_ble_eq_true rfl) rfl ?_
  refine V_iload_n hX (j := 1) (hj := rfl) 4 5 rfl rfl ?_
  refine V_iload_n hX (j := 2) (hj := rfl) 5 6 rfl rfl ?_
  refine V_ixor hX 6 7 rfl rfl ?_
  refine V_if_ge hX 7 10 21 rfl rfl (by decide) (fun c7 => ?_) (fun c7 => ?_)
  · refine V_iload_n hX (j := 0) (hj := rfl) 17 22 rfl rfl ?_
    exact V_iret hX 18 rfl (Nat.le_of_ble_eq_true rfl) (Nat.le_of_ble_eq_true rfl) rfl
  · refine V_iload_n hX (j := 0) (hj := rfl) 8 11 rfl rfl ?_
    refine V_iload_n hX (j := 2) (hj := rfl) 9 12 rfl rfl ?_
    refine V_imul hX 10 13 rfl rfl ?_
    refine V_iload_n hX (j := 1) (hj := rfl) 11 14 rfl rfl ?_
    refine V_icmp_eq hX 12 17 21 rfl rfl (by decide) (fun c14 => ?_) (fun c14 => ?_)
    · refine V_iload_n hX (j := 0) (hj := rfl) 17 22 rfl rfl ?_
      exact V_iret hX 18 rfl (Nat.le_of_ble_eq_true rfl) (Nat.le_of_ble_eq_true rfl) rfl
    · refine V_iload_n hX (j := 0) (hj := rfl) 13 18 rfl rfl ?_
      refine V_iconst hX (v := 1) (hv := by decide) 14 19 rfl rfl ?_
      refine V_isub hX 15 20 rfl rfl ?_
      exact V_iret hX 16 rfl (Nat.le_of_ble_eq_true rfl) (Nat.le_of_ble_eq_true rfl) rfl
set_option maxRecDepth 20000 in
theorem ct_Se_meanAround {l : Launch} (hl : l.stackTraces = false) (K : KT) (v0 : Nat) (v1 : Int32) (v2 : Int32) (M : Mm) : CTp l K y_Se_meanAround (Cond.code y_Se_meanAround prog_11_method_18_code 6 (some .int)) rvI 3 0 0 [.ref (kA K v0), .int v1, .int v2] M (fn_Se_meanAround v0 v1 v2 M) := by
  refine CTp_of (L := L_Se_meanAround) (lc := [(0, .ref (kA K v0)), (1, .int v1), (2, .int v2)]) (by decide +kernel) dec_Se_meanAround hl rfl (Nat.le_of_ble_eq_true rfl) (fun X hX => ?_)
  unfold fn_Se_meanAround
  refine VV_grd (fun hv0 => ?_)
  refine V_iload_n hX (j := 1) (hj := rfl) 0 1 rfl rfl ?_
  refine V_iload_n hX (j := 2) (hj := rfl) 1 2 rfl rfl ?_
  refine V_isub hX 2 3 rfl rfl ?_
  refine V_iconst hX (v := 0) (hv := by decide) 3 4 rfl rfl ?_
  refine V_max hX 4 7 mm_Se_57 (Nat.le_of_ble_eq_true rfl) (Nat.le_of_ble_eq_true rfl) (Nat.le_of_ble_eq_true rfl) (Nat.le_of_ble_eq_true rfl) rfl rfl ?_
  refine VV_li (fun x3_7 hx3_7 => ?_)
  refine V_istore_n hX 5 8 [(3, .int x3_7), (0, .ref (kA K v0)), (1, .int v1), (2, .int v2)] rfl rfl (Nat.le_of_ble_eq_true rfl) rfl ?_
  refine V_iload_n hX (j := 2) (hj := rfl) 6 9 rfl rfl ?_
  refine V_iload_n hX (j := 3) (hj := rfl) 7 10 rfl rfl ?_
  refine V_iadd hX 8 11 rfl rfl ?_
  refine V_aload_n hX (j := 1) (hj := rfl) 9 12 rfl rfl ?_
  refine V_get hX 10 15 v0 (.int (M v0 1)) fl_Se_15 rfl rfl (loc_ser hv0) (ent_ser K _ hv0) rfl ?_
  refine V_iconst hX (v := 1) (hv := by decide) 11 16 rfl rfl ?_
  refine V_isub hX 12 17 rfl rfl ?_
  refine V_min hX 13 20 mm_Se_62 (Nat.le_of_ble_eq_true rfl) (Nat.le_of_ble_eq_true rfl) (Nat.le_of_ble_eq_true rfl) (Nat.le_of_ble_eq_true rfl) rfl rfl ?_
  refine VV_li (fun x4_20 hx4_20 => ?_)
  refine V_istore hX 14 22 [(4, .int x4_20), (3, .int x3_7), (0, .ref (kA K v0)), (1, .int v1), (2, .int v2)] rfl rfl (Nat.le_of_ble_eq_true rfl) rfl ?_
  refine V_iload hX (j := 0) (hj := rfl) 15 24 rfl rfl ?_
  refine V_iload_n hX (j := 1) (hj := rfl) 16 25 rfl rfl ?_
  refine V_isub hX 17 26 rfl rfl ?_
  refine V_iconst hX (v := 1) (hv := by decide) 18 27 rfl rfl ?_
  refine V_iadd hX 19 28 rfl rfl ?_
  refine VV_li (fun x5_28 hx5_28 => ?_)
  refine V_istore hX 20 30 [(5, .int x5_28), (4, .int x4_20), (3, .int x3_7), (0, .ref (kA K v0)), (1, .int v1), (2, .int v2)] rfl rfl (Nat.le_of_ble_eq_true rfl) rfl ?_
  refine V_iload hX (j := 0) (hj := rfl) 21 32 rfl rfl ?_
  refine V_iconst hX (v := 1) (hv := by decide) 22 33 rfl rfl ?_
  refine V_icmp_ge hX 23 36 40 rfl rfl (by decide) (fun c33 => ?_) (fun c33 => ?_)
  · refine V_aload_n hX (j := 3) (hj := rfl) 26 41 rfl rfl ?_
    refine V_iload_n hX (j := 2) (hj := rfl) 27 42 rfl rfl ?_
    refine V_iload hX (j := 1) (hj := rfl) 28 44 rfl rfl ?_
    refine V_callI hX 47 0 0 rfl rfl rfl (Nat.le_of_ble_eq_true rfl) (Nat.le_of_ble_eq_true rfl) (VR_V hX 29 (ct_Se_total (cx_t hX) K v0 x3_7 x4_20 M) my_Se_total mi_Se_total ms_Se_total ml_Se_47 (Nat.le_of_ble_eq_true rfl) (Nat.le_of_ble_eq_true rfl) (loc_ser hv0) (ent_ser K _ hv0) rfl rfl rfl (Nat.le_of_ble_eq_true rfl) rfl (Nat.le_of_ble_eq_true rfl) (Nat.le_of_ble_eq_true rfl)) (fun r44 M44 => ?_)
    refine V_iload hX (j := 0) (hj := rfl) 30 49 rfl rfl ?_
    refine V_callI hX 52 0 0 rfl rfl rfl (Nat.le_of_ble_eq_true rfl) (Nat.le_of_ble_eq_true rfl) (VR_S hX 31 (ct_Ma_floorDiv (cx_t hX) K r44 x5_28 M44) my_Ma_floorDiv mt_Ma_floorDiv ml_Se_65 (Nat.le_of_ble_eq_true rfl) (Nat.le_of_ble_eq_true rfl) rfl rfl (Nat.le_of_ble_eq_true rfl) rfl (Nat.le_of_ble_eq_true rfl) (Nat.le_of_ble_eq_true rfl)) (fun r49 M49 => ?_)
    exact V_iret hX 32 rfl (Nat.le_of_ble_eq_true rfl) (Nat.le_of_ble_eq_true rfl) rfl
  · refine V_iconst hX (v := 0) (hv := by decide) 24 37 rfl rfl ?_
    refine V_goto hX 25 52 rfl (by decide) ?_
    exact V_iret hX 32 rfl (Nat.le_of_ble_eq_true rfl) (Nat.le_of_ble_eq_true rfl) rfl
set_option maxRecDepth 20000 in
theorem bt_Se_flatten_53 {l : Launch} {K : KT} {X : XT} (hX : Cx l K 4 5 0 0 X prog_11_method_17_code "SeriesArchive$Series" (some .int) [] L_Se_flatten) (k10 : Int32 → Int32 → Mm → Rs Int32) (v0 : Nat) (v1 : Int32) (v2 : Nat) (v4 : Int32) (hk10 : ∀ (v3 : Int32) (v4 : Int32) M, VV l K 4 5 0 0 rvI X (k10 v3 v4 M) 0 0 M 10 [(0, .ref (kA K v0)), (1, .int v1), (2, .ref (kA K v2)), (3, .int v3), (4, .int v4)] []) (s0 : Int32) (s1 : Int32) (hv0 : isSer v0) (hv2 : isSer v2) (M : Mm) : VV l K 4 5 0 0 rvI X (fn_Se_flatten_53 k10 v0 v1 v2 v4 s0 s1 M) 0 0 M 53 [(0, .ref (kA K v0)), (1, .int v1), (2, .ref (kA K v2)), (4, .int v4)] [.int s1, .int s0] := by
  unfold fn_Se_flatten_53
  refine V_iadd hX 29 54 rfl rfl ?_
  refine VV_li (fun x3_54 hx3_54 => ?_)
  refine V_istore_n hX 30 55 [(3, .int x3_54), (0, .ref (kA K v0)), (1, .int v1), (2, .ref (kA K v2)), (4, .int v4)] rfl rfl (Nat.le_of_ble_eq_true rfl) rfl ?_
  refine V_iincL hX 31 58 4 rfl rfl rfl rfl (Nat.le_of_ble_eq_true rfl) (fun x4_55 hx4_55 => ?_)
  refine VV_lc [(4, .int x4_55), (3, .int x3_54), (0, .ref (kA K v0)), (1, .int v1), (2, .ref (kA K v2))] rfl ?_
  refine V_goto hX 32 10 rfl (by decide) ?_
  refine VV_sub [2, 3, 4, 1, 0] rfl ?_
  exact hk10 x3_54 x4_55 M
set_option maxRecDepth 20000 in
theorem bt_Se_flatten_10 {l : Launch} {K : KT} {X : XT} (hX : Cx l K 4 5 0 0 X prog_11_method_17_code "SeriesArchive$Series" (some .int) [] L_Se_flatten) (v0 : Nat) (v1 : Int32) (v2 : Nat) (hv0 : isSer v0) (hv2 : isSer v2) : ∀ (n : Nat) (v3 : Int32) (v4 : Int32) (M : Mm), VV l K 4 5 0 0 rvI X (fn_Se_flatten_10 v0 v1 v2 n v3 v4 M) 0 0 M 10 [(0, .ref (kA K v0)), (1, .int v1), (2, .ref (kA K v2)), (3, .int v3), (4, .int v4)] [] := by
  intro n
  induction n with
  | zero => intro v3 v4 M; exact VV_none
  | succ n ih =>
    intro v3 v4 M
    rw [fn_Se_flatten_10]
    refine V_iload hX (j := 4) (hj := rfl) 7 12 rfl rfl ?_
    refine V_aload_n hX (j := 0) (hj := rfl) 8 13 rfl rfl ?_
    refine V_get hX 9 16 v0 (.int (M v0 1)) fl_Se_15 rfl rfl (loc_ser hv0) (ent_ser K _ hv0) rfl ?_
    refine V_icmp_ge hX 10 19 61 rfl rfl (by decide) (fun c16 => ?_) (fun c16 => ?_)
    · refine V_iload_n hX (j := 3) (hj := rfl) 33 62 rfl rfl ?_
      exact V_iret hX 34 rfl (Nat.le_of_ble_eq_true rfl) (Nat.le_of_ble_eq_true rfl) rfl
    · refine V_aload_n hX (j := 0) (hj := rfl) 11 20 rfl rfl ?_
      refine V_iload hX (j := 4) (hj := rfl) 12 22 rfl rfl ?_
      refine V_aload_n hX (j := 2) (hj := rfl) 13 23 rfl rfl ?_
      refine V_iload hX (j := 4) (hj := rfl) 14 25 rfl rfl ?_
      refine V_iload_n hX (j := 1) (hj := rfl) 15 26 rfl rfl ?_
      refine V_callI hX 29 0 0 rfl rfl rfl (Nat.le_of_ble_eq_true rfl) (Nat.le_of_ble_eq_true rfl) (VR_V hX 16 (ct_Se_meanAround (cx_t hX) K v2 v4 v1 M) my_Se_meanAround mi_Se_meanAround ms_Se_meanAround ml_Se_54 (Nat.le_of_ble_eq_true rfl) (Nat.le_of_ble_eq_true rfl) (loc_ser hv2) (ent_ser K _ hv2) rfl rfl rfl (Nat.le_of_ble_eq_true rfl) rfl (Nat.le_of_ble_eq_true rfl) (Nat.le_of_ble_eq_true rfl)) (fun r26 M26 => ?_)
      refine V_callU hX 32 0 0 rfl rfl rfl (Nat.le_of_ble_eq_true rfl) (Nat.le_of_ble_eq_true rfl) (VR_V hX 17 (ct_Se_put (cx_t hX) K v0 v4 r26 M26) my_Se_put mi_Se_put ms_Se_put ml_Se_27 (Nat.le_of_ble_eq_true rfl) (Nat.le_of_ble_eq_true rfl) (loc_ser hv0) (ent_ser K _ hv0) rfl rfl rfl (Nat.le_of_ble_eq_true rfl) rfl (Nat.le_of_ble_eq_true rfl) (Nat.le_of_ble_eq_true rfl)) (fun r29 M29 => ?_)
      refine V_iload_n hX (j := 3) (hj := rfl) 18 33 rfl rfl ?_
      refine V_aload_n hX (j := 0) (hj := rfl) 19 34 rfl rfl ?_
      refine V_iload hX (j := 4) (hj := rfl) 20 36 rfl rfl ?_
      refine V_callI hX 39 0 0 rfl rfl rfl (Nat.le_of_ble_eq_true rfl) (Nat.le_of_ble_eq_true rfl) (VR_V hX 21 (ct_Se_at (cx_t hX) K v0 v4 M29) my_Se_at mi_Se_at ms_Se_at ml_Se_31 (Nat.le_of_ble_eq_true rfl) (Nat.le_of_ble_eq_true rfl) (loc_ser hv0) (ent_ser K _ hv0) rfl rfl rfl (Nat.le_of_ble_eq_true rfl) rfl (Nat.le_of_ble_eq_true rfl) (Nat.le_of_ble_eq_true rfl)) (fun r36 M36 => ?_)
      refine V_aload_n hX (j := 2) (hj := rfl) 22 40 rfl rfl ?_
      refine V_iload hX (j := 4) (hj := rfl) 23 42 rfl rfl ?_
      refine V_callI hX 45 0 0 rfl rfl rfl (Nat.le_of_ble_eq_true rfl) (Nat.le_of_ble_eq_true rfl) (VR_V hX 24 (ct_Se_at (cx_t hX) K v2 v4 M36) my_Se_at mi_Se_at ms_Se_at ml_Se_31 (Nat.le_of_ble_eq_true rfl) (Nat.le_of_ble_eq_true rfl) (loc_ser hv2) (ent_ser K _ hv2) rfl rfl rfl (Nat.le_of_ble_eq_true rfl) rfl (Nat.le_of_ble_eq_true rfl) (Nat.le_of_ble_eq_true rfl)) (fun r42 M42 => ?_)
      refine V_icmp_ne hX 25 48 52 rfl rfl (by decide) (fun c45 => ?_) (fun c45 => ?_)
      · refine V_iconst hX (v := 1) (hv := by decide) 28 53 rfl rfl ?_
        refine VV_sub [0, 1, 2, 4] rfl ?_
        exact bt_Se_flatten_53 hX (fn_Se_flatten_10 v0 v1 v2 n) v0 v1 v2 v4 ih v3 1 hv0 hv2 M42
      · refine V_iconst hX (v := 0) (hv := by decide) 26 49 rfl rfl ?_
        refine V_goto hX 27 53 rfl (by decide) ?_
        refine VV_sub [0, 1, 2, 4] rfl ?_
        exact bt_Se_flatten_53 hX (fn_Se_flatten_10 v0 v1 v2 n) v0 v1 v2 v4 ih v3 0 hv0 hv2 M42
set_option maxRecDepth 20000 in
theorem ct_Se_flatten {l : Launch} (hl : l.stackTraces = false) (K : KT) (v0 : Nat) (v1 : Int32) (v2 : Nat) (M : Mm) : CTp l K y_Se_flatten (Cond.code y_Se_flatten prog_11_method_17_code 5 (some .int)) rvI 4 0 0 [.ref (kA K v0), .int v1, .ref (kA K v2)] M (fn_Se_flatten v0 v1 v2 M) := by
  refine CTp_of (L := L_Se_flatten) (lc := [(0, .ref (kA K v0)), (1, .int v1), (2, .ref (kA K v2))]) (by decide +kernel) dec_Se_flatten hl rfl (Nat.le_of_ble_eq_true rfl) (fun X hX => ?_)
  unfold fn_Se_flatten
  refine VV_grd (fun hv0 => ?_)
  refine VV_grd (fun hv2 => ?_)
  refine V_aload_n hX (j := 2) (hj := rfl) 0 1 rfl rfl ?_
  refine V_aload_n hX (j := 0) (hj := rfl) 1 2 rfl rfl ?_
  refine V_callU hX 5 0 0 rfl rfl rfl (Nat.le_of_ble_eq_true rfl) (Nat.le_of_ble_eq_true rfl) (VR_V hX 2 (ct_Se_become (cx_t hX) K v2 v0 M) my_Se_become mi_Se_become ms_Se_become ml_Se_50 (Nat.le_of_ble_eq_true rfl) (Nat.le_of_ble_eq_true rfl) (loc_ser hv2) (ent_ser K _ hv2) rfl rfl rfl (Nat.le_of_ble_eq_true rfl) rfl (Nat.le_of_ble_eq_true rfl) (Nat.le_of_ble_eq_true rfl)) (fun r2 M2 => ?_)
  refine V_iconst hX (v := 0) (hv := by decide) 3 6 rfl rfl ?_
  refine V_istore_n hX 4 7 [(3, .int 0), (0, .ref (kA K v0)), (1, .int v1), (2, .ref (kA K v2))] rfl rfl (Nat.le_of_ble_eq_true rfl) rfl ?_
  refine V_iconst hX (v := 0) (hv := by decide) 5 8 rfl rfl ?_
  refine V_istore hX 6 10 [(4, .int 0), (3, .int 0), (0, .ref (kA K v0)), (1, .int v1), (2, .ref (kA K v2))] rfl rfl (Nat.le_of_ble_eq_true rfl) rfl ?_
  refine VV_sub [2, 3, 4, 1, 0] rfl ?_
  exact bt_Se_flatten_10 hX v0 v1 v2 hv0 hv2 fuel0 0 0 M2
set_option maxRecDepth 20000 in
theorem bt_Se_hasSteps_37 {l : Launch} {K : KT} {X : XT} (hX : Cx l K 2 2 0 0 X prog_11_method_19_code "SeriesArchive$Series" (some .boolean) [] L_Se_hasSteps) (v0 : Nat) (hv0 : isSer v0) (M : Mm) : VV l K 2 2 0 0 rvI X (fn_Se_hasSteps_37 v0 M) 0 0 M 37 [(0, .ref (kA K v0))] [] := by
  unfold fn_Se_hasSteps_37
  refine V_aload_n hX (j := 0) (hj := rfl) 21 38 rfl rfl ?_
  refine V_get hX 22 41 v0 (.int (M v0 1)) fl_Se_15 rfl rfl (loc_ser hv0) (ent_ser K _ hv0) rfl ?_
  refine V_if_le hX 23 44 48 rfl rfl (by decide) (fun c41 => ?_) (fun c41 => ?_)
  · refine V_iconst hX (v := 0) (hv := by decide) 26 49 rfl rfl ?_
    exact V_zret hX 27 rfl rfl (Nat.le_of_ble_eq_true rfl) (Nat.le_of_ble_eq_true rfl) rfl
  · refine V_iconst hX (v := 1) (hv := by decide) 24 45 rfl rfl ?_
    refine V_goto hX 25 49 rfl (by decide) ?_
    exact V_zret hX 27 rfl rfl (Nat.le_of_ble_eq_true rfl) (Nat.le_of_ble_eq_true rfl) rfl
set_option maxRecDepth 20000 in
theorem bt_Se_hasSteps_2 {l : Launch} {K : KT} {X : XT} (hX : Cx l K 2 2 0 0 X prog_11_method_19_code "SeriesArchive$Series" (some .boolean) [] L_Se_hasSteps) (v0 : Nat) (hv0 : isSer v0) : ∀ (n : Nat) (v1 : Int32) (M : Mm), VV l K 2 2 0 0 rvI X (fn_Se_hasSteps_2 v0 n v1 M) 0 0 M 2 [(0, .ref (kA K v0)), (1, .int v1)] [] := by
  intro n
  induction n with
  | zero => intro v1 M; exact VV_none
  | succ n ih =>
    intro v1 M
    rw [fn_Se_hasSteps_2]
    refine V_iload_n hX (j := 1) (hj := rfl) 2 3 rfl rfl ?_
    refine V_aload_n hX (j := 0) (hj := rfl) 3 4 rfl rfl ?_
    refine V_get hX 4 7 v0 (.int (M v0 1)) fl_Se_15 rfl rfl (loc_ser hv0) (ent_ser K _ hv0) rfl ?_
    refine V_icmp_ge hX 5 10 37 rfl rfl (by decide) (fun c7 => ?_) (fun c7 => ?_)
    · refine VV_sub [0] rfl ?_
      exact bt_Se_hasSteps_37 hX v0 hv0 M
    · refine V_aload_n hX (j := 0) (hj := rfl) 6 11 rfl rfl ?_
      refine V_iload_n hX (j := 1) (hj := rfl) 7 12 rfl rfl ?_
      refine V_callI hX 15 0 0 rfl rfl rfl (Nat.le_of_ble_eq_true rfl) (Nat.le_of_ble_eq_true rfl) (VR_V hX 8 (ct_Se_at (cx_t hX) K v0 v1 M) my_Se_at mi_Se_at ms_Se_at ml_Se_31 (Nat.le_of_ble_eq_true rfl) (Nat.le_of_ble_eq_true rfl) (loc_ser hv0) (ent_ser K _ hv0) rfl rfl rfl (Nat.le_of_ble_eq_true rfl) rfl (Nat.le_of_ble_eq_true rfl) (Nat.le_of_ble_eq_true rfl)) (fun r12 M12 => ?_)
      refine V_aload_n hX (j := 0) (hj := rfl) 9 16 rfl rfl ?_
      refine V_iload_n hX (j := 1) (hj := rfl) 10 17 rfl rfl ?_
      refine V_iconst hX (v := 1) (hv := by decide) 11 18 rfl rfl ?_
      refine V_isub hX 12 19 rfl rfl ?_
      refine V_callI hX 22 0 0 rfl rfl rfl (Nat.le_of_ble_eq_true rfl) (Nat.le_of_ble_eq_true rfl) (VR_V hX 13 (ct_Se_at (cx_t hX) K v0 (v1 - 1) M12) my_Se_at mi_Se_at ms_Se_at ml_Se_31 (Nat.le_of_ble_eq_true rfl) (Nat.le_of_ble_eq_true rfl) (loc_ser hv0) (ent_ser K _ hv0) rfl rfl rfl (Nat.le_of_ble_eq_true rfl) rfl (Nat.le_of_ble_eq_true rfl) (Nat.le_of_ble_eq_true rfl)) (fun r19 M19 => ?_)
      refine V_isub hX 14 23 rfl rfl ?_
      refine V_callI hX 26 0 0 rfl rfl rfl (Nat.le_of_ble_eq_true rfl) (Nat.le_of_ble_eq_true rfl) (VR_SN hX 15 (ct_SA_isValue (cx_t hX) K (r12 - r19) M19) my_SA_isValue mt_SA_isValue mn_Se_43 (Nat.le_of_ble_eq_true rfl) (Nat.le_of_ble_eq_true rfl) rfl rfl (Nat.le_of_ble_eq_true rfl) rfl (Nat.le_of_ble_eq_true rfl) (Nat.le_of_ble_eq_true rfl)) (fun r23 M23 => ?_)
      refine V_if_ne hX 16 29 31 rfl rfl (by decide) (fun c26 => ?_) (fun c26 => ?_)
      · refine V_iincL hX 19 34 1 rfl rfl rfl rfl (Nat.le_of_ble_eq_true rfl) (fun x1_31 hx1_31 => ?_)
        refine VV_lc [(1, .int x1_31), (0, .ref (kA K v0))] rfl ?_
        refine V_goto hX 20 2 rfl (by decide) ?_
        refine VV_sub [1, 0] rfl ?_
        exact ih x1_31 M23
      · refine V_iconst hX (v := 0) (hv := by decide) 17 30 rfl rfl ?_
        exact V_zret hX 18 rfl rfl (Nat.le_of_ble_eq_true rfl) (Nat.le_of_ble_eq_true rfl) rfl
set_option maxRecDepth 20000 in
theorem ct_Se_hasSteps {l : Launch} (hl : l.stackTraces = false) (K : KT) (v0 : Nat) (M : Mm) : CTp l K y_Se_hasSteps (Cond.code y_Se_hasSteps prog_11_method_19_code 2 (some .boolean)) rvI 2 0 0 [.ref (kA K v0)] M (fn_Se_hasSteps v0 M) := by
  refine CTp_of (L := L_Se_hasSteps) (lc := [(0, .ref (kA K v0))]) (by decide +kernel) dec_Se_hasSteps hl rfl (Nat.le_of_ble_eq_true rfl) (fun X hX => ?_)
  unfold fn_Se_hasSteps
  refine VV_grd (fun hv0 => ?_)
  refine V_iconst hX (v := 1) (hv := by decide) 0 1 rfl rfl ?_
  refine V_istore_n hX 1 2 [(1, .int 1), (0, .ref (kA K v0))] rfl rfl (Nat.le_of_ble_eq_true rfl) rfl ?_
  refine VV_sub [1, 0] rfl ?_
  exact bt_Se_hasSteps_2 hX v0 hv0 fuel0 1 M
set_option maxRecDepth 20000 in
theorem bt_Se_becomeSteps_36 {l : Launch} {K : KT} {X : XT} (hX : Cx l K 3 2 0 0 X prog_11_method_20_code "SeriesArchive$Series" (some .int) [] L_Se_becomeSteps) (v0 : Nat) (hv0 : isSer v0) (M : Mm) : VV l K 3 2 0 0 rvI X (fn_Se_becomeSteps_36 v0 M) 0 0 M 36 [(0, .ref (kA K v0))] [] := by
  unfold fn_Se_becomeSteps_36
  refine V_aload_n hX (j := 0) (hj := rfl) 22 37 rfl rfl ?_
  refine V_aload_n hX (j := 0) (hj := rfl) 23 38 rfl rfl ?_
  refine V_get hX 24 41 v0 (.int (M v0 1)) fl_Se_15 rfl rfl (loc_ser hv0) (ent_ser K _ hv0) rfl ?_
  refine V_iconst hX (v := 1) (hv := by decide) 25 42 rfl rfl ?_
  refine V_isub hX 26 43 rfl rfl ?_
  refine V_iconst hX (v := 0) (hv := by decide) 27 44 rfl rfl ?_
  refine V_max hX 28 47 mm_Se_57 (Nat.le_of_ble_eq_true rfl) (Nat.le_of_ble_eq_true rfl) (Nat.le_of_ble_eq_true rfl) (Nat.le_of_ble_eq_true rfl) rfl rfl ?_
  refine V_putI hX 29 50 v0 fp_Se_15 (ser_ne19 hv0) rfl rfl (loc_ser hv0) (ent_ser K _ hv0) (Nat.le_of_ble_eq_true rfl) (ent_ser K _ hv0) (fun M47 hM47 => ?_)
  refine V_aload_n hX (j := 0) (hj := rfl) 30 51 rfl rfl ?_
  refine V_get hX 31 54 v0 (.int (M47 v0 1)) fl_Se_15 rfl rfl (loc_ser hv0) (ent_ser K _ hv0) rfl ?_
  exact V_iret hX 32 rfl (Nat.le_of_ble_eq_true rfl) (Nat.le_of_ble_eq_true rfl) rfl
set_option maxRecDepth 20000 in
theorem bt_Se_becomeSteps_2 {l : Launch} {K : KT} {X : XT} (hX : Cx l K 3 2 0 0 X prog_11_method_20_code "SeriesArchive$Series" (some .int) [] L_Se_becomeSteps) (v0 : Nat) (hv0 : isSer v0) : ∀ (n : Nat) (v1 : Int32) (M : Mm), VV l K 3 2 0 0 rvI X (fn_Se_becomeSteps_2 v0 n v1 M) 0 0 M 2 [(0, .ref (kA K v0)), (1, .int v1)] [] := by
  intro n
  induction n with
  | zero => intro v1 M; exact VV_none
  | succ n ih =>
    intro v1 M
    rw [fn_Se_becomeSteps_2]
    refine V_iload_n hX (j := 1) (hj := rfl) 2 3 rfl rfl ?_
    refine V_aload_n hX (j := 0) (hj := rfl) 3 4 rfl rfl ?_
    refine V_get hX 4 7 v0 (.int (M v0 1)) fl_Se_15 rfl rfl (loc_ser hv0) (ent_ser K _ hv0) rfl ?_
    refine V_icmp_ge hX 5 10 36 rfl rfl (by decide) (fun c7 => ?_) (fun c7 => ?_)
    · refine VV_sub [0] rfl ?_
      exact bt_Se_becomeSteps_36 hX v0 hv0 M
    · refine V_aload_n hX (j := 0) (hj := rfl) 6 11 rfl rfl ?_
      refine V_iload_n hX (j := 1) (hj := rfl) 7 12 rfl rfl ?_
      refine V_iconst hX (v := 1) (hv := by decide) 8 13 rfl rfl ?_
      refine V_isub hX 9 14 rfl rfl ?_
      refine V_aload_n hX (j := 0) (hj := rfl) 10 15 rfl rfl ?_
      refine V_iload_n hX (j := 1) (hj := rfl) 11 16 rfl rfl ?_
      refine V_callI hX 19 0 0 rfl rfl rfl (Nat.le_of_ble_eq_true rfl) (Nat.le_of_ble_eq_true rfl) (VR_V hX 12 (ct_Se_at (cx_t hX) K v0 v1 M) my_Se_at mi_Se_at ms_Se_at ml_Se_31 (Nat.le_of_ble_eq_true rfl) (Nat.le_of_ble_eq_true rfl) (loc_ser hv0) (ent_ser K _ hv0) rfl rfl rfl (Nat.le_of_ble_eq_true rfl) rfl (Nat.le_of_ble_eq_true rfl) (Nat.le_of_ble_eq_true rfl)) (fun r16 M16 => ?_)
      refine V_aload_n hX (j := 0) (hj := rfl) 13 20 rfl rfl ?_
      refine V_iload_n hX (j := 1) (hj := rfl) 14 21 rfl rfl ?_
      refine V_iconst hX (v := 1) (hv := by decide) 15 22 rfl rfl ?_
      refine V_isub hX 16 23 rfl rfl ?_
      refine V_callI hX 26 0 0 rfl rfl rfl (Nat.le_of_ble_eq_true rfl) (Nat.le_of_ble_eq_true rfl) (VR_V hX 17 (ct_Se_at (cx_t hX) K v0 (v1 - 1) M16) my_Se_at mi_Se_at ms_Se_at ml_Se_31 (Nat.le_of_ble_eq_true rfl) (Nat.le_of_ble_eq_true rfl) (loc_ser hv0) (ent_ser K _ hv0) rfl rfl rfl (Nat.le_of_ble_eq_true rfl) rfl (Nat.le_of_ble_eq_true rfl) (Nat.le_of_ble_eq_true rfl)) (fun r23 M23 => ?_)
      refine V_isub hX 18 27 rfl rfl ?_
      refine V_callU hX 30 0 0 rfl rfl rfl (Nat.le_of_ble_eq_true rfl) (Nat.le_of_ble_eq_true rfl) (VR_V hX 19 (ct_Se_put (cx_t hX) K v0 (v1 - 1) (r16 - r23) M23) my_Se_put mi_Se_put ms_Se_put ml_Se_27 (Nat.le_of_ble_eq_true rfl) (Nat.le_of_ble_eq_true rfl) (loc_ser hv0) (ent_ser K _ hv0) rfl rfl rfl (Nat.le_of_ble_eq_true rfl) rfl (Nat.le_of_ble_eq_true rfl) (Nat.le_of_ble_eq_true rfl)) (fun r27 M27 => ?_)
      refine V_iincL hX 20 33 1 rfl rfl rfl rfl (Nat.le_of_ble_eq_true rfl) (fun x1_30 hx1_30 => ?_)
      refine VV_lc [(1, .int x1_30), (0, .ref (kA K v0))] rfl ?_
      refine V_goto hX 21 2 rfl (by decide) ?_
      refine VV_sub [1, 0] rfl ?_
      exact ih x1_30 M27
set_option maxRecDepth 20000 in
theorem ct_Se_becomeSteps {l : Launch} (hl : l.stackTraces = false) (K : KT) (v0 : Nat) (M : Mm) : CTp l K y_Se_becomeSteps (Cond.code y_Se_becomeSteps prog_11_method_20_code 2 (some .int)) rvI 3 0 0 [.ref (kA K v0)] M (fn_Se_becomeSteps v0 M) := by
  refine CTp_of (L := L_Se_becomeSteps) (lc := [(0, .ref (kA K v0))]) (by decide +kernel) dec_Se_becomeSteps hl rfl (Nat.le_of_ble_eq_true rfl) (fun X hX => ?_)
  unfold fn_Se_becomeSteps
  refine VV_grd (fun hv0 => ?_)
  refine V_iconst hX (v := 1) (hv := by decide) 0 1 rfl rfl ?_
  refine V_istore_n hX 1 2 [(1, .int 1), (0, .ref (kA K v0))] rfl rfl (Nat.le_of_ble_eq_true rfl) rfl ?_
  refine VV_sub [1, 0] rfl ?_
  exact bt_Se_becomeSteps_2 hX v0 hv0 fuel0 1 M
set_option maxRecDepth 20000 in
theorem bt_Se_bound_53 {l : Launch} {K : KT} {X : XT} (hX : Cx l K 4 6 0 0 X prog_11_method_21_code "SeriesArchive$Series" (some .int) [] L_Se_bound) (k5 : Int32 → Int32 → Mm → Rs Int32) (v0 : Nat) (v1 : Int32) (v2 : Int32) (v4 : Int32) (hk5 : ∀ (v3 : Int32) (v4 : Int32) M, VV l K 4 6 0 0 rvI X (k5 v3 v4 M) 0 0 M 5 [(0, .ref (kA K v0)), (1, .int v1), (2, .int v2), (3, .int v3), (4, .int v4)] []) (s0 : Int32) (s1 : Int32) (hv0 : isSer v0) (M : Mm) : VV l K 4 6 0 0 rvI X (fn_Se_bound_53 k5 v0 v1 v2 v4 s0 s1 M) 0 0 M 53 [(0, .ref (kA K v0)), (1, .int v1), (2, .int v2), (4, .int v4)] [.int s1, .int s0] := by
  unfold fn_Se_bound_53
  refine V_iadd hX 28 54 rfl rfl ?_
  refine VV_li (fun x3_54 hx3_54 => ?_)
  refine V_istore_n hX 29 55 [(3, .int x3_54), (0, .ref (kA K v0)), (1, .int v1), (2, .int v2), (4, .int v4)] rfl rfl (Nat.le_of_ble_eq_true rfl) rfl ?_
  refine V_iincL hX 30 58 4 rfl rfl rfl rfl (Nat.le_of_ble_eq_true rfl) (fun x4_55 hx4_55 => ?_)
  refine VV_lc [(4, .int x4_55), (3, .int x3_54), (0, .ref (kA K v0)), (1, .int v1), (2, .int v2)] rfl ?_
  refine V_goto hX 31 5 rfl (by decide) ?_
  refine VV_sub [2, 3, 4, 1, 0] rfl ?_
  exact hk5 x3_54 x4_55 M
set_option maxRecDepth 20000 in
theorem bt_Se_bound_5 {l : Launch} {K : KT} {X : XT} (hX : Cx l K 4 6 0 0 X prog_11_method_21_code "SeriesArchive$Series" (some .int) [] L_Se_bound) (v0 : Nat) (v1 : Int32) (v2 : Int32) (hv0 : isSer v0) : ∀ (n : Nat) (v3 : Int32) (v4 : Int32) (M : Mm), VV l K 4 6 0 0 rvI X (fn_Se_bound_5 v0 v1 v2 n v3 v4 M) 0 0 M 5 [(0, .ref (kA K v0)), (1, .int v1), (2, .int v2), (3, .int v3), (4, .int v4)] [] := by
  intro n
  induction n with
  | zero => intro v3 v4 M; exact VV_none
  | succ n ih =>
    intro v3 v4 M
    rw [fn_Se_bound_5]
    refine V_iload hX (j := 4) (hj := rfl) 4 7 rfl rfl ?_
    refine V_aload_n hX (j := 0) (hj := rfl) 5 8 rfl rfl ?_
    refine V_get hX 6 11 v0 (.int (M v0 1)) fl_Se_15 rfl rfl (loc_ser hv0) (ent_ser K _ hv0) rfl ?_
    refine V_icmp_ge hX 7 14 61 rfl rfl (by decide) (fun c11 => ?_) (fun c11 => ?_)
    · refine V_iload_n hX (j := 3) (hj := rfl) 32 62 rfl rfl ?_
      exact V_iret hX 33 rfl (Nat.le_of_ble_eq_true rfl) (Nat.le_of_ble_eq_true rfl) rfl
    · refine V_aload_n hX (j := 0) (hj := rfl) 8 15 rfl rfl ?_
      refine V_iload hX (j := 4) (hj := rfl) 9 17 rfl rfl ?_
      refine V_aload_n hX (j := 0) (hj := rfl) 10 18 rfl rfl ?_
      refine V_iload hX (j := 4) (hj := rfl) 11 20 rfl rfl ?_
      refine V_callI hX 23 0 0 rfl rfl rfl (Nat.le_of_ble_eq_true rfl) (Nat.le_of_ble_eq_true rfl) (VR_V hX 12 (ct_Se_at (cx_t hX) K v0 v4 M) my_Se_at mi_Se_at ms_Se_at ml_Se_31 (Nat.le_of_ble_eq_true rfl) (Nat.le_of_ble_eq_true rfl) (loc_ser hv0) (ent_ser K _ hv0) rfl rfl rfl (Nat.le_of_ble_eq_true rfl) rfl (Nat.le_of_ble_eq_true rfl) (Nat.le_of_ble_eq_true rfl)) (fun r20 M20 => ?_)
      refine V_iload_n hX (j := 1) (hj := rfl) 13 24 rfl rfl ?_
      refine V_max hX 14 27 mm_Se_57 (Nat.le_of_ble_eq_true rfl) (Nat.le_of_ble_eq_true rfl) (Nat.le_of_ble_eq_true rfl) (Nat.le_of_ble_eq_true rfl) rfl rfl ?_
      refine V_iload_n hX (j := 2) (hj := rfl) 15 28 rfl rfl ?_
      refine V_min hX 16 31 mm_Se_62 (Nat.le_of_ble_eq_true rfl) (Nat.le_of_ble_eq_true rfl) (Nat.le_of_ble_eq_true rfl) (Nat.le_of_ble_eq_true rfl) rfl rfl ?_
      refine V_callI hX 34 0 0 rfl rfl rfl (Nat.le_of_ble_eq_true rfl) (Nat.le_of_ble_eq_true rfl) (VR_V hX 17 (ct_Se_replace (cx_t hX) K v0 v4 (imin (imax r20 v1) v2) M20) my_Se_replace mi_Se_replace ms_Se_replace ml_Se_39 (Nat.le_of_ble_eq_true rfl) (Nat.le_of_ble_eq_true rfl) (loc_ser hv0) (ent_ser K _ hv0) rfl rfl rfl (Nat.le_of_ble_eq_true rfl) rfl (Nat.le_of_ble_eq_true rfl) (Nat.le_of_ble_eq_true rfl)) (fun r31 M31 => ?_)
      refine V_istore hX 18 36 [(5, .int r31), (0, .ref (kA K v0)), (1, .int v1), (2, .int v2), (3, .int v3), (4, .int v4)] rfl rfl (Nat.le_of_ble_eq_true rfl) rfl ?_
      refine V_iload_n hX (j := 4) (hj := rfl) 19 37 rfl rfl ?_
      refine V_aload_n hX (j := 1) (hj := rfl) 20 38 rfl rfl ?_
      refine V_iload hX (j := 5) (hj := rfl) 21 40 rfl rfl ?_
      refine V_callI hX 43 0 0 rfl rfl rfl (Nat.le_of_ble_eq_true rfl) (Nat.le_of_ble_eq_true rfl) (VR_V hX 22 (ct_Se_at (cx_t hX) K v0 v4 M31) my_Se_at mi_Se_at ms_Se_at ml_Se_31 (Nat.le_of_ble_eq_true rfl) (Nat.le_of_ble_eq_true rfl) (loc_ser hv0) (ent_ser K _ hv0) rfl rfl rfl (Nat.le_of_ble_eq_true rfl) rfl (Nat.le_of_ble_eq_true rfl) (Nat.le_of_ble_eq_true rfl)) (fun r40 M40 => ?_)
      refine V_iload hX (j := 0) (hj := rfl) 23 45 rfl rfl ?_
      refine V_icmp_ne hX 24 48 52 rfl rfl (by decide) (fun c45 => ?_) (fun c45 => ?_)
      · refine V_iconst hX (v := 1) (hv := by decide) 27 53 rfl rfl ?_
        refine VV_sub [1, 2, 3, 5] rfl ?_
        exact bt_Se_bound_53 hX (fn_Se_bound_5 v0 v1 v2 n) v0 v1 v2 v4 ih v3 1 hv0 M40
      · refine V_iconst hX (v := 0) (hv := by decide) 25 49 rfl rfl ?_
        refine V_goto hX 26 53 rfl (by decide) ?_
        refine VV_sub [1, 2, 3, 5] rfl ?_
        exact bt_Se_bound_53 hX (fn_Se_bound_5 v0 v1 v2 n) v0 v1 v2 v4 ih v3 0 hv0 M40
set_option maxRecDepth 20000 in
theorem ct_Se_bound {l : Launch} (hl : l.stackTraces = false) (K : KT) (v0 : Nat) (v1 : Int32) (v2 : Int32) (M : Mm) : CTp l K y_Se_bound (Cond.code y_Se_bound prog_11_method_21_code 6 (some .int)) rvI 4 0 0 [.ref (kA K v0), .int v1, .int v2] M (fn_Se_bound v0 v1 v2 M) := by
  refine CTp_of (L := L_Se_bound) (lc := [(0, .ref (kA K v0)), (1, .int v1), (2, .int v2)]) (by decide +kernel) dec_Se_bound hl rfl (Nat.le_of_ble_eq_true rfl) (fun X hX => ?_)
  unfold fn_Se_bound
  refine VV_grd (fun hv0 => ?_)
  refine V_iconst hX (v := 0) (hv := by decide) 0 1 rfl rfl ?_
  refine V_istore_n hX 1 2 [(3, .int 0), (0, .ref (kA K v0)), (1, .int v1), (2, .int v2)] rfl rfl (Nat.le_of_ble_eq_true rfl) rfl ?_
  refine V_iconst hX (v := 0) (hv := by decide) 2 3 rfl rfl ?_
  refine V_istore hX 3 5 [(4, .int 0), (3, .int 0), (0, .ref (kA K v0)), (1, .int v1), (2, .int v2)] rfl rfl (Nat.le_of_ble_eq_true rfl) rfl ?_
  refine VV_sub [2, 3, 4, 1, 0] rfl ?_
  exact bt_Se_bound_5 hX v0 v1 v2 hv0 fuel0 0 0 M
set_option maxRecDepth 20000 in
theorem bt_Se_countOver_27 {l : Launch} {K : KT} {X : XT} (hX : Cx l K 2 4 0 0 X prog_11_method_25_code "SeriesArchive$Series" (some .int) [] L_Se_countOver) (k4 : Int32 → Int32 → Mm → Rs Int32) (v0 : Nat) (v1 : Int32) (v3 : Int32) (hk4 : ∀ (v2 : Int32) (v3 : Int32) M, VV l K 2 4 0 0 rvI X (k4 v2 v3 M) 0 0 M 4 [(0, .ref (kA K v0)), (1, .int v1), (2, .int v2), (3, .int v3)] []) (s0 : Int32) (s1 : Int32) (hv0 : isSer v0) (M : Mm) : VV l K 2 4 0 0 rvI X (fn_Se_countOver_27 k4 v0 v1 v3 s0 s1 M) 0 0 M 27 [(0, .ref (kA K v0)), (1, .int v1), (3, .int v3)] [.int s1, .int s0] := by
  unfold fn_Se_countOver_27
  refine V_iadd hX 17 28 rfl rfl ?_
  refine VV_li (fun x2_28 hx2_28 => ?_)
  refine V_istore_n hX 18 29 [(2, .int x2_28), (0, .ref (kA K v0)), (1, .int v1), (3, .int v3)] rfl rfl (Nat.le_of_ble_eq_true rfl) rfl ?_
  refine V_iincL hX 19 32 3 rfl rfl rfl rfl (Nat.le_of_ble_eq_true rfl) (fun x3_29 hx3_29 => ?_)
  refine VV_lc [(3, .int x3_29), (2, .int x2_28), (0, .ref (kA K v0)), (1, .int v1)] rfl ?_
  refine V_goto hX 20 4 rfl (by decide) ?_
  refine VV_sub [2, 3, 1, 0] rfl ?_
  exact hk4 x2_28 x3_29 M
set_option maxRecDepth 20000 in
theorem bt_Se_countOver_4 {l : Launch} {K : KT} {X : XT} (hX : Cx l K 2 4 0 0 X prog_11_method_25_code "SeriesArchive$Series" (some .int) [] L_Se_countOver) (v0 : Nat) (v1 : Int32) (hv0 : isSer v0) : ∀ (n : Nat) (v2 : Int32) (v3 : Int32) (M : Mm), VV l K 2 4 0 0 rvI X (fn_Se_countOver_4 v0 v1 n v2 v3 M) 0 0 M 4 [(0, .ref (kA K v0)), (1, .int v1), (2, .int v2), (3, .int v3)] [] := by
  intro n
  induction n with
  | zero => intro v2 v3 M; exact VV_none
  | succ n ih =>
    intro v2 v3 M
    rw [fn_Se_countOver_4]
    refine V_iload_n hX (j := 3) (hj := rfl) 4 5 rfl rfl ?_
    refine V_aload_n hX (j := 0) (hj := rfl) 5 6 rfl rfl ?_
    refine V_get hX 6 9 v0 (.int (M v0 1)) fl_Se_15 rfl rfl (loc_ser hv0) (ent_ser K _ hv0) rfl ?_
    refine V_icmp_ge hX 7 12 35 rfl rfl (by decide) (fun c9 => ?_) (fun c9 => ?_)
    · refine V_iload_n hX (j := 2) (hj := rfl) 21 36 rfl rfl ?_
      exact V_iret hX 22 rfl (Nat.le_of_ble_eq_true rfl) (Nat.le_of_ble_eq_true rfl) rfl
    · refine V_iload_n hX (j := 2) (hj := rfl) 8 13 rfl rfl ?_
      refine V_aload_n hX (j := 0) (hj := rfl) 9 14 rfl rfl ?_
      refine V_iload_n hX (j := 3) (hj := rfl) 10 15 rfl rfl ?_
      refine V_callI hX 18 0 0 rfl rfl rfl (Nat.le_of_ble_eq_true rfl) (Nat.le_of_ble_eq_true rfl) (VR_V hX 11 (ct_Se_at (cx_t hX) K v0 v3 M) my_Se_at mi_Se_at ms_Se_at ml_Se_31 (Nat.le_of_ble_eq_true rfl) (Nat.le_of_ble_eq_true rfl) (loc_ser hv0) (ent_ser K _ hv0) rfl rfl rfl (Nat.le_of_ble_eq_true rfl) rfl (Nat.le_of_ble_eq_true rfl) (Nat.le_of_ble_eq_true rfl)) (fun r15 M15 => ?_)
      refine V_iload_n hX (j := 1) (hj := rfl) 12 19 rfl rfl ?_
      refine V_icmp_le hX 13 22 26 rfl rfl (by decide) (fun c19 => ?_) (fun c19 => ?_)
      · refine V_iconst hX (v := 0) (hv := by decide) 16 27 rfl rfl ?_
        refine VV_sub [0, 1, 3] rfl ?_
        exact bt_Se_countOver_27 hX (fn_Se_countOver_4 v0 v1 n) v0 v1 v3 ih v2 0 hv0 M15
      · refine V_iconst hX (v := 1) (hv := by decide) 14 23 rfl rfl ?_
        refine V_goto hX 15 27 rfl (by decide) ?_
        refine VV_sub [0, 1, 3] rfl ?_
        exact bt_Se_countOver_27 hX (fn_Se_countOver_4 v0 v1 n) v0 v1 v3 ih v2 1 hv0 M15
set_option maxRecDepth 20000 in
theorem ct_Se_countOver {l : Launch} (hl : l.stackTraces = false) (K : KT) (v0 : Nat) (v1 : Int32) (M : Mm) : CTp l K y_Se_countOver (Cond.code y_Se_countOver prog_11_method_25_code 4 (some .int)) rvI 2 0 0 [.ref (kA K v0), .int v1] M (fn_Se_countOver v0 v1 M) := by
  refine CTp_of (L := L_Se_countOver) (lc := [(0, .ref (kA K v0)), (1, .int v1)]) (by decide +kernel) dec_Se_countOver hl rfl (Nat.le_of_ble_eq_true rfl) (fun X hX => ?_)
  unfold fn_Se_countOver
  refine VV_grd (fun hv0 => ?_)
  refine V_iconst hX (v := 0) (hv := by decide) 0 1 rfl rfl ?_
  refine V_istore_n hX 1 2 [(2, .int 0), (0, .ref (kA K v0)), (1, .int v1)] rfl rfl (Nat.le_of_ble_eq_true rfl) rfl ?_
  refine V_iconst hX (v := 0) (hv := by decide) 2 3 rfl rfl ?_
  refine V_istore_n hX 3 4 [(3, .int 0), (2, .int 0), (0, .ref (kA K v0)), (1, .int v1)] rfl rfl (Nat.le_of_ble_eq_true rfl) rfl ?_
  refine VV_sub [2, 3, 1, 0] rfl ?_
  exact bt_Se_countOver_4 hX v0 v1 hv0 fuel0 0 0 M
set_option maxRecDepth 20000 in
theorem bt_Se_rankOf_61 {l : Launch} {K : KT} {X : XT} (hX : Cx l K 2 5 0 0 X prog_11_method_27_code "SeriesArchive$Series" (some .int) [] L_Se_rankOf) (k4 : Int32 → Int32 → Mm → Rs Int32) (v0 : Nat) (v1 : Int32) (v3 : Int32) (hk4 : ∀ (v2 : Int32) (v3 : Int32) M, VV l K 2 5 0 0 rvI X (k4 v2 v3 M) 0 0 M 4 [(0, .ref (kA K v0)), (1, .int v1), (2, .int v2), (3, .int v3)] []) (s0 : Int32) (s1 : Int32) (hv0 : isSer v0) (M : Mm) : VV l K 2 5 0 0 rvI X (fn_Se_rankOf_61 k4 v0 v1 v3 s0 s1 M) 0 0 M 61 [(0, .ref (kA K v0)), (1, .int v1), (3, .int v3)] [.int s1, .int s0] := by
  unfold fn_Se_rankOf_61
  refine V_iadd hX 35 62 rfl rfl ?_
  refine VV_li (fun x2_62 hx2_62 => ?_)
  refine V_istore_n hX 36 63 [(2, .int x2_62), (0, .ref (kA K v0)), (1, .int v1), (3, .int v3)] rfl rfl (Nat.le_of_ble_eq_true rfl) rfl ?_
  refine V_iincL hX 37 66 3 rfl rfl rfl rfl (Nat.le_of_ble_eq_true rfl) (fun x3_63 hx3_63 => ?_)
  refine VV_lc [(3, .int x3_63), (2, .int x2_62), (0, .ref (kA K v0)), (1, .int v1)] rfl ?_
  refine V_goto hX 38 4 rfl (by decide) ?_
  refine VV_sub [2, 3, 1, 0] rfl ?_
  exact hk4 x2_62 x3_63 M
set_option maxRecDepth 20000 in
theorem bt_Se_rankOf_48 {l : Launch} {K : KT} {X : XT} (hX : Cx l K 2 5 0 0 X prog_11_method_27_code "SeriesArchive$Series" (some .int) [] L_Se_rankOf) (k4 : Int32 → Int32 → Mm → Rs Int32) (v0 : Nat) (v1 : Int32) (v2 : Int32) (v3 : Int32) (hk4 : ∀ (v2 : Int32) (v3 : Int32) M, VV l K 2 5 0 0 rvI X (k4 v2 v3 M) 0 0 M 4 [(0, .ref (kA K v0)), (1, .int v1), (2, .int v2), (3, .int v3)] []) (s0 : Int32) (hv0 : isSer v0) (M : Mm) : VV l K 2 5 0 0 rvI X (fn_Se_rankOf_48 k4 v0 v1 v2 v3 s0 M) 0 0 M 48 [(0, .ref (kA K v0)), (1, .int v1), (2, .int v2), (3, .int v3)] [.int s0] := by
  unfold fn_Se_rankOf_48
  refine V_istore hX 28 50 [(4, .int s0), (0, .ref (kA K v0)), (1, .int v1), (2, .int v2), (3, .int v3)] rfl rfl (Nat.le_of_ble_eq_true rfl) rfl ?_
  refine V_iload_n hX (j := 3) (hj := rfl) 29 51 rfl rfl ?_
  refine V_iload hX (j := 0) (hj := rfl) 30 53 rfl rfl ?_
  refine V_if_eq hX 31 56 60 rfl rfl (by decide) (fun c53 => ?_) (fun c53 => ?_)
  · refine V_iconst hX (v := 0) (hv := by decide) 34 61 rfl rfl ?_
    refine VV_sub [1, 2, 4] rfl ?_
    exact bt_Se_rankOf_61 hX k4 v0 v1 v3 hk4 v2 0 hv0 M
  · refine V_iconst hX (v := 1) (hv := by decide) 32 57 rfl rfl ?_
    refine V_goto hX 33 61 rfl (by decide) ?_
    refine VV_sub [1, 2, 4] rfl ?_
    exact bt_Se_rankOf_61 hX k4 v0 v1 v3 hk4 v2 1 hv0 M
set_option maxRecDepth 20000 in
theorem bt_Se_rankOf_43 {l : Launch} {K : KT} {X : XT} (hX : Cx l K 2 5 0 0 X prog_11_method_27_code "SeriesArchive$Series" (some .int) [] L_Se_rankOf) (k4 : Int32 → Int32 → Mm → Rs Int32) (v0 : Nat) (v1 : Int32) (v2 : Int32) (v3 : Int32) (hk4 : ∀ (v2 : Int32) (v3 : Int32) M, VV l K 2 5 0 0 rvI X (k4 v2 v3 M) 0 0 M 4 [(0, .ref (kA K v0)), (1, .int v1), (2, .int v2), (3, .int v3)] []) (hv0 : isSer v0) (M : Mm) : VV l K 2 5 0 0 rvI X (fn_Se_rankOf_43 k4 v0 v1 v2 v3 M) 0 0 M 43 [(0, .ref (kA K v0)), (1, .int v1), (2, .int v2), (3, .int v3)] [] := by
  unfold fn_Se_rankOf_43
  refine V_iconst hX (v := 1) (hv := by decide) 25 44 rfl rfl ?_
  refine V_goto hX 26 48 rfl (by decide) ?_
  exact bt_Se_rankOf_48 hX k4 v0 v1 v2 v3 hk4 1 hv0 M
set_option maxRecDepth 20000 in
theorem bt_Se_rankOf_47 {l : Launch} {K : KT} {X : XT} (hX : Cx l K 2 5 0 0 X prog_11_method_27_code "SeriesArchive$Series" (some .int) [] L_Se_rankOf) (k4 : Int32 → Int32 → Mm → Rs Int32) (v0 : Nat) (v1 : Int32) (v2 : Int32) (v3 : Int32) (hk4 : ∀ (v2 : Int32) (v3 : Int32) M, VV l K 2 5 0 0 rvI X (k4 v2 v3 M) 0 0 M 4 [(0, .ref (kA K v0)), (1, .int v1), (2, .int v2), (3, .int v3)] []) (hv0 : isSer v0) (M : Mm) : VV l K 2 5 0 0 rvI X (fn_Se_rankOf_47 k4 v0 v1 v2 v3 M) 0 0 M 47 [(0, .ref (kA K v0)), (1, .int v1), (2, .int v2), (3, .int v3)] [] := by
  unfold fn_Se_rankOf_47
  refine V_iconst hX (v := 0) (hv := by decide) 27 48 rfl rfl ?_
  exact bt_Se_rankOf_48 hX k4 v0 v1 v2 v3 hk4 0 hv0 M
set_option maxRecDepth 20000 in
theorem bt_Se_rankOf_4 {l : Launch} {K : KT} {X : XT} (hX : Cx l K 2 5 0 0 X prog_11_method_27_code "SeriesArchive$Series" (some .int) [] L_Se_rankOf) (v0 : Nat) (v1 : Int32) (hv0 : isSer v0) : ∀ (n : Nat) (v2 : Int32) (v3 : Int32) (M : Mm), VV l K 2 5 0 0 rvI X (fn_Se_rankOf_4 v0 v1 n v2 v3 M) 0 0 M 4 [(0, .ref (kA K v0)), (1, .int v1), (2, .int v2), (3, .int v3)] [] := by
  intro n
  induction n with
  | zero => intro v2 v3 M; exact VV_none
  | succ n ih =>
    intro v2 v3 M
    rw [fn_Se_rankOf_4]
    refine V_iload_n hX (j := 3) (hj := rfl) 4 5 rfl rfl ?_
    refine V_aload_n hX (j := 0) (hj := rfl) 5 6 rfl rfl ?_
    refine V_get hX 6 9 v0 (.int (M v0 1)) fl_Se_15 rfl rfl (loc_ser hv0) (ent_ser K _ hv0) rfl ?_
    refine V_icmp_ge hX 7 12 69 rfl rfl (by decide) (fun c9 => ?_) (fun c9 => ?_)
    · refine V_iload_n hX (j := 2) (hj := rfl) 39 70 rfl rfl ?_
      exact V_iret hX 40 rfl (Nat.le_of_ble_eq_true rfl) (Nat.le_of_ble_eq_true rfl) rfl
    · refine V_aload_n hX (j := 0) (hj := rfl) 8 13 rfl rfl ?_
      refine V_iload_n hX (j := 3) (hj := rfl) 9 14 rfl rfl ?_
      refine V_callI hX 17 0 0 rfl rfl rfl (Nat.le_of_ble_eq_true rfl) (Nat.le_of_ble_eq_true rfl) (VR_V hX 10 (ct_Se_at (cx_t hX) K v0 v3 M) my_Se_at mi_Se_at ms_Se_at ml_Se_31 (Nat.le_of_ble_eq_true rfl) (Nat.le_of_ble_eq_true rfl) (loc_ser hv0) (ent_ser K _ hv0) rfl rfl rfl (Nat.le_of_ble_eq_true rfl) rfl (Nat.le_of_ble_eq_true rfl) (Nat.le_of_ble_eq_true rfl)) (fun r14 M14 => ?_)
      refine V_aload_n hX (j := 0) (hj := rfl) 11 18 rfl rfl ?_
      refine V_iload_n hX (j := 1) (hj := rfl) 12 19 rfl rfl ?_
      refine V_callI hX 22 0 0 rfl rfl rfl (Nat.le_of_ble_eq_true rfl) (Nat.le_of_ble_eq_true rfl) (VR_V hX 13 (ct_Se_at (cx_t hX) K v0 v1 M14) my_Se_at mi_Se_at ms_Se_at ml_Se_31 (Nat.le_of_ble_eq_true rfl) (Nat.le_of_ble_eq_true rfl) (loc_ser hv0) (ent_ser K _ hv0) rfl rfl rfl (Nat.le_of_ble_eq_true rfl) rfl (Nat.le_of_ble_eq_true rfl) (Nat.le_of_ble_eq_true rfl)) (fun r19 M19 => ?_)
      refine V_icmp_lt hX 14 25 43 rfl rfl (by decide) (fun c22 => ?_) (fun c22 => ?_)
      · exact bt_Se_rankOf_43 hX (fn_Se_rankOf_4 v0 v1 n) v0 v1 v2 v3 ih hv0 M19
      · refine V_aload_n hX (j := 0) (hj := rfl) 15 26 rfl rfl ?_
        refine V_iload_n hX (j := 3) (hj := rfl) 16 27 rfl rfl ?_
        refine V_callI hX 30 0 0 rfl rfl rfl (Nat.le_of_ble_eq_true rfl) (Nat.le_of_ble_eq_true rfl) (VR_V hX 17 (ct_Se_at (cx_t hX) K v0 v3 M19) my_Se_at mi_Se_at ms_Se_at ml_Se_31 (Nat.le_of_ble_eq_true rfl) (Nat.le_of_ble_eq_true rfl) (loc_ser hv0) (ent_ser K _ hv0) rfl rfl rfl (Nat.le_of_ble_eq_true rfl) rfl (Nat.le_of_ble_eq_true rfl) (Nat.le_of_ble_eq_true rfl)) (fun r27 M27 => ?_)
        refine V_aload_n hX (j := 0) (hj := rfl) 18 31 rfl rfl ?_
        refine V_iload_n hX (j := 1) (hj := rfl) 19 32 rfl rfl ?_
        refine V_callI hX 35 0 0 rfl rfl rfl (Nat.le_of_ble_eq_true rfl) (Nat.le_of_ble_eq_true rfl) (VR_V hX 20 (ct_Se_at (cx_t hX) K v0 v1 M27) my_Se_at mi_Se_at ms_Se_at ml_Se_31 (Nat.le_of_ble_eq_true rfl) (Nat.le_of_ble_eq_true rfl) (loc_ser hv0) (ent_ser K _ hv0) rfl rfl rfl (Nat.le_of_ble_eq_true rfl) rfl (Nat.le_of_ble_eq_true rfl) (Nat.le_of_ble_eq_true rfl)) (fun r32 M32 => ?_)
        refine V_icmp_ne hX 21 38 47 rfl rfl (by decide) (fun c35 => ?_) (fun c35 => ?_)
        · exact bt_Se_rankOf_47 hX (fn_Se_rankOf_4 v0 v1 n) v0 v1 v2 v3 ih hv0 M32
        · refine V_iload_n hX (j := 3) (hj := rfl) 22 39 rfl rfl ?_
          refine V_iload_n hX (j := 1) (hj := rfl) 23 40 rfl rfl ?_
          refine V_icmp_ge hX 24 43 47 rfl rfl (by decide) (fun c40 => ?_) (fun c40 => ?_)
          · exact bt_Se_rankOf_47 hX (fn_Se_rankOf_4 v0 v1 n) v0 v1 v2 v3 ih hv0 M32
          · exact bt_Se_rankOf_43 hX (fn_Se_rankOf_4 v0 v1 n) v0 v1 v2 v3 ih hv0 M32
set_option maxRecDepth 20000 in
theorem ct_Se_rankOf {l : Launch} (hl : l.stackTraces = false) (K : KT) (v0 : Nat) (v1 : Int32) (M : Mm) : CTp l K y_Se_rankOf (Cond.code y_Se_rankOf prog_11_method_27_code 5 (some .int)) rvI 2 0 0 [.ref (kA K v0), .int v1] M (fn_Se_rankOf v0 v1 M) := by
  refine CTp_of (L := L_Se_rankOf) (lc := [(0, .ref (kA K v0)), (1, .int v1)]) (by decide +kernel) dec_Se_rankOf hl rfl (Nat.le_of_ble_eq_true rfl) (fun X hX => ?_)
  unfold fn_Se_rankOf
  refine VV_grd (fun hv0 => ?_)
  refine V_iconst hX (v := 0) (hv := by decide) 0 1 rfl rfl ?_
  refine V_istore_n hX 1 2 [(2, .int 0), (0, .ref (kA K v0)), (1, .int v1)] rfl rfl (Nat.le_of_ble_eq_true rfl) rfl ?_
  refine V_iconst hX (v := 0) (hv := by decide) 2 3 rfl rfl ?_
  refine V_istore_n hX 3 4 [(3, .int 0), (2, .int 0), (0, .ref (kA K v0)), (1, .int v1)] rfl rfl (Nat.le_of_ble_eq_true rfl) rfl ?_
  refine VV_sub [2, 3, 1, 0] rfl ?_
  exact bt_Se_rankOf_4 hX v0 v1 hv0 fuel0 0 0 M
set_option maxRecDepth 20000 in
theorem bt_Se_indexOfRank_2 {l : Launch} {K : KT} {X : XT} (hX : Cx l K 3 3 0 0 X prog_11_method_26_code "SeriesArchive$Series" (some .int) [] L_Se_indexOfRank) (v0 : Nat) (v1 : Int32) (hv0 : isSer v0) : ∀ (n : Nat) (v2 : Int32) (M : Mm), VV l K 3 3 0 0 rvI X (fn_Se_indexOfRank_2 v0 v1 n v2 M) 0 0 M 2 [(0, .ref (kA K v0)), (1, .int v1), (2, .int v2)] [] := by
  intro n
  induction n with
  | zero => intro v2 M; exact VV_none
  | succ n ih =>
    intro v2 M
    rw [fn_Se_indexOfRank_2]
    refine V_iload_n hX (j := 2) (hj := rfl) 2 3 rfl rfl ?_
    refine V_aload_n hX (j := 0) (hj := rfl) 3 4 rfl rfl ?_
    refine V_get hX 4 7 v0 (.int (M v0 1)) fl_Se_15 rfl rfl (loc_ser hv0) (ent_ser K _ hv0) rfl ?_
    refine V_icmp_ge hX 5 10 27 rfl rfl (by decide) (fun c7 => ?_) (fun c7 => ?_)
    · refine V_iconst hX (v := (-1)) (hv := by decide) 15 28 rfl rfl ?_
      exact V_iret hX 16 rfl (Nat.le_of_ble_eq_true rfl) (Nat.le_of_ble_eq_true rfl) rfl
    · refine V_aload_n hX (j := 0) (hj := rfl) 6 11 rfl rfl ?_
      refine V_iload_n hX (j := 2) (hj := rfl) 7 12 rfl rfl ?_
      refine V_callI hX 15 0 0 rfl rfl rfl (Nat.le_of_ble_eq_true rfl) (Nat.le_of_ble_eq_true rfl) (VR_V hX 8 (ct_Se_rankOf (cx_t hX) K v0 v2 M) my_Se_rankOf mi_Se_rankOf ms_Se_rankOf ml_Se_68 (Nat.le_of_ble_eq_true rfl) (Nat.le_of_ble_eq_true rfl) (loc_ser hv0) (ent_ser K _ hv0) rfl rfl rfl (Nat.le_of_ble_eq_true rfl) rfl (Nat.le_of_ble_eq_true rfl) (Nat.le_of_ble_eq_true rfl)) (fun r12 M12 => ?_)
      refine V_iload_n hX (j := 1) (hj := rfl) 9 16 rfl rfl ?_
      refine V_icmp_ne hX 10 19 21 rfl rfl (by decide) (fun c16 => ?_) (fun c16 => ?_)
      · refine V_iincL hX 13 24 2 rfl rfl rfl rfl (Nat.le_of_ble_eq_true rfl) (fun x2_21 hx2_21 => ?_)
        refine VV_lc [(2, .int x2_21), (0, .ref (kA K v0)), (1, .int v1)] rfl ?_
        refine V_goto hX 14 2 rfl (by decide) ?_
        refine VV_sub [1, 2, 0] rfl ?_
        exact ih x2_21 M12
      · refine V_iload_n hX (j := 2) (hj := rfl) 11 20 rfl rfl ?_
        exact V_iret hX 12 rfl (Nat.le_of_ble_eq_true rfl) (Nat.le_of_ble_eq_true rfl) rfl
set_option maxRecDepth 20000 in
theorem ct_Se_indexOfRank {l : Launch} (hl : l.stackTraces = false) (K : KT) (v0 : Nat) (v1 : Int32) (M : Mm) : CTp l K y_Se_indexOfRank (Cond.code y_Se_indexOfRank prog_11_method_26_code 3 (some .int)) rvI 3 0 0 [.ref (kA K v0), .int v1] M (fn_Se_indexOfRank v0 v1 M) := by
  refine CTp_of (L := L_Se_indexOfRank) (lc := [(0, .ref (kA K v0)), (1, .int v1)]) (by decide +kernel) dec_Se_indexOfRank hl rfl (Nat.le_of_ble_eq_true rfl) (fun X hX => ?_)
  unfold fn_Se_indexOfRank
  refine VV_grd (fun hv0 => ?_)
  refine V_iconst hX (v := 0) (hv := by decide) 0 1 rfl rfl ?_
  refine V_istore_n hX 1 2 [(2, .int 0), (0, .ref (kA K v0)), (1, .int v1)] rfl rfl (Nat.le_of_ble_eq_true rfl) rfl ?_
  refine VV_sub [1, 2, 0] rfl ?_
  exact bt_Se_indexOfRank_2 hX v0 v1 hv0 fuel0 0 M
set_option maxRecDepth 20000 in
theorem bt_Se_runsAlong_15 {l : Launch} {K : KT} {X : XT} (hX : Cx l K 2 3 0 0 X prog_11_method_29_code "SeriesArchive$Series" (some .boolean) [] L_Se_runsAlong) (v0 : Nat) (v1 : Nat) (hv0 : isSer v0) (hv1 : isSer v1) : ∀ (n : Nat) (v2 : Int32) (M : Mm), VV l K 2 3 0 0 rvI X (fn_Se_runsAlong_15 v0 v1 n v2 M) 0 0 M 15 [(0, .ref (kA K v0)), (1, .ref (kA K v1)), (2, .int v2)] [] := by
  intro n
  induction n with
  | zero => intro v2 M; exact VV_none
  | succ n ih =>
    intro v2 M
    rw [fn_Se_runsAlong_15]
    refine V_iload_n hX (j := 2) (hj := rfl) 9 16 rfl rfl ?_
    refine V_aload_n hX (j := 0) (hj := rfl) 10 17 rfl rfl ?_
    refine V_get hX 11 20 v0 (.int (M v0 1)) fl_Se_15 rfl rfl (loc_ser hv0) (ent_ser K _ hv0) rfl ?_
    refine V_icmp_ge hX 12 23 56 rfl rfl (by decide) (fun c20 => ?_) (fun c20 => ?_)
    · refine V_iconst hX (v := 1) (hv := by decide) 32 57 rfl rfl ?_
      exact V_zret hX 33 rfl rfl (Nat.le_of_ble_eq_true rfl) (Nat.le_of_ble_eq_true rfl) rfl
    · refine V_aload_n hX (j := 0) (hj := rfl) 13 24 rfl rfl ?_
      refine V_iload_n hX (j := 2) (hj := rfl) 14 25 rfl rfl ?_
      refine V_callI hX 28 0 0 rfl rfl rfl (Nat.le_of_ble_eq_true rfl) (Nat.le_of_ble_eq_true rfl) (VR_V hX 15 (ct_Se_at (cx_t hX) K v0 v2 M) my_Se_at mi_Se_at ms_Se_at ml_Se_31 (Nat.le_of_ble_eq_true rfl) (Nat.le_of_ble_eq_true rfl) (loc_ser hv0) (ent_ser K _ hv0) rfl rfl rfl (Nat.le_of_ble_eq_true rfl) rfl (Nat.le_of_ble_eq_true rfl) (Nat.le_of_ble_eq_true rfl)) (fun r25 M25 => ?_)
      refine V_aload_n hX (j := 1) (hj := rfl) 16 29 rfl rfl ?_
      refine V_iload_n hX (j := 2) (hj := rfl) 17 30 rfl rfl ?_
      refine V_callI hX 33 0 0 rfl rfl rfl (Nat.le_of_ble_eq_true rfl) (Nat.le_of_ble_eq_true rfl) (VR_V hX 18 (ct_Se_at (cx_t hX) K v1 v2 M25) my_Se_at mi_Se_at ms_Se_at ml_Se_31 (Nat.le_of_ble_eq_true rfl) (Nat.le_of_ble_eq_true rfl) (loc_ser hv1) (ent_ser K _ hv1) rfl rfl rfl (Nat.le_of_ble_eq_true rfl) rfl (Nat.le_of_ble_eq_true rfl) (Nat.le_of_ble_eq_true rfl)) (fun r30 M30 => ?_)
      refine V_isub hX 19 34 rfl rfl ?_
      refine V_aload_n hX (j := 0) (hj := rfl) 20 35 rfl rfl ?_
      refine V_iconst hX (v := 0) (hv := by decide) 21 36 rfl rfl ?_
      refine V_callI hX 39 0 0 rfl rfl rfl (Nat.le_of_ble_eq_true rfl) (Nat.le_of_ble_eq_true rfl) (VR_V hX 22 (ct_Se_at (cx_t hX) K v0 0 M30) my_Se_at mi_Se_at ms_Se_at ml_Se_31 (Nat.le_of_ble_eq_true rfl) (Nat.le_of_ble_eq_true rfl) (loc_ser hv0) (ent_ser K _ hv0) rfl rfl rfl (Nat.le_of_ble_eq_true rfl) rfl (Nat.le_of_ble_eq_true rfl) (Nat.le_of_ble_eq_true rfl)) (fun r36 M36 => ?_)
      refine V_aload_n hX (j := 1) (hj := rfl) 23 40 rfl rfl ?_
      refine V_iconst hX (v := 0) (hv := by decide) 24 41 rfl rfl ?_
      refine V_callI hX 44 0 0 rfl rfl rfl (Nat.le_of_ble_eq_true rfl) (Nat.le_of_ble_eq_true rfl) (VR_V hX 25 (ct_Se_at (cx_t hX) K v1 0 M36) my_Se_at mi_Se_at ms_Se_at ml_Se_31 (Nat.le_of_ble_eq_true rfl) (Nat.le_of_ble_eq_true rfl) (loc_ser hv1) (ent_ser K _ hv1) rfl rfl rfl (Nat.le_of_ble_eq_true rfl) rfl (Nat.le_of_ble_eq_true rfl) (Nat.le_of_ble_eq_true rfl)) (fun r41 M41 => ?_)
      refine V_isub hX 26 45 rfl rfl ?_
      refine V_icmp_eq hX 27 48 50 rfl rfl (by decide) (fun c45 => ?_) (fun c45 => ?_)
      · refine V_iincL hX 30 53 2 rfl rfl rfl rfl (Nat.le_of_ble_eq_true rfl) (fun x2_50 hx2_50 => ?_)
        refine VV_lc [(2, .int x2_50), (0, .ref (kA K v0)), (1, .ref (kA K v1))] rfl ?_
        refine V_goto hX 31 15 rfl (by decide) ?_
        refine VV_sub [1, 2, 0] rfl ?_
        exact ih x2_50 M41
      · refine V_iconst hX (v := 0) (hv := by decide) 28 49 rfl rfl ?_
        exact V_zret hX 29 rfl rfl (Nat.le_of_ble_eq_true rfl) (Nat.le_of_ble_eq_true rfl) rfl
set_option maxRecDepth 20000 in
theorem ct_Se_runsAlong {l : Launch} (hl : l.stackTraces = false) (K : KT) (v0 : Nat) (v1 : Nat) (M : Mm) : CTp l K y_Se_runsAlong (Cond.code y_Se_runsAlong prog_11_method_29_code 3 (some .boolean)) rvI 2 0 0 [.ref (kA K v0), .ref (kA K v1)] M (fn_Se_runsAlong v0 v1 M) := by
  refine CTp_of (L := L_Se_runsAlong) (lc := [(0, .ref (kA K v0)), (1, .ref (kA K v1))]) (by decide +kernel) dec_Se_runsAlong hl rfl (Nat.le_of_ble_eq_true rfl) (fun X hX => ?_)
  unfold fn_Se_runsAlong
  refine VV_grd (fun hv0 => ?_)
  refine VV_grd (fun hv1 => ?_)
  refine V_aload_n hX (j := 0) (hj := rfl) 0 1 rfl rfl ?_
  refine V_get hX 1 4 v0 (.int (M v0 1)) fl_Se_15 rfl rfl (loc_ser hv0) (ent_ser K _ hv0) rfl ?_
  refine V_aload_n hX (j := 1) (hj := rfl) 2 5 rfl rfl ?_
  refine V_get hX 3 8 v1 (.int (M v1 1)) fl_Se_15 rfl rfl (loc_ser hv1) (ent_ser K _ hv1) rfl ?_
  refine V_icmp_eq hX 4 11 13 rfl rfl (by decide) (fun c8 => ?_) (fun c8 => ?_)
  · refine V_iconst hX (v := 1) (hv := by decide) 7 14 rfl rfl ?_
    refine V_istore_n hX 8 15 [(2, .int 1), (0, .ref (kA K v0)), (1, .ref (kA K v1))] rfl rfl (Nat.le_of_ble_eq_true rfl) rfl ?_
    refine VV_sub [1, 2, 0] rfl ?_
    exact bt_Se_runsAlong_15 hX v0 v1 hv0 hv1 fuel0 1 M
  · refine V_iconst hX (v := 0) (hv := by decide) 5 12 rfl rfl ?_
    exact V_zret hX 6 rfl rfl (Nat.le_of_ble_eq_true rfl) (Nat.le_of_ble_eq_true rfl) rfl
set_option maxRecDepth 20000 in
theorem bt_Se_isSameAs_28 {l : Launch} {K : KT} {X : XT} (hX : Cx l K 3 2 0 0 X prog_11_method_28_code "SeriesArchive$Series" (some .boolean) [] L_Se_isSameAs) (M : Mm) : VV l K 3 2 0 0 rvI X (fn_Se_isSameAs_28 M) 0 0 M 28 [] [] := by
  unfold fn_Se_isSameAs_28
  refine V_iconst hX (v := 1) (hv := by decide) 14 29 rfl rfl ?_
  refine V_goto hX 15 33 rfl (by decide) ?_
  exact V_zret hX 17 rfl rfl (Nat.le_of_ble_eq_true rfl) (Nat.le_of_ble_eq_true rfl) rfl
set_option maxRecDepth 20000 in
theorem ct_Se_isSameAs {l : Launch} (hl : l.stackTraces = false) (K : KT) (v0 : Nat) (v1 : Nat) (M : Mm) : CTp l K y_Se_isSameAs (Cond.code y_Se_isSameAs prog_11_method_28_code 2 (some .boolean)) rvI 3 0 0 [.ref (kA K v0), .ref (kA K v1)] M (fn_Se_isSameAs v0 v1 M) := by
  refine CTp_of (L := L_Se_isSameAs) (lc := [(0, .ref (kA K v0)), (1, .ref (kA K v1))]) (by decide +kernel) dec_Se_isSameAs hl rfl (Nat.le_of_ble_eq_true rfl) (fun X hX => ?_)
  unfold fn_Se_isSameAs
  refine VV_grd (fun hv0 => ?_)
  refine VV_grd (fun hv1 => ?_)
  refine V_aload_n hX (j := 0) (hj := rfl) 0 1 rfl rfl ?_
  refine V_aload_n hX (j := 1) (hj := rfl) 1 2 rfl rfl ?_
  refine V_callI hX 5 0 0 rfl rfl rfl (Nat.le_of_ble_eq_true rfl) (Nat.le_of_ble_eq_true rfl) (VR_V hX 2 (ct_Se_runsAlong (cx_t hX) K v0 v1 M) my_Se_runsAlong mi_Se_runsAlong ms_Se_runsAlong ml_Se_71 (Nat.le_of_ble_eq_true rfl) (Nat.le_of_ble_eq_true rfl) (loc_ser hv0) (ent_ser K _ hv0) rfl rfl rfl (Nat.le_of_ble_eq_true rfl) rfl (Nat.le_of_ble_eq_true rfl) (Nat.le_of_ble_eq_true rfl)) (fun r2 M2 => ?_)
  refine V_if_eq hX 3 8 32 rfl rfl (by decide) (fun c5 => ?_) (fun c5 => ?_)
  · refine V_iconst hX (v := 0) (hv := by decide) 16 33 rfl rfl ?_
    exact V_zret hX 17 rfl rfl (Nat.le_of_ble_eq_true rfl) (Nat.le_of_ble_eq_true rfl) rfl
  · refine V_aload_n hX (j := 0) (hj := rfl) 4 9 rfl rfl ?_
    refine V_get hX 5 12 v0 (.int (M2 v0 1)) fl_Se_15 rfl rfl (loc_ser hv0) (ent_ser K _ hv0) rfl ?_
    refine V_if_eq hX 6 15 28 rfl rfl (by decide) (fun c12 => ?_) (fun c12 => ?_)
    · refine VV_sub [] rfl ?_
      exact bt_Se_isSameAs_28 hX M2
    · refine V_aload_n hX (j := 0) (hj := rfl) 7 16 rfl rfl ?_
      refine V_iconst hX (v := 0) (hv := by decide) 8 17 rfl rfl ?_
      refine V_callI hX 20 0 0 rfl rfl rfl (Nat.le_of_ble_eq_true rfl) (Nat.le_of_ble_eq_true rfl) (VR_V hX 9 (ct_Se_at (cx_t hX) K v0 0 M2) my_Se_at mi_Se_at ms_Se_at ml_Se_31 (Nat.le_of_ble_eq_true rfl) (Nat.le_of_ble_eq_true rfl) (loc_ser hv0) (ent_ser K _ hv0) rfl rfl rfl (Nat.le_of_ble_eq_true rfl) rfl (Nat.le_of_ble_eq_true rfl) (Nat.le_of_ble_eq_true rfl)) (fun r17 M17 => ?_)
      refine V_aload_n hX (j := 1) (hj := rfl) 10 21 rfl rfl ?_
      refine V_iconst hX (v := 0) (hv := by decide) 11 22 rfl rfl ?_
      refine V_callI hX 25 0 0 rfl rfl rfl (Nat.le_of_ble_eq_true rfl) (Nat.le_of_ble_eq_true rfl) (VR_V hX 12 (ct_Se_at (cx_t hX) K v1 0 M17) my_Se_at mi_Se_at ms_Se_at ml_Se_31 (Nat.le_of_ble_eq_true rfl) (Nat.le_of_ble_eq_true rfl) (loc_ser hv1) (ent_ser K _ hv1) rfl rfl rfl (Nat.le_of_ble_eq_true rfl) rfl (Nat.le_of_ble_eq_true rfl) (Nat.le_of_ble_eq_true rfl)) (fun r22 M22 => ?_)
      refine V_icmp_ne hX 13 28 32 rfl rfl (by decide) (fun c25 => ?_) (fun c25 => ?_)
      · refine V_iconst hX (v := 0) (hv := by decide) 16 33 rfl rfl ?_
        exact V_zret hX 17 rfl rfl (Nat.le_of_ble_eq_true rfl) (Nat.le_of_ble_eq_true rfl) rfl
      · refine VV_sub [] rfl ?_
        exact bt_Se_isSameAs_28 hX M22
set_option maxRecDepth 20000 in
theorem bt_Se_neverFalls_2 {l : Launch} {K : KT} {X : XT} (hX : Cx l K 2 2 0 0 X prog_11_method_30_code "SeriesArchive$Series" (some .boolean) [] L_Se_neverFalls) (v0 : Nat) (hv0 : isSer v0) : ∀ (n : Nat) (v1 : Int32) (M : Mm), VV l K 2 2 0 0 rvI X (fn_Se_neverFalls_2 v0 n v1 M) 0 0 M 2 [(0, .ref (kA K v0)), (1, .int v1)] [] := by
  intro n
  induction n with
  | zero => intro v1 M; exact VV_none
  | succ n ih =>
    intro v1 M
    rw [fn_Se_neverFalls_2]
    refine V_iload_n hX (j := 1) (hj := rfl) 2 3 rfl rfl ?_
    refine V_aload_n hX (j := 0) (hj := rfl) 3 4 rfl rfl ?_
    refine V_get hX 4 7 v0 (.int (M v0 1)) fl_Se_15 rfl rfl (loc_ser hv0) (ent_ser K _ hv0) rfl ?_
    refine V_icmp_ge hX 5 10 33 rfl rfl (by decide) (fun c7 => ?_) (fun c7 => ?_)
    · refine V_iconst hX (v := 1) (hv := by decide) 19 34 rfl rfl ?_
      exact V_zret hX 20 rfl rfl (Nat.le_of_ble_eq_true rfl) (Nat.le_of_ble_eq_true rfl) rfl
    · refine V_aload_n hX (j := 0) (hj := rfl) 6 11 rfl rfl ?_
      refine V_iload_n hX (j := 1) (hj := rfl) 7 12 rfl rfl ?_
      refine V_callI hX 15 0 0 rfl rfl rfl (Nat.le_of_ble_eq_true rfl) (Nat.le_of_ble_eq_true rfl) (VR_V hX 8 (ct_Se_at (cx_t hX) K v0 v1 M) my_Se_at mi_Se_at ms_Se_at ml_Se_31 (Nat.le_of_ble_eq_true rfl) (Nat.le_of_ble_eq_true rfl) (loc_ser hv0) (ent_ser K _ hv0) rfl rfl rfl (Nat.le_of_ble_eq_true rfl) rfl (Nat.le_of_ble_eq_true rfl) (Nat.le_of_ble_eq_true rfl)) (fun r12 M12 => ?_)
      refine V_aload_n hX (j := 0) (hj := rfl) 9 16 rfl rfl ?_
      refine V_iload_n hX (j := 1) (hj := rfl) 10 17 rfl rfl ?_
      refine V_iconst hX (v := 1) (hv := by decide) 11 18 rfl rfl ?_
      refine V_isub hX 12 19 rfl rfl ?_
      refine V_callI hX 22 0 0 rfl rfl rfl (Nat.le_of_ble_eq_true rfl) (Nat.le_of_ble_eq_true rfl) (VR_V hX 13 (ct_Se_at (cx_t hX) K v0 (v1 - 1) M12) my_Se_at mi_Se_at ms_Se_at ml_Se_31 (Nat.le_of_ble_eq_true rfl) (Nat.le_of_ble_eq_true rfl) (loc_ser hv0) (ent_ser K _ hv0) rfl rfl rfl (Nat.le_of_ble_eq_true rfl) rfl (Nat.le_of_ble_eq_true rfl) (Nat.le_of_ble_eq_true rfl)) (fun r19 M19 => ?_)
      refine V_icmp_ge hX 14 25 27 rfl rfl (by decide) (fun c22 => ?_) (fun c22 => ?_)
      · refine V_iincL hX 17 30 1 rfl rfl rfl rfl (Nat.le_of_ble_eq_true rfl) (fun x1_27 hx1_27 => ?_)
        refine VV_lc [(1, .int x1_27), (0, .ref (kA K v0))] rfl ?_
        refine V_goto hX 18 2 rfl (by decide) ?_
        refine VV_sub [1, 0] rfl ?_
        exact ih x1_27 M19
      · refine V_iconst hX (v := 0) (hv := by decide) 15 26 rfl rfl ?_
        exact V_zret hX 16 rfl rfl (Nat.le_of_ble_eq_true rfl) (Nat.le_of_ble_eq_true rfl) rfl
set_option maxRecDepth 20000 in
theorem ct_Se_neverFalls {l : Launch} (hl : l.stackTraces = false) (K : KT) (v0 : Nat) (M : Mm) : CTp l K y_Se_neverFalls (Cond.code y_Se_neverFalls prog_11_method_30_code 2 (some .boolean)) rvI 2 0 0 [.ref (kA K v0)] M (fn_Se_neverFalls v0 M) := by
  refine CTp_of (L := L_Se_neverFalls) (lc := [(0, .ref (kA K v0))]) (by decide +kernel) dec_Se_neverFalls hl rfl (Nat.le_of_ble_eq_true rfl) (fun X hX => ?_)
  unfold fn_Se_neverFalls
  refine VV_grd (fun hv0 => ?_)
  refine V_iconst hX (v := 1) (hv := by decide) 0 1 rfl rfl ?_
  refine V_istore_n hX 1 2 [(1, .int 1), (0, .ref (kA K v0))] rfl rfl (Nat.le_of_ble_eq_true rfl) rfl ?_
  refine VV_sub [1, 0] rfl ?_
  exact bt_Se_neverFalls_2 hX v0 hv0 fuel0 1 M
set_option maxRecDepth 20000 in
theorem ct_St_appendedCount {l : Launch} (hl : l.stackTraces = false) (K : KT) (M : Mm) : CTp l K y_St_appendedCount (Cond.code y_St_appendedCount prog_12_method_3_code 1 (some .int)) rvI 1 0 0 [.ref (kA K 1)] M (fn_St_appendedCount M) := by
  refine CTp_of (L := L_St_appendedCount) (lc := [(0, .ref (kA K 1))]) (by decide +kernel) dec_St_appendedCount hl rfl (Nat.le_of_ble_eq_true rfl) (fun X hX => ?_)
  unfold fn_St_appendedCount
  refine V_aload_n hX (j := 0) (hj := rfl) 0 1 rfl rfl ?_
  refine V_get hX 1 4 1 (.int (M 1 5)) fl_St_30 rfl rfl (by decide) (ent_1 K _) rfl ?_
  exact V_iret hX 2 rfl (Nat.le_of_ble_eq_true rfl) (Nat.le_of_ble_eq_true rfl) rfl
set_option maxRecDepth 20000 in
theorem bt_St_valueCount_4 {l : Launch} {K : KT} {X : XT} (hX : Cx l K 2 3 0 0 X prog_12_method_4_code "SeriesArchive$State" (some .int) [] L_St_valueCount) : ∀ (n : Nat) (v1 : Int32) (v2 : Int32) (M : Mm), VV l K 2 3 0 0 rvI X (fn_St_valueCount_4 n v1 v2 M) 0 0 M 4 [(0, .ref (kA K 1)), (1, .int v1), (2, .int v2)] [] := by
  intro n
  induction n with
  | zero => intro v1 v2 M; exact VV_none
  | succ n ih =>
    intro v1 v2 M
    rw [fn_St_valueCount_4]
    refine V_iload_n hX (j := 2) (hj := rfl) 4 5 rfl rfl ?_
    refine V_iconst hX (v := 4) (hv := by decide) 5 6 rfl rfl ?_
    refine V_icmp_ge hX 6 9 26 rfl rfl (by decide) (fun c6 => ?_) (fun c6 => ?_)
    · refine V_iload_n hX (j := 1) (hj := rfl) 16 27 rfl rfl ?_
      exact V_iret hX 17 rfl (Nat.le_of_ble_eq_true rfl) (Nat.le_of_ble_eq_true rfl) rfl
    · refine V_iload_n hX (j := 1) (hj := rfl) 7 10 rfl rfl ?_
      refine V_aload_n hX (j := 0) (hj := rfl) 8 11 rfl rfl ?_
      refine V_iload_n hX (j := 2) (hj := rfl) 9 12 rfl rfl ?_
      refine V_callL hX 15 0 0 rfl rfl rfl (Nat.le_of_ble_eq_true rfl) (Nat.le_of_ble_eq_true rfl) (VR_V hX 10 (ct_St_at (cx_t hX) K v2 M) my_St_at mi_St_at ms_St_at ml_St_34 (Nat.le_of_ble_eq_true rfl) (Nat.le_of_ble_eq_true rfl) (by decide) (ent_1 K _) rfl rfl rfl (Nat.le_of_ble_eq_true rfl) rfl (Nat.le_of_ble_eq_true rfl) (Nat.le_of_ble_eq_true rfl)) (fun r12 M12 => VV_grd (fun hr12 => ?_))
      refine V_callI hX 18 0 0 rfl rfl rfl (Nat.le_of_ble_eq_true rfl) (Nat.le_of_ble_eq_true rfl) (VR_V hX 11 (ct_Se_size (cx_t hX) K r12 M12) my_Se_size mi_Se_size ms_Se_size ml_St_38 (Nat.le_of_ble_eq_true rfl) (Nat.le_of_ble_eq_true rfl) (loc_ser hr12) (ent_ser K _ hr12) rfl rfl rfl (Nat.le_of_ble_eq_true rfl) rfl (Nat.le_of_ble_eq_true rfl) (Nat.le_of_ble_eq_true rfl)) (fun r15 M15 => ?_)
      refine V_iadd hX 12 19 rfl rfl ?_
      refine VV_li (fun x1_19 hx1_19 => ?_)
      refine V_istore_n hX 13 20 [(1, .int x1_19), (0, .ref (kA K 1)), (2, .int v2)] rfl rfl (Nat.le_of_ble_eq_true rfl) rfl ?_
      refine V_iincL hX 14 23 2 rfl rfl rfl rfl (Nat.le_of_ble_eq_true rfl) (fun x2_20 hx2_20 => ?_)
      refine VV_lc [(2, .int x2_20), (1, .int x1_19), (0, .ref (kA K 1))] rfl ?_
      refine V_goto hX 15 4 rfl (by decide) ?_
      refine VV_sub [2, 1, 0] rfl ?_
      exact ih x1_19 x2_20 M15
set_option maxRecDepth 20000 in
theorem ct_St_valueCount {l : Launch} (hl : l.stackTraces = false) (K : KT) (M : Mm) : CTp l K y_St_valueCount (Cond.code y_St_valueCount prog_12_method_4_code 3 (some .int)) rvI 2 0 0 [.ref (kA K 1)] M (fn_St_valueCount M) := by
  refine CTp_of (L := L_St_valueCount) (lc := [(0, .ref (kA K 1))]) (by decide +kernel) dec_St_valueCount hl rfl (Nat.le_of_ble_eq_true rfl) (fun X hX => ?_)
  unfold fn_St_valueCount
  refine V_iconst hX (v := 0) (hv := by decide) 0 1 rfl rfl ?_
  refine V_istore_n hX 1 2 [(1, .int 0), (0, .ref (kA K 1))] rfl rfl (Nat.le_of_ble_eq_true rfl) rfl ?_
  refine V_iconst hX (v := 0) (hv := by decide) 2 3 rfl rfl ?_
  refine V_istore_n hX 3 4 [(2, .int 0), (1, .int 0), (0, .ref (kA K 1))] rfl rfl (Nat.le_of_ble_eq_true rfl) rfl ?_
  refine VV_sub [2, 1, 0] rfl ?_
  exact bt_St_valueCount_4 hX fuel0 0 0 M
set_option maxRecDepth 20000 in
theorem bt_St_positiveCount_4 {l : Launch} {K : KT} {X : XT} (hX : Cx l K 3 3 0 0 X prog_12_method_5_code "SeriesArchive$State" (some .int) [] L_St_positiveCount) : ∀ (n : Nat) (v1 : Int32) (v2 : Int32) (M : Mm), VV l K 3 3 0 0 rvI X (fn_St_positiveCount_4 n v1 v2 M) 0 0 M 4 [(0, .ref (kA K 1)), (1, .int v1), (2, .int v2)] [] := by
  intro n
  induction n with
  | zero => intro v1 v2 M; exact VV_none
  | succ n ih =>
    intro v1 v2 M
    rw [fn_St_positiveCount_4]
    refine V_iload_n hX (j := 2) (hj := rfl) 4 5 rfl rfl ?_
    refine V_iconst hX (v := 4) (hv := by decide) 5 6 rfl rfl ?_
    refine V_icmp_ge hX 6 9 27 rfl rfl (by decide) (fun c6 => ?_) (fun c6 => ?_)
    · refine V_iload_n hX (j := 1) (hj := rfl) 17 28 rfl rfl ?_
      exact V_iret hX 18 rfl (Nat.le_of_ble_eq_true rfl) (Nat.le_of_ble_eq_true rfl) rfl
    · refine V_iload_n hX (j := 1) (hj := rfl) 7 10 rfl rfl ?_
      refine V_aload_n hX (j := 0) (hj := rfl) 8 11 rfl rfl ?_
      refine V_iload_n hX (j := 2) (hj := rfl) 9 12 rfl rfl ?_
      refine V_callL hX 15 0 0 rfl rfl rfl (Nat.le_of_ble_eq_true rfl) (Nat.le_of_ble_eq_true rfl) (VR_V hX 10 (ct_St_at (cx_t hX) K v2 M) my_St_at mi_St_at ms_St_at ml_St_34 (Nat.le_of_ble_eq_true rfl) (Nat.le_of_ble_eq_true rfl) (by decide) (ent_1 K _) rfl rfl rfl (Nat.le_of_ble_eq_true rfl) rfl (Nat.le_of_ble_eq_true rfl) (Nat.le_of_ble_eq_true rfl)) (fun r12 M12 => VV_grd (fun hr12 => ?_))
      refine V_iconst hX (v := 0) (hv := by decide) 11 16 rfl rfl ?_
      refine V_callI hX 19 0 0 rfl rfl rfl (Nat.le_of_ble_eq_true rfl) (Nat.le_of_ble_eq_true rfl) (VR_V hX 12 (ct_Se_countOver (cx_t hX) K r12 0 M12) my_Se_countOver mi_Se_countOver ms_Se_countOver ml_St_42 (Nat.le_of_ble_eq_true rfl) (Nat.le_of_ble_eq_true rfl) (loc_ser hr12) (ent_ser K _ hr12) rfl rfl rfl (Nat.le_of_ble_eq_true rfl) rfl (Nat.le_of_ble_eq_true rfl) (Nat.le_of_ble_eq_true rfl)) (fun r16 M16 => ?_)
      refine V_iadd hX 13 20 rfl rfl ?_
      refine VV_li (fun x1_20 hx1_20 => ?_)
      refine V_istore_n hX 14 21 [(1, .int x1_20), (0, .ref (kA K 1)), (2, .int v2)] rfl rfl (Nat.le_of_ble_eq_true rfl) rfl ?_
      refine V_iincL hX 15 24 2 rfl rfl rfl rfl (Nat.le_of_ble_eq_true rfl) (fun x2_21 hx2_21 => ?_)
      refine VV_lc [(2, .int x2_21), (1, .int x1_20), (0, .ref (kA K 1))] rfl ?_
      refine V_goto hX 16 4 rfl (by decide) ?_
      refine VV_sub [2, 1, 0] rfl ?_
      exact ih x1_20 x2_21 M16
set_option maxRecDepth 20000 in
theorem ct_St_positiveCount {l : Launch} (hl : l.stackTraces = false) (K : KT) (M : Mm) : CTp l K y_St_positiveCount (Cond.code y_St_positiveCount prog_12_method_5_code 3 (some .int)) rvI 3 0 0 [.ref (kA K 1)] M (fn_St_positiveCount M) := by
  refine CTp_of (L := L_St_positiveCount) (lc := [(0, .ref (kA K 1))]) (by decide +kernel) dec_St_positiveCount hl rfl (Nat.le_of_ble_eq_true rfl) (fun X hX => ?_)
  unfold fn_St_positiveCount
  refine V_iconst hX (v := 0) (hv := by decide) 0 1 rfl rfl ?_
  refine V_istore_n hX 1 2 [(1, .int 0), (0, .ref (kA K 1))] rfl rfl (Nat.le_of_ble_eq_true rfl) rfl ?_
  refine V_iconst hX (v := 0) (hv := by decide) 2 3 rfl rfl ?_
  refine V_istore_n hX 3 4 [(2, .int 0), (1, .int 0), (0, .ref (kA K 1))] rfl rfl (Nat.le_of_ble_eq_true rfl) rfl ?_
  refine VV_sub [2, 1, 0] rfl ?_
  exact bt_St_positiveCount_4 hX fuel0 0 0 M
set_option maxRecDepth 20000 in
theorem ct_St_argumentFault {l : Launch} (hl : l.stackTraces = false) (K : KT) (v0 : Int32) (M : Mm) : CTp l K y_St_argumentFault (Cond.code y_St_argumentFault prog_12_method_9_code 1 (some (.object "SeriesArchive$Fault"))) (fun z => some (.ref (kA K (1100 + z)))) 1 0 0 [.int v0] M (fn_St_argumentFault v0 M) := by
  refine CTp_of (L := L_St_argumentFault) (lc := [(0, .int v0)]) (by decide +kernel) dec_St_argumentFault hl rfl (Nat.le_of_ble_eq_true rfl) (fun X hX => ?_)
  unfold fn_St_argumentFault
  refine V_iload_n hX (j := 0) (hj := rfl) 0 1 rfl rfl ?_
  refine V_if_eq hX 1 4 10 rfl rfl (by decide) (fun c1 => ?_) (fun c1 => ?_)
  · refine V_fault hX 4 13 2 (by decide) rfl fk_St_85 rfl rfl ?_
    exact V_aret hX 5 "SeriesArchive$Fault" rfl rfl (Nat.le_of_ble_eq_true rfl) (Nat.le_of_ble_eq_true rfl) rfl
  · refine V_fault hX 2 7 0 (by decide) rfl fk_St_102 rfl rfl ?_
    refine V_goto hX 3 13 rfl (by decide) ?_
    exact V_aret hX 5 "SeriesArchive$Fault" rfl rfl (Nat.le_of_ble_eq_true rfl) (Nat.le_of_ble_eq_true rfl) rfl
set_option maxRecDepth 20000 in
theorem ct_St_stateFault {l : Launch} (hl : l.stackTraces = false) (K : KT) (v0 : Int32) (M : Mm) : CTp l K y_St_stateFault (Cond.code y_St_stateFault prog_12_method_10_code 1 (some (.object "SeriesArchive$Fault"))) (fun z => some (.ref (kA K (1100 + z)))) 1 0 0 [.int v0] M (fn_St_stateFault v0 M) := by
  refine CTp_of (L := L_St_stateFault) (lc := [(0, .int v0)]) (by decide +kernel) dec_St_stateFault hl rfl (Nat.le_of_ble_eq_true rfl) (fun X hX => ?_)
  unfold fn_St_stateFault
  refine V_iload_n hX (j := 0) (hj := rfl) 0 1 rfl rfl ?_
  refine V_if_eq hX 1 4 10 rfl rfl (by decide) (fun c1 => ?_) (fun c1 => ?_)
  · refine V_fault hX 4 13 3 (by decide) rfl fk_St_111 rfl rfl ?_
    exact V_aret hX 5 "SeriesArchive$Fault" rfl rfl (Nat.le_of_ble_eq_true rfl) (Nat.le_of_ble_eq_true rfl) rfl
  · refine V_fault hX 2 7 0 (by decide) rfl fk_St_102 rfl rfl ?_
    refine V_goto hX 3 13 rfl (by decide) ?_
    exact V_aret hX 5 "SeriesArchive$Fault" rfl rfl (Nat.le_of_ble_eq_true rfl) (Nat.le_of_ble_eq_true rfl) rfl
set_option maxRecDepth 20000 in
theorem ct_SA_isSlot {l : Launch} (hl : l.stackTraces = false) (K : KT) (v0 : Int32) (M : Mm) : CTp l K y_SA_isSlot (Cond.code y_SA_isSlot prog_1_method_75_code 1 (some .boolean)) rvI 1 0 0 [.int v0] M (fn_SA_isSlot v0 M) := by
  refine CTp_of (L := L_SA_isSlot) (lc := [(0, .int v0)]) (by decide +kernel) dec_SA_isSlot hl rfl (Nat.le_of_ble_eq_true rfl) (fun X hX => ?_)
  unfold fn_SA_isSlot
  refine V_iload_n hX (j := 0) (hj := rfl) 0 1 rfl rfl ?_
  refine V_if_lt hX 1 4 13 rfl rfl (by decide) (fun c1 => ?_) (fun c1 => ?_)
  · refine V_iconst hX (v := 0) (hv := by decide) 7 14 rfl rfl ?_
    exact V_zret hX 8 rfl rfl (Nat.le_of_ble_eq_true rfl) (Nat.le_of_ble_eq_true rfl) rfl
  · refine V_iload_n hX (j := 0) (hj := rfl) 2 5 rfl rfl ?_
    refine V_iconst hX (v := 4) (hv := by decide) 3 6 rfl rfl ?_
    refine V_icmp_ge hX 4 9 13 rfl rfl (by decide) (fun c6 => ?_) (fun c6 => ?_)
    · refine V_iconst hX (v := 0) (hv := by decide) 7 14 rfl rfl ?_
      exact V_zret hX 8 rfl rfl (Nat.le_of_ble_eq_true rfl) (Nat.le_of_ble_eq_true rfl) rfl
    · refine V_iconst hX (v := 1) (hv := by decide) 5 10 rfl rfl ?_
      refine V_goto hX 6 14 rfl (by decide) ?_
      exact V_zret hX 8 rfl rfl (Nat.le_of_ble_eq_true rfl) (Nat.le_of_ble_eq_true rfl) rfl
set_option maxRecDepth 20000 in
theorem bt_St_faultOf_102 {l : Launch} {K : KT} {X : XT} (hX : Cx l K 3 6 0 0 X prog_12_method_8_code "SeriesArchive$State" (some (.object "SeriesArchive$Fault")) [] L_St_faultOf) (s0 : Int32) (M : Mm) : VV l K 3 6 0 0 (fun z => some (.ref (kA K (1100 + z)))) X (fn_St_faultOf_102 s0 M) 0 0 M 102 [] [.int s0] := by
  unfold fn_St_faultOf_102
  refine V_callL hX 105 0 0 rfl rfl rfl (Nat.le_of_ble_eq_true rfl) (Nat.le_of_ble_eq_true rfl) (VR_S hX 25 (ct_St_stateFault (cx_t hX) K s0 M) my_St_stateFault mt_St_stateFault ml_St_92 (Nat.le_of_ble_eq_true rfl) (Nat.le_of_ble_eq_true rfl) rfl rfl (Nat.le_of_ble_eq_true rfl) rfl (Nat.le_of_ble_eq_true rfl) (Nat.le_of_ble_eq_true rfl)) (fun r102 M102 => VV_grd (fun hr102 => ?_))
  exact V_aret hX 26 "SeriesArchive$Fault" rfl rfl (Nat.le_of_ble_eq_true rfl) (Nat.le_of_ble_eq_true rfl) rfl
set_option maxRecDepth 20000 in
theorem bt_St_faultOf_149 {l : Launch} {K : KT} {X : XT} (hX : Cx l K 3 6 0 0 X prog_12_method_8_code "SeriesArchive$State" (some (.object "SeriesArchive$Fault")) [] L_St_faultOf) (s0 : Int32) (M : Mm) : VV l K 3 6 0 0 (fun z => some (.ref (kA K (1100 + z)))) X (fn_St_faultOf_149 s0 M) 0 0 M 149 [] [.int s0] := by
  unfold fn_St_faultOf_149
  refine V_callL hX 152 0 0 rfl rfl rfl (Nat.le_of_ble_eq_true rfl) (Nat.le_of_ble_eq_true rfl) (VR_S hX 47 (ct_St_argumentFault (cx_t hX) K s0 M) my_St_argumentFault mt_St_argumentFault ml_St_99 (Nat.le_of_ble_eq_true rfl) (Nat.le_of_ble_eq_true rfl) rfl rfl (Nat.le_of_ble_eq_true rfl) rfl (Nat.le_of_ble_eq_true rfl) (Nat.le_of_ble_eq_true rfl)) (fun r149 M149 => VV_grd (fun hr149 => ?_))
  exact V_aret hX 48 "SeriesArchive$Fault" rfl rfl (Nat.le_of_ble_eq_true rfl) (Nat.le_of_ble_eq_true rfl) rfl
set_option maxRecDepth 20000 in
theorem bt_St_faultOf_148 {l : Launch} {K : KT} {X : XT} (hX : Cx l K 3 6 0 0 X prog_12_method_8_code "SeriesArchive$State" (some (.object "SeriesArchive$Fault")) [] L_St_faultOf) (M : Mm) : VV l K 3 6 0 0 (fun z => some (.ref (kA K (1100 + z)))) X (fn_St_faultOf_148 M) 0 0 M 148 [] [] := by
  unfold fn_St_faultOf_148
  refine V_iconst hX (v := 0) (hv := by decide) 46 149 rfl rfl ?_
  exact bt_St_faultOf_149 hX 0 M
set_option maxRecDepth 20000 in
theorem bt_St_faultOf_209 {l : Launch} {K : KT} {X : XT} (hX : Cx l K 3 6 0 0 X prog_12_method_8_code "SeriesArchive$State" (some (.object "SeriesArchive$Fault")) [] L_St_faultOf) (s0 : Int32) (M : Mm) : VV l K 3 6 0 0 (fun z => some (.ref (kA K (1100 + z)))) X (fn_St_faultOf_209 s0 M) 0 0 M 209 [] [.int s0] := by
  unfold fn_St_faultOf_209
  refine V_callL hX 212 0 0 rfl rfl rfl (Nat.le_of_ble_eq_true rfl) (Nat.le_of_ble_eq_true rfl) (VR_S hX 75 (ct_St_argumentFault (cx_t hX) K s0 M) my_St_argumentFault mt_St_argumentFault ml_St_99 (Nat.le_of_ble_eq_true rfl) (Nat.le_of_ble_eq_true rfl) rfl rfl (Nat.le_of_ble_eq_true rfl) rfl (Nat.le_of_ble_eq_true rfl) (Nat.le_of_ble_eq_true rfl)) (fun r209 M209 => VV_grd (fun hr209 => ?_))
  exact V_aret hX 76 "SeriesArchive$Fault" rfl rfl (Nat.le_of_ble_eq_true rfl) (Nat.le_of_ble_eq_true rfl) rfl
set_option maxRecDepth 20000 in
theorem bt_St_faultOf_208 {l : Launch} {K : KT} {X : XT} (hX : Cx l K 3 6 0 0 X prog_12_method_8_code "SeriesArchive$State" (some (.object "SeriesArchive$Fault")) [] L_St_faultOf) (M : Mm) : VV l K 3 6 0 0 (fun z => some (.ref (kA K (1100 + z)))) X (fn_St_faultOf_208 M) 0 0 M 208 [] [] := by
  unfold fn_St_faultOf_208
  refine V_iconst hX (v := 0) (hv := by decide) 74 209 rfl rfl ?_
  exact bt_St_faultOf_209 hX 0 M
set_option maxRecDepth 20000 in
theorem bt_St_faultOf_248 {l : Launch} {K : KT} {X : XT} (hX : Cx l K 3 6 0 0 X prog_12_method_8_code "SeriesArchive$State" (some (.object "SeriesArchive$Fault")) [] L_St_faultOf) (s0 : Int32) (M : Mm) : VV l K 3 6 0 0 (fun z => some (.ref (kA K (1100 + z)))) X (fn_St_faultOf_248 s0 M) 0 0 M 248 [] [.int s0] := by
  unfold fn_St_faultOf_248
  refine V_callL hX 251 0 0 rfl rfl rfl (Nat.le_of_ble_eq_true rfl) (Nat.le_of_ble_eq_true rfl) (VR_S hX 93 (ct_St_argumentFault (cx_t hX) K s0 M) my_St_argumentFault mt_St_argumentFault ml_St_99 (Nat.le_of_ble_eq_true rfl) (Nat.le_of_ble_eq_true rfl) rfl rfl (Nat.le_of_ble_eq_true rfl) rfl (Nat.le_of_ble_eq_true rfl) (Nat.le_of_ble_eq_true rfl)) (fun r248 M248 => VV_grd (fun hr248 => ?_))
  exact V_aret hX 94 "SeriesArchive$Fault" rfl rfl (Nat.le_of_ble_eq_true rfl) (Nat.le_of_ble_eq_true rfl) rfl
set_option maxRecDepth 20000 in
theorem bt_St_faultOf_247 {l : Launch} {K : KT} {X : XT} (hX : Cx l K 3 6 0 0 X prog_12_method_8_code "SeriesArchive$State" (some (.object "SeriesArchive$Fault")) [] L_St_faultOf) (M : Mm) : VV l K 3 6 0 0 (fun z => some (.ref (kA K (1100 + z)))) X (fn_St_faultOf_247 M) 0 0 M 247 [] [] := by
  unfold fn_St_faultOf_247
  refine V_iconst hX (v := 0) (hv := by decide) 92 248 rfl rfl ?_
  exact bt_St_faultOf_248 hX 0 M
set_option maxRecDepth 20000 in
theorem ct_St_faultOf {l : Launch} (hl : l.stackTraces = false) (K : KT) (v1 : Nat) (v2 : Int32) (v3 : Int32) (v4 : Int32) (M : Mm) : CTp l K y_St_faultOf (Cond.code y_St_faultOf prog_12_method_8_code 6 (some (.object "SeriesArchive$Fault"))) (fun z => some (.ref (kA K (1100 + z)))) 3 0 0 [.ref (kA K 1), .ref (kA K (1000 + v1)), .int v2, .int v3, .int v4] M (fn_St_faultOf v1 v2 v3 v4 M) := by
  refine CTp_of (L := L_St_faultOf) (lc := [(0, .ref (kA K 1)), (1, .ref (kA K (1000 + v1))), (2, .int v2), (3, .int v3), (4, .int v4)]) (by decide +kernel) dec_St_faultOf hl rfl (Nat.le_of_ble_eq_true rfl) (fun X hX => ?_)
  unfold fn_St_faultOf
  refine VV_grd (fun hv1 => ?_)
  refine V_iload_n hX (j := 2) (hj := rfl) 0 1 rfl rfl ?_
  refine V_callI hX 4 0 0 rfl rfl rfl (Nat.le_of_ble_eq_true rfl) (Nat.le_of_ble_eq_true rfl) (VR_SN hX 1 (ct_SA_isSlot (cx_t hX) K v2 M) my_SA_isSlot mt_SA_isSlot mn_St_61 (Nat.le_of_ble_eq_true rfl) (Nat.le_of_ble_eq_true rfl) rfl rfl (Nat.le_of_ble_eq_true rfl) rfl (Nat.le_of_ble_eq_true rfl) (Nat.le_of_ble_eq_true rfl)) (fun r1 M1 => ?_)
  refine V_if_ne hX 2 7 11 rfl rfl (by decide) (fun c4 => ?_) (fun c4 => ?_)
  · refine V_aload_n hX (j := 0) (hj := rfl) 5 12 rfl rfl ?_
    refine V_iload_n hX (j := 2) (hj := rfl) 6 13 rfl rfl ?_
    refine V_callL hX 16 0 0 rfl rfl rfl (Nat.le_of_ble_eq_true rfl) (Nat.le_of_ble_eq_true rfl) (VR_V hX 7 (ct_St_at (cx_t hX) K v2 M1) my_St_at mi_St_at ms_St_at ml_St_34 (Nat.le_of_ble_eq_true rfl) (Nat.le_of_ble_eq_true rfl) (by decide) (ent_1 K _) rfl rfl rfl (Nat.le_of_ble_eq_true rfl) rfl (Nat.le_of_ble_eq_true rfl) (Nat.le_of_ble_eq_true rfl)) (fun r13 M13 => VV_grd (fun hr13 => ?_))
    refine V_astore hX 8 18 [(5, .ref (kA K r13)), (0, .ref (kA K 1)), (1, .ref (kA K (1000 + v1))), (2, .int v2), (3, .int v3), (4, .int v4)] rfl rfl (Nat.le_of_ble_eq_true rfl) rfl ?_
    refine V_sw hX 9 21 fk_St_71 rfl rfl ?_
    refine V_aload_n hX (j := 2) (hj := rfl) 10 22 rfl rfl ?_
    refine V_ord hX 11 25 hv1 or_St_77 (Nat.le_of_ble_eq_true rfl) (Nat.le_of_ble_eq_true rfl) (Nat.le_of_ble_eq_true rfl) (Nat.le_of_ble_eq_true rfl) rfl rfl ?_
    refine V_swld hX 12 26 hv1 rfl rfl ?_
    refine VV_ite (fun e26_0 => ?_) (fun n26_0 => ?_)
    · refine V_tabIn hX 13 76 1 e26_0 (by decide) rfl (by decide) (by decide) rfl (by decide) ?_
      refine V_iload_n hX (j := 4) (hj := rfl) 14 77 rfl rfl ?_
      refine V_callI hX 80 0 0 rfl rfl rfl (Nat.le_of_ble_eq_true rfl) (Nat.le_of_ble_eq_true rfl) (VR_SN hX 15 (ct_SA_isValue (cx_t hX) K v3 M13) my_SA_isValue mt_SA_isValue mn_St_82 (Nat.le_of_ble_eq_true rfl) (Nat.le_of_ble_eq_true rfl) rfl rfl (Nat.le_of_ble_eq_true rfl) rfl (Nat.le_of_ble_eq_true rfl) (Nat.le_of_ble_eq_true rfl)) (fun r77 M77 => ?_)
      refine V_if_ne hX 16 83 89 rfl rfl (by decide) (fun c80 => ?_) (fun c80 => ?_)
      · refine V_aload hX (j := 0) (hj := rfl) 19 91 rfl rfl ?_
        refine V_callI hX 94 0 0 rfl rfl rfl (Nat.le_of_ble_eq_true rfl) (Nat.le_of_ble_eq_true rfl) (VR_V hX 20 (ct_Se_isFull (cx_t hX) K r13 M77) my_Se_isFull mi_Se_isFull ms_Se_isFull ml_St_88 (Nat.le_of_ble_eq_true rfl) (Nat.le_of_ble_eq_true rfl) (loc_ser hr13) (ent_ser K _ hr13) rfl rfl rfl (Nat.le_of_ble_eq_true rfl) rfl (Nat.le_of_ble_eq_true rfl) (Nat.le_of_ble_eq_true rfl)) (fun r91 M91 => ?_)
        refine V_if_ne hX 21 97 101 rfl rfl (by decide) (fun c94 => ?_) (fun c94 => ?_)
        · refine V_iconst hX (v := 0) (hv := by decide) 24 102 rfl rfl ?_
          refine VV_sub [] rfl ?_
          exact bt_St_faultOf_102 hX 0 M91
        · refine V_iconst hX (v := 1) (hv := by decide) 22 98 rfl rfl ?_
          refine V_goto hX 23 102 rfl (by decide) ?_
          refine VV_sub [] rfl ?_
          exact bt_St_faultOf_102 hX 1 M91
      · refine V_fault hX 17 86 2 (by decide) rfl fk_St_85 rfl rfl ?_
        refine V_goto hX 18 105 rfl (by decide) ?_
        exact V_aret hX 26 "SeriesArchive$Fault" rfl rfl (Nat.le_of_ble_eq_true rfl) (Nat.le_of_ble_eq_true rfl) rfl
    refine VV_ite (fun e26_1 => ?_) (fun n26_1 => ?_)
    · refine V_tabIn hX 13 106 2 e26_1 (by decide) rfl (by decide) (by decide) rfl (by decide) ?_
      refine V_aload hX (j := 0) (hj := rfl) 27 108 rfl rfl ?_
      refine V_iload_n hX (j := 4) (hj := rfl) 28 109 rfl rfl ?_
      refine V_callI hX 112 0 0 rfl rfl rfl (Nat.le_of_ble_eq_true rfl) (Nat.le_of_ble_eq_true rfl) (VR_V hX 29 (ct_Se_has (cx_t hX) K r13 v3 M13) my_Se_has mi_Se_has ms_Se_has ml_St_96 (Nat.le_of_ble_eq_true rfl) (Nat.le_of_ble_eq_true rfl) (loc_ser hr13) (ent_ser K _ hr13) rfl rfl rfl (Nat.le_of_ble_eq_true rfl) rfl (Nat.le_of_ble_eq_true rfl) (Nat.le_of_ble_eq_true rfl)) (fun r109 M109 => ?_)
      refine V_if_ne hX 30 115 121 rfl rfl (by decide) (fun c112 => ?_) (fun c112 => ?_)
      · refine V_iload hX (j := 5) (hj := rfl) 33 123 rfl rfl ?_
        refine V_callI hX 126 0 0 rfl rfl rfl (Nat.le_of_ble_eq_true rfl) (Nat.le_of_ble_eq_true rfl) (VR_SN hX 34 (ct_SA_isValue (cx_t hX) K v4 M109) my_SA_isValue mt_SA_isValue mn_St_82 (Nat.le_of_ble_eq_true rfl) (Nat.le_of_ble_eq_true rfl) rfl rfl (Nat.le_of_ble_eq_true rfl) rfl (Nat.le_of_ble_eq_true rfl) (Nat.le_of_ble_eq_true rfl)) (fun r123 M123 => ?_)
        refine V_callL hX 129 0 0 rfl rfl rfl (Nat.le_of_ble_eq_true rfl) (Nat.le_of_ble_eq_true rfl) (VR_S hX 35 (ct_St_argumentFault (cx_t hX) K r123 M123) my_St_argumentFault mt_St_argumentFault ml_St_99 (Nat.le_of_ble_eq_true rfl) (Nat.le_of_ble_eq_true rfl) rfl rfl (Nat.le_of_ble_eq_true rfl) rfl (Nat.le_of_ble_eq_true rfl) (Nat.le_of_ble_eq_true rfl)) (fun r126 M126 => VV_grd (fun hr126 => ?_))
        exact V_aret hX 36 "SeriesArchive$Fault" rfl rfl (Nat.le_of_ble_eq_true rfl) (Nat.le_of_ble_eq_true rfl) rfl
      · refine V_fault hX 31 118 1 (by decide) rfl fk_St_65 rfl rfl ?_
        refine V_goto hX 32 129 rfl (by decide) ?_
        exact V_aret hX 36 "SeriesArchive$Fault" rfl rfl (Nat.le_of_ble_eq_true rfl) (Nat.le_of_ble_eq_true rfl) rfl
    refine VV_ite (fun e26_2 => ?_) (fun n26_2 => ?_)
    · refine V_tabIn hX 13 130 3 e26_2 (by decide) rfl (by decide) (by decide) rfl (by decide) ?_
      refine V_iload_n hX (j := 4) (hj := rfl) 37 131 rfl rfl ?_
      refine V_iconst hX (v := 1) (hv := by decide) 38 132 rfl rfl ?_
      refine V_icmp_lt hX 39 135 148 rfl rfl (by decide) (fun c132 => ?_) (fun c132 => ?_)
      · refine VV_sub [] rfl ?_
        exact bt_St_faultOf_148 hX M13
      · refine V_iload_n hX (j := 4) (hj := rfl) 40 136 rfl rfl ?_
        refine V_aload hX (j := 0) (hj := rfl) 41 138 rfl rfl ?_
        refine V_callI hX 141 0 0 rfl rfl rfl (Nat.le_of_ble_eq_true rfl) (Nat.le_of_ble_eq_true rfl) (VR_V hX 42 (ct_Se_size (cx_t hX) K r13 M13) my_Se_size mi_Se_size ms_Se_size ml_St_38 (Nat.le_of_ble_eq_true rfl) (Nat.le_of_ble_eq_true rfl) (loc_ser hr13) (ent_ser K _ hr13) rfl rfl rfl (Nat.le_of_ble_eq_true rfl) rfl (Nat.le_of_ble_eq_true rfl) (Nat.le_of_ble_eq_true rfl)) (fun r138 M138 => ?_)
        refine V_icmp_gt hX 43 144 148 rfl rfl (by decide) (fun c141 => ?_) (fun c141 => ?_)
        · refine VV_sub [] rfl ?_
          exact bt_St_faultOf_148 hX M138
        · refine V_iconst hX (v := 1) (hv := by decide) 44 145 rfl rfl ?_
          refine V_goto hX 45 149 rfl (by decide) ?_
          refine VV_sub [] rfl ?_
          exact bt_St_faultOf_149 hX 1 M138
    refine VV_ite (fun e26_3 => ?_) (fun n26_3 => ?_)
    · refine V_tabIn hX 13 153 4 e26_3 (by decide) rfl (by decide) (by decide) rfl (by decide) ?_
      refine V_iload_n hX (j := 4) (hj := rfl) 49 154 rfl rfl ?_
      refine V_callI hX 157 0 0 rfl rfl rfl (Nat.le_of_ble_eq_true rfl) (Nat.le_of_ble_eq_true rfl) (VR_SN hX 50 (ct_SA_isSlot (cx_t hX) K v3 M13) my_SA_isSlot mt_SA_isSlot mn_St_61 (Nat.le_of_ble_eq_true rfl) (Nat.le_of_ble_eq_true rfl) rfl rfl (Nat.le_of_ble_eq_true rfl) rfl (Nat.le_of_ble_eq_true rfl) (Nat.le_of_ble_eq_true rfl)) (fun r154 M154 => ?_)
      refine V_if_eq hX 51 160 166 rfl rfl (by decide) (fun c157 => ?_) (fun c157 => ?_)
      · refine V_fault hX 54 169 1 (by decide) rfl fk_St_65 rfl rfl ?_
        exact V_aret hX 55 "SeriesArchive$Fault" rfl rfl (Nat.le_of_ble_eq_true rfl) (Nat.le_of_ble_eq_true rfl) rfl
      · refine V_fault hX 52 163 0 (by decide) rfl fk_St_102 rfl rfl ?_
        refine V_goto hX 53 169 rfl (by decide) ?_
        exact V_aret hX 55 "SeriesArchive$Fault" rfl rfl (Nat.le_of_ble_eq_true rfl) (Nat.le_of_ble_eq_true rfl) rfl
    refine VV_ite (fun e26_4 => ?_) (fun n26_4 => ?_)
    · refine V_tabIn hX 13 170 5 e26_4 (by decide) rfl (by decide) (by decide) rfl (by decide) ?_
      refine V_iload_n hX (j := 4) (hj := rfl) 56 171 rfl rfl ?_
      refine V_callI hX 174 0 0 rfl rfl rfl (Nat.le_of_ble_eq_true rfl) (Nat.le_of_ble_eq_true rfl) (VR_SN hX 57 (ct_SA_isValue (cx_t hX) K v3 M13) my_SA_isValue mt_SA_isValue mn_St_82 (Nat.le_of_ble_eq_true rfl) (Nat.le_of_ble_eq_true rfl) rfl rfl (Nat.le_of_ble_eq_true rfl) rfl (Nat.le_of_ble_eq_true rfl) (Nat.le_of_ble_eq_true rfl)) (fun r171 M171 => ?_)
      refine V_if_ne hX 58 177 183 rfl rfl (by decide) (fun c174 => ?_) (fun c174 => ?_)
      · refine V_aload hX (j := 0) (hj := rfl) 61 185 rfl rfl ?_
        refine V_iload_n hX (j := 4) (hj := rfl) 62 186 rfl rfl ?_
        refine V_callI hX 189 0 0 rfl rfl rfl (Nat.le_of_ble_eq_true rfl) (Nat.le_of_ble_eq_true rfl) (VR_V hX 63 (ct_Se_canRise (cx_t hX) K r13 v3 M171) my_Se_canRise mi_Se_canRise ms_Se_canRise ml_St_105 (Nat.le_of_ble_eq_true rfl) (Nat.le_of_ble_eq_true rfl) (loc_ser hr13) (ent_ser K _ hr13) rfl rfl rfl (Nat.le_of_ble_eq_true rfl) rfl (Nat.le_of_ble_eq_true rfl) (Nat.le_of_ble_eq_true rfl)) (fun r186 M186 => ?_)
        refine V_callL hX 192 0 0 rfl rfl rfl (Nat.le_of_ble_eq_true rfl) (Nat.le_of_ble_eq_true rfl) (VR_S hX 64 (ct_St_stateFault (cx_t hX) K r186 M186) my_St_stateFault mt_St_stateFault ml_St_92 (Nat.le_of_ble_eq_true rfl) (Nat.le_of_ble_eq_true rfl) rfl rfl (Nat.le_of_ble_eq_true rfl) rfl (Nat.le_of_ble_eq_true rfl) (Nat.le_of_ble_eq_true rfl)) (fun r189 M189 => VV_grd (fun hr189 => ?_))
        exact V_aret hX 65 "SeriesArchive$Fault" rfl rfl (Nat.le_of_ble_eq_true rfl) (Nat.le_of_ble_eq_true rfl) rfl
      · refine V_fault hX 59 180 2 (by decide) rfl fk_St_85 rfl rfl ?_
        refine V_goto hX 60 192 rfl (by decide) ?_
        exact V_aret hX 65 "SeriesArchive$Fault" rfl rfl (Nat.le_of_ble_eq_true rfl) (Nat.le_of_ble_eq_true rfl) rfl
    refine VV_ite (fun e26_5 => ?_) (fun n26_5 => ?_)
    · refine V_tabIn hX 13 193 6 e26_5 (by decide) rfl (by decide) (by decide) rfl (by decide) ?_
      refine V_iload_n hX (j := 4) (hj := rfl) 66 194 rfl rfl ?_
      refine V_iconst hX (v := 1) (hv := by decide) 67 195 rfl rfl ?_
      refine V_icmp_lt hX 68 198 208 rfl rfl (by decide) (fun c195 => ?_) (fun c195 => ?_)
      · refine VV_sub [] rfl ?_
        exact bt_St_faultOf_208 hX M13
      · refine V_iload_n hX (j := 4) (hj := rfl) 69 199 rfl rfl ?_
        refine V_bipush hX (v := 9) (hv := by decide) 70 201 rfl rfl ?_
        refine V_icmp_gt hX 71 204 208 rfl rfl (by decide) (fun c201 => ?_) (fun c201 => ?_)
        · refine VV_sub [] rfl ?_
          exact bt_St_faultOf_208 hX M13
        · refine V_iconst hX (v := 1) (hv := by decide) 72 205 rfl rfl ?_
          refine V_goto hX 73 209 rfl (by decide) ?_
          refine VV_sub [] rfl ?_
          exact bt_St_faultOf_209 hX 1 M13
    refine VV_ite (fun e26_6 => ?_) (fun n26_6 => ?_)
    · refine V_tabIn hX 13 213 7 e26_6 (by decide) rfl (by decide) (by decide) rfl (by decide) ?_
      refine V_aload hX (j := 0) (hj := rfl) 77 215 rfl rfl ?_
      refine V_callI hX 218 0 0 rfl rfl rfl (Nat.le_of_ble_eq_true rfl) (Nat.le_of_ble_eq_true rfl) (VR_V hX 78 (ct_Se_hasSteps (cx_t hX) K r13 M13) my_Se_hasSteps mi_Se_hasSteps ms_Se_hasSteps ml_St_108 (Nat.le_of_ble_eq_true rfl) (Nat.le_of_ble_eq_true rfl) (loc_ser hr13) (ent_ser K _ hr13) rfl rfl rfl (Nat.le_of_ble_eq_true rfl) rfl (Nat.le_of_ble_eq_true rfl) (Nat.le_of_ble_eq_true rfl)) (fun r215 M215 => ?_)
      refine V_callL hX 221 0 0 rfl rfl rfl (Nat.le_of_ble_eq_true rfl) (Nat.le_of_ble_eq_true rfl) (VR_S hX 79 (ct_St_stateFault (cx_t hX) K r215 M215) my_St_stateFault mt_St_stateFault ml_St_92 (Nat.le_of_ble_eq_true rfl) (Nat.le_of_ble_eq_true rfl) rfl rfl (Nat.le_of_ble_eq_true rfl) rfl (Nat.le_of_ble_eq_true rfl) (Nat.le_of_ble_eq_true rfl)) (fun r218 M218 => VV_grd (fun hr218 => ?_))
      exact V_aret hX 80 "SeriesArchive$Fault" rfl rfl (Nat.le_of_ble_eq_true rfl) (Nat.le_of_ble_eq_true rfl) rfl
    refine VV_ite (fun e26_7 => ?_) (fun n26_7 => ?_)
    · refine V_tabIn hX 13 222 8 e26_7 (by decide) rfl (by decide) (by decide) rfl (by decide) ?_
      refine V_iload_n hX (j := 4) (hj := rfl) 81 223 rfl rfl ?_
      refine V_callI hX 226 0 0 rfl rfl rfl (Nat.le_of_ble_eq_true rfl) (Nat.le_of_ble_eq_true rfl) (VR_SN hX 82 (ct_SA_isValue (cx_t hX) K v3 M13) my_SA_isValue mt_SA_isValue mn_St_82 (Nat.le_of_ble_eq_true rfl) (Nat.le_of_ble_eq_true rfl) rfl rfl (Nat.le_of_ble_eq_true rfl) rfl (Nat.le_of_ble_eq_true rfl) (Nat.le_of_ble_eq_true rfl)) (fun r223 M223 => ?_)
      refine V_if_eq hX 83 229 247 rfl rfl (by decide) (fun c226 => ?_) (fun c226 => ?_)
      · refine VV_sub [] rfl ?_
        exact bt_St_faultOf_247 hX M223
      · refine V_iload hX (j := 5) (hj := rfl) 84 231 rfl rfl ?_
        refine V_callI hX 234 0 0 rfl rfl rfl (Nat.le_of_ble_eq_true rfl) (Nat.le_of_ble_eq_true rfl) (VR_SN hX 85 (ct_SA_isValue (cx_t hX) K v4 M223) my_SA_isValue mt_SA_isValue mn_St_82 (Nat.le_of_ble_eq_true rfl) (Nat.le_of_ble_eq_true rfl) rfl rfl (Nat.le_of_ble_eq_true rfl) rfl (Nat.le_of_ble_eq_true rfl) (Nat.le_of_ble_eq_true rfl)) (fun r231 M231 => ?_)
        refine V_if_eq hX 86 237 247 rfl rfl (by decide) (fun c234 => ?_) (fun c234 => ?_)
        · refine VV_sub [] rfl ?_
          exact bt_St_faultOf_247 hX M231
        · refine V_iload_n hX (j := 4) (hj := rfl) 87 238 rfl rfl ?_
          refine V_iload hX (j := 5) (hj := rfl) 88 240 rfl rfl ?_
          refine V_icmp_gt hX 89 243 247 rfl rfl (by decide) (fun c240 => ?_) (fun c240 => ?_)
          · refine VV_sub [] rfl ?_
            exact bt_St_faultOf_247 hX M231
          · refine V_iconst hX (v := 1) (hv := by decide) 90 244 rfl rfl ?_
            refine V_goto hX 91 248 rfl (by decide) ?_
            refine VV_sub [] rfl ?_
            exact bt_St_faultOf_248 hX 1 M231
    refine VV_ite (fun e26_8 => ?_) (fun n26_8 => ?_)
    · refine V_tabIn hX 13 252 9 e26_8 (by decide) rfl (by decide) (by decide) rfl (by decide) ?_
      refine V_fault hX 95 255 0 (by decide) rfl fk_St_102 rfl rfl ?_
      exact V_aret hX 96 "SeriesArchive$Fault" rfl rfl (Nat.le_of_ble_eq_true rfl) (Nat.le_of_ble_eq_true rfl) rfl
    refine V_tabOut hX 13 252 rfl (by have a0 := zz_ne (1) (by decide) n26_0; have a1 := zz_ne (2) (by decide) n26_1; have a2 := zz_ne (3) (by decide) n26_2; have a3 := zz_ne (4) (by decide) n26_3; have a4 := zz_ne (5) (by decide) n26_4; have a5 := zz_ne (6) (by decide) n26_5; have a6 := zz_ne (7) (by decide) n26_6; have a7 := zz_ne (8) (by decide) n26_7; have a8 := zz_ne (9) (by decide) n26_8; omega) (by decide) ?_
    refine V_fault hX 95 255 0 (by decide) rfl fk_St_102 rfl rfl ?_
    exact V_aret hX 96 "SeriesArchive$Fault" rfl rfl (Nat.le_of_ble_eq_true rfl) (Nat.le_of_ble_eq_true rfl) rfl
  · refine V_fault hX 3 10 1 (by decide) rfl fk_St_65 rfl rfl ?_
    exact V_aret hX 4 "SeriesArchive$Fault" rfl rfl (Nat.le_of_ble_eq_true rfl) (Nat.le_of_ble_eq_true rfl) rfl
set_option maxRecDepth 20000 in
theorem bt_St_apply_153 {l : Launch} {K : KT} {X : XT} (hX : Cx l K 5 6 0 0 X prog_12_method_11_code "SeriesArchive$State" (some .int) [] L_St_apply) (v3 : Int32) (v4 : Int32) (v5 : Nat) (hv5 : isSer v5) (M : Mm) : VV l K 5 6 0 0 rvI X (fn_St_apply_153 v3 v4 v5 M) 0 0 M 153 [(3, .int v3), (4, .int v4), (5, .ref (kA K v5))] [] := by
  unfold fn_St_apply_153
  refine V_aload hX (j := 2) (hj := rfl) 56 155 rfl rfl ?_
  refine V_iload_n hX (j := 0) (hj := rfl) 57 156 rfl rfl ?_
  refine V_iload hX (j := 1) (hj := rfl) 58 158 rfl rfl ?_
  refine V_callI hX 161 0 0 rfl rfl rfl (Nat.le_of_ble_eq_true rfl) (Nat.le_of_ble_eq_true rfl) (VR_V hX 59 (ct_Se_bound (cx_t hX) K v5 v3 v4 M) my_Se_bound mi_Se_bound ms_Se_bound ml_St_142 (Nat.le_of_ble_eq_true rfl) (Nat.le_of_ble_eq_true rfl) (loc_ser hv5) (ent_ser K _ hv5) rfl rfl rfl (Nat.le_of_ble_eq_true rfl) rfl (Nat.le_of_ble_eq_true rfl) (Nat.le_of_ble_eq_true rfl)) (fun r158 M158 => ?_)
  exact V_iret hX 60 rfl (Nat.le_of_ble_eq_true rfl) (Nat.le_of_ble_eq_true rfl) rfl
set_option maxRecDepth 20000 in
theorem ct_St_apply {l : Launch} (hl : l.stackTraces = false) (K : KT) (v1 : Nat) (v2 : Int32) (v3 : Int32) (v4 : Int32) (M : Mm) : CTp l K y_St_apply (Cond.code y_St_apply prog_12_method_11_code 6 (some .int)) rvI 5 0 0 [.ref (kA K 1), .ref (kA K (1000 + v1)), .int v2, .int v3, .int v4] M (fn_St_apply v1 v2 v3 v4 M) := by
  refine CTp_of (L := L_St_apply) (lc := [(0, .ref (kA K 1)), (1, .ref (kA K (1000 + v1))), (2, .int v2), (3, .int v3), (4, .int v4)]) (by decide +kernel) dec_St_apply hl rfl (Nat.le_of_ble_eq_true rfl) (fun X hX => ?_)
  unfold fn_St_apply
  refine VV_grd (fun hv1 => ?_)
  refine V_aload_n hX (j := 0) (hj := rfl) 0 1 rfl rfl ?_
  refine V_iload_n hX (j := 2) (hj := rfl) 1 2 rfl rfl ?_
  refine V_callL hX 5 0 0 rfl rfl rfl (Nat.le_of_ble_eq_true rfl) (Nat.le_of_ble_eq_true rfl) (VR_V hX 2 (ct_St_at (cx_t hX) K v2 M) my_St_at mi_St_at ms_St_at ml_St_34 (Nat.le_of_ble_eq_true rfl) (Nat.le_of_ble_eq_true rfl) (by decide) (ent_1 K _) rfl rfl rfl (Nat.le_of_ble_eq_true rfl) rfl (Nat.le_of_ble_eq_true rfl) (Nat.le_of_ble_eq_true rfl)) (fun r2 M2 => VV_grd (fun hr2 => ?_))
  refine V_astore hX 3 7 [(5, .ref (kA K r2)), (0, .ref (kA K 1)), (1, .ref (kA K (1000 + v1))), (2, .int v2), (3, .int v3), (4, .int v4)] rfl rfl (Nat.le_of_ble_eq_true rfl) rfl ?_
  refine V_sw hX 4 10 fk_St_71 rfl rfl ?_
  refine V_aload_n hX (j := 2) (hj := rfl) 5 11 rfl rfl ?_
  refine V_ord hX 6 14 hv1 or_St_77 (Nat.le_of_ble_eq_true rfl) (Nat.le_of_ble_eq_true rfl) (Nat.le_of_ble_eq_true rfl) (Nat.le_of_ble_eq_true rfl) rfl rfl ?_
  refine V_swld hX 7 15 hv1 rfl rfl ?_
  refine VV_ite (fun e15_0 => ?_) (fun n15_0 => ?_)
  · refine V_tabIn hX 8 64 1 e15_0 (by decide) rfl (by decide) (by decide) rfl (by decide) ?_
    refine V_aload hX (j := 0) (hj := rfl) 9 66 rfl rfl ?_
    refine V_iload_n hX (j := 4) (hj := rfl) 10 67 rfl rfl ?_
    refine V_callU hX 70 0 0 rfl rfl rfl (Nat.le_of_ble_eq_true rfl) (Nat.le_of_ble_eq_true rfl) (VR_V hX 11 (ct_Se_add (cx_t hX) K r2 v3 M2) my_Se_add mi_Se_add ms_Se_add ml_St_114 (Nat.le_of_ble_eq_true rfl) (Nat.le_of_ble_eq_true rfl) (loc_ser hr2) (ent_ser K _ hr2) rfl rfl rfl (Nat.le_of_ble_eq_true rfl) rfl (Nat.le_of_ble_eq_true rfl) (Nat.le_of_ble_eq_true rfl)) (fun r67 M67 => ?_)
    refine V_aload_n hX (j := 1) (hj := rfl) 12 71 rfl rfl ?_
    refine V_dup hX (hc := rfl) 13 72 rfl rfl ?_
    refine V_get hX 14 75 1 (.int (M67 1 5)) fl_St_30 rfl rfl (by decide) (ent_1 K _) rfl ?_
    refine V_iconst hX (v := 1) (hv := by decide) 15 76 rfl rfl ?_
    refine V_iadd hX 16 77 rfl rfl ?_
    refine V_putI hX 17 80 1 fp_St_30 (by decide) rfl rfl (by decide) (ent_1 K _) (Nat.le_of_ble_eq_true rfl) (ent_1 K _) (fun M77 hM77 => ?_)
    refine V_aload hX (j := 0) (hj := rfl) 18 82 rfl rfl ?_
    refine V_callI hX 85 0 0 rfl rfl rfl (Nat.le_of_ble_eq_true rfl) (Nat.le_of_ble_eq_true rfl) (VR_V hX 19 (ct_Se_size (cx_t hX) K r2 M77) my_Se_size mi_Se_size ms_Se_size ml_St_38 (Nat.le_of_ble_eq_true rfl) (Nat.le_of_ble_eq_true rfl) (loc_ser hr2) (ent_ser K _ hr2) rfl rfl rfl (Nat.le_of_ble_eq_true rfl) rfl (Nat.le_of_ble_eq_true rfl) (Nat.le_of_ble_eq_true rfl)) (fun r82 M82 => ?_)
    exact V_iret hX 20 rfl (Nat.le_of_ble_eq_true rfl) (Nat.le_of_ble_eq_true rfl) rfl
  refine VV_ite (fun e15_1 => ?_) (fun n15_1 => ?_)
  · refine V_tabIn hX 8 86 2 e15_1 (by decide) rfl (by decide) (by decide) rfl (by decide) ?_
    refine V_aload hX (j := 0) (hj := rfl) 21 88 rfl rfl ?_
    refine V_iload_n hX (j := 4) (hj := rfl) 22 89 rfl rfl ?_
    refine V_iload hX (j := 5) (hj := rfl) 23 91 rfl rfl ?_
    refine V_callI hX 94 0 0 rfl rfl rfl (Nat.le_of_ble_eq_true rfl) (Nat.le_of_ble_eq_true rfl) (VR_V hX 24 (ct_Se_replace (cx_t hX) K r2 v3 v4 M2) my_Se_replace mi_Se_replace ms_Se_replace ml_St_118 (Nat.le_of_ble_eq_true rfl) (Nat.le_of_ble_eq_true rfl) (loc_ser hr2) (ent_ser K _ hr2) rfl rfl rfl (Nat.le_of_ble_eq_true rfl) rfl (Nat.le_of_ble_eq_true rfl) (Nat.le_of_ble_eq_true rfl)) (fun r91 M91 => ?_)
    exact V_iret hX 25 rfl (Nat.le_of_ble_eq_true rfl) (Nat.le_of_ble_eq_true rfl) rfl
  refine VV_ite (fun e15_2 => ?_) (fun n15_2 => ?_)
  · refine V_tabIn hX 8 95 3 e15_2 (by decide) rfl (by decide) (by decide) rfl (by decide) ?_
    refine V_aload hX (j := 0) (hj := rfl) 26 97 rfl rfl ?_
    refine V_iload_n hX (j := 4) (hj := rfl) 27 98 rfl rfl ?_
    refine V_callU hX 101 0 0 rfl rfl rfl (Nat.le_of_ble_eq_true rfl) (Nat.le_of_ble_eq_true rfl) (VR_V hX 28 (ct_Se_dropFirst (cx_t hX) K r2 v3 M2) my_Se_dropFirst mi_Se_dropFirst ms_Se_dropFirst ml_St_122 (Nat.le_of_ble_eq_true rfl) (Nat.le_of_ble_eq_true rfl) (loc_ser hr2) (ent_ser K _ hr2) rfl rfl rfl (Nat.le_of_ble_eq_true rfl) rfl (Nat.le_of_ble_eq_true rfl) (Nat.le_of_ble_eq_true rfl)) (fun r98 M98 => ?_)
    refine V_aload hX (j := 0) (hj := rfl) 29 103 rfl rfl ?_
    refine V_callI hX 106 0 0 rfl rfl rfl (Nat.le_of_ble_eq_true rfl) (Nat.le_of_ble_eq_true rfl) (VR_V hX 30 (ct_Se_size (cx_t hX) K r2 M98) my_Se_size mi_Se_size ms_Se_size ml_St_38 (Nat.le_of_ble_eq_true rfl) (Nat.le_of_ble_eq_true rfl) (loc_ser hr2) (ent_ser K _ hr2) rfl rfl rfl (Nat.le_of_ble_eq_true rfl) rfl (Nat.le_of_ble_eq_true rfl) (Nat.le_of_ble_eq_true rfl)) (fun r103 M103 => ?_)
    exact V_iret hX 31 rfl (Nat.le_of_ble_eq_true rfl) (Nat.le_of_ble_eq_true rfl) rfl
  refine VV_ite (fun e15_3 => ?_) (fun n15_3 => ?_)
  · refine V_tabIn hX 8 107 4 e15_3 (by decide) rfl (by decide) (by decide) rfl (by decide) ?_
    refine V_aload hX (j := 0) (hj := rfl) 32 109 rfl rfl ?_
    refine V_aload_n hX (j := 1) (hj := rfl) 33 110 rfl rfl ?_
    refine V_iload_n hX (j := 4) (hj := rfl) 34 111 rfl rfl ?_
    refine V_callL hX 114 0 0 rfl rfl rfl (Nat.le_of_ble_eq_true rfl) (Nat.le_of_ble_eq_true rfl) (VR_V hX 35 (ct_St_at (cx_t hX) K v3 M2) my_St_at mi_St_at ms_St_at ml_St_34 (Nat.le_of_ble_eq_true rfl) (Nat.le_of_ble_eq_true rfl) (by decide) (ent_1 K _) rfl rfl rfl (Nat.le_of_ble_eq_true rfl) rfl (Nat.le_of_ble_eq_true rfl) (Nat.le_of_ble_eq_true rfl)) (fun r111 M111 => VV_grd (fun hr111 => ?_))
    refine V_callU hX 117 0 0 rfl rfl rfl (Nat.le_of_ble_eq_true rfl) (Nat.le_of_ble_eq_true rfl) (VR_V hX 36 (ct_Se_become (cx_t hX) K r2 r111 M111) my_Se_become mi_Se_become ms_Se_become ml_St_125 (Nat.le_of_ble_eq_true rfl) (Nat.le_of_ble_eq_true rfl) (loc_ser hr2) (ent_ser K _ hr2) rfl rfl rfl (Nat.le_of_ble_eq_true rfl) rfl (Nat.le_of_ble_eq_true rfl) (Nat.le_of_ble_eq_true rfl)) (fun r114 M114 => ?_)
    refine V_aload hX (j := 0) (hj := rfl) 37 119 rfl rfl ?_
    refine V_callI hX 122 0 0 rfl rfl rfl (Nat.le_of_ble_eq_true rfl) (Nat.le_of_ble_eq_true rfl) (VR_V hX 38 (ct_Se_size (cx_t hX) K r2 M114) my_Se_size mi_Se_size ms_Se_size ml_St_38 (Nat.le_of_ble_eq_true rfl) (Nat.le_of_ble_eq_true rfl) (loc_ser hr2) (ent_ser K _ hr2) rfl rfl rfl (Nat.le_of_ble_eq_true rfl) rfl (Nat.le_of_ble_eq_true rfl) (Nat.le_of_ble_eq_true rfl)) (fun r119 M119 => ?_)
    exact V_iret hX 39 rfl (Nat.le_of_ble_eq_true rfl) (Nat.le_of_ble_eq_true rfl) rfl
  refine VV_ite (fun e15_4 => ?_) (fun n15_4 => ?_)
  · refine V_tabIn hX 8 129 5 e15_4 (by decide) rfl (by decide) (by decide) rfl (by decide) ?_
    refine V_aload hX (j := 0) (hj := rfl) 43 131 rfl rfl ?_
    refine V_iload_n hX (j := 4) (hj := rfl) 44 132 rfl rfl ?_
    refine V_callI hX 135 0 0 rfl rfl rfl (Nat.le_of_ble_eq_true rfl) (Nat.le_of_ble_eq_true rfl) (VR_V hX 45 (ct_Se_rise (cx_t hX) K r2 v3 M2) my_Se_rise mi_Se_rise ms_Se_rise ml_St_132 (Nat.le_of_ble_eq_true rfl) (Nat.le_of_ble_eq_true rfl) (loc_ser hr2) (ent_ser K _ hr2) rfl rfl rfl (Nat.le_of_ble_eq_true rfl) rfl (Nat.le_of_ble_eq_true rfl) (Nat.le_of_ble_eq_true rfl)) (fun r132 M132 => ?_)
    exact V_iret hX 46 rfl (Nat.le_of_ble_eq_true rfl) (Nat.le_of_ble_eq_true rfl) rfl
  refine VV_ite (fun e15_5 => ?_) (fun n15_5 => ?_)
  · refine V_tabIn hX 8 136 6 e15_5 (by decide) rfl (by decide) (by decide) rfl (by decide) ?_
    refine V_aload hX (j := 0) (hj := rfl) 47 138 rfl rfl ?_
    refine V_iload_n hX (j := 4) (hj := rfl) 48 139 rfl rfl ?_
    refine V_aload_n hX (j := 1) (hj := rfl) 49 140 rfl rfl ?_
    refine V_get hX 50 143 1 (.ref (kA K 6)) fl_St_27 rfl rfl (by decide) (ent_1 K _) rfl ?_
    refine V_callI hX 146 0 0 rfl rfl rfl (Nat.le_of_ble_eq_true rfl) (Nat.le_of_ble_eq_true rfl) (VR_V hX 51 (ct_Se_flatten (cx_t hX) K r2 v3 6 M2) my_Se_flatten mi_Se_flatten ms_Se_flatten ml_St_135 (Nat.le_of_ble_eq_true rfl) (Nat.le_of_ble_eq_true rfl) (loc_ser hr2) (ent_ser K _ hr2) rfl rfl rfl (Nat.le_of_ble_eq_true rfl) rfl (Nat.le_of_ble_eq_true rfl) (Nat.le_of_ble_eq_true rfl)) (fun r143 M143 => ?_)
    exact V_iret hX 52 rfl (Nat.le_of_ble_eq_true rfl) (Nat.le_of_ble_eq_true rfl) rfl
  refine VV_ite (fun e15_6 => ?_) (fun n15_6 => ?_)
  · refine V_tabIn hX 8 147 7 e15_6 (by decide) rfl (by decide) (by decide) rfl (by decide) ?_
    refine V_aload hX (j := 0) (hj := rfl) 53 149 rfl rfl ?_
    refine V_callI hX 152 0 0 rfl rfl rfl (Nat.le_of_ble_eq_true rfl) (Nat.le_of_ble_eq_true rfl) (VR_V hX 54 (ct_Se_becomeSteps (cx_t hX) K r2 M2) my_Se_becomeSteps mi_Se_becomeSteps ms_Se_becomeSteps ml_St_139 (Nat.le_of_ble_eq_true rfl) (Nat.le_of_ble_eq_true rfl) (loc_ser hr2) (ent_ser K _ hr2) rfl rfl rfl (Nat.le_of_ble_eq_true rfl) rfl (Nat.le_of_ble_eq_true rfl) (Nat.le_of_ble_eq_true rfl)) (fun r149 M149 => ?_)
    exact V_iret hX 55 rfl (Nat.le_of_ble_eq_true rfl) (Nat.le_of_ble_eq_true rfl) rfl
  refine VV_ite (fun e15_7 => ?_) (fun n15_7 => ?_)
  · refine V_tabIn hX 8 153 8 e15_7 (by decide) rfl (by decide) (by decide) rfl (by decide) ?_
    refine VV_sub [4, 5, 0] rfl ?_
    exact bt_St_apply_153 hX v3 v4 r2 hr2 M2
  refine VV_ite (fun e15_8 => ?_) (fun n15_8 => ?_)
  · refine V_tabIn hX 8 123 9 e15_8 (by decide) rfl (by decide) (by decide) rfl (by decide) ?_
    refine V_aload hX (j := 0) (hj := rfl) 40 125 rfl rfl ?_
    refine V_callI hX 128 0 0 rfl rfl rfl (Nat.le_of_ble_eq_true rfl) (Nat.le_of_ble_eq_true rfl) (VR_V hX 41 (ct_Se_turn (cx_t hX) K r2 M2) my_Se_turn mi_Se_turn ms_Se_turn ml_St_129 (Nat.le_of_ble_eq_true rfl) (Nat.le_of_ble_eq_true rfl) (loc_ser hr2) (ent_ser K _ hr2) rfl rfl rfl (Nat.le_of_ble_eq_true rfl) rfl (Nat.le_of_ble_eq_true rfl) (Nat.le_of_ble_eq_true rfl)) (fun r125 M125 => ?_)
    exact V_iret hX 42 rfl (Nat.le_of_ble_eq_true rfl) (Nat.le_of_ble_eq_true rfl) rfl
  refine V_tabOut hX 8 153 rfl (by have a0 := zz_ne (1) (by decide) n15_0; have a1 := zz_ne (2) (by decide) n15_1; have a2 := zz_ne (3) (by decide) n15_2; have a3 := zz_ne (4) (by decide) n15_3; have a4 := zz_ne (5) (by decide) n15_4; have a5 := zz_ne (6) (by decide) n15_5; have a6 := zz_ne (7) (by decide) n15_6; have a7 := zz_ne (8) (by decide) n15_7; have a8 := zz_ne (9) (by decide) n15_8; omega) (by decide) ?_
  refine VV_sub [4, 5, 0] rfl ?_
  exact bt_St_apply_153 hX v3 v4 r2 hr2 M2
