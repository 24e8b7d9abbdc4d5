set_option maxRecDepth 20000 in
theorem ct_Se_at {l : Launch} (hl : l.stackTraces = false) (K : KT) (v0 : Nat) (v1 : Int32) (M : Mm) : CTp l K y_Se_at (Cond.code y_Se_at prog_11_method_6_code 2 (some .int)) rvI 1 0 0 [.ref (kA K v0), .int v1] M (fn_Se_at v0 v1 M) := by
  refine CTp_of (L := L_Se_at) (lc := [(0, .ref (kA K v0)), (1, .int v1)]) (by decide +kernel) dec_Se_at hl rfl (Nat.le_of_ble_eq_true rfl) (fun X hX => ?_)
  unfold fn_Se_at
  refine VV_grd (fun hv0 => ?_)
  refine V_iload_n hX (j := 1) (hj := rfl) 0 1 rfl rfl ?_
  refine V_if_lt hX 1 4 22 rfl rfl (by decide) (fun c1 => ?_) (fun c1 => ?_)
  · refine V_iconst hX (v := 0) (hv := by decide) 12 23 rfl rfl ?_
    exact V_iret hX 13 rfl (Nat.le_of_ble_eq_true rfl) (Nat.le_of_ble_eq_true rfl) rfl
  · refine V_iload_n hX (j := 1) (hj := rfl) 2 5 rfl rfl ?_
    refine V_aload_n hX (j := 0) (hj := rfl) 3 6 rfl rfl ?_
    refine V_get hX 4 9 v0 (.ref (kA K (v0 + 5))) fl_Se_9 rfl rfl (loc_ser hv0) (ent_ser K _ hv0) rfl ?_
    refine V_alen hX 5 10 (v0 + 5) 20 20 (ia5 hv0) (ia_ser hv0) (by decide) rfl rfl ?_
    refine V_icmp_ge hX 6 13 22 rfl rfl (by decide) (fun c10 => ?_) (fun c10 => ?_)
    · refine V_iconst hX (v := 0) (hv := by decide) 12 23 rfl rfl ?_
      exact V_iret hX 13 rfl (Nat.le_of_ble_eq_true rfl) (Nat.le_of_ble_eq_true rfl) rfl
    · refine V_aload_n hX (j := 0) (hj := rfl) 7 14 rfl rfl ?_
      refine V_get hX 8 17 v0 (.ref (kA K (v0 + 5))) fl_Se_9 rfl rfl (loc_ser hv0) (ent_ser K _ hv0) rfl ?_
      refine V_iload_n hX (j := 1) (hj := rfl) 9 18 rfl rfl ?_
      refine V_iald hX 10 19 (v0 + 5) 20 (ia5 hv0) (ia_ser hv0) rfl rfl (fun g18 => ?_)
      refine V_goto hX 11 23 rfl (by decide) ?_
      exact V_iret hX 13 rfl (Nat.le_of_ble_eq_true rfl) (Nat.le_of_ble_eq_true rfl) rfl
set_option maxRecDepth 20000 in
theorem bt_Se_greatest_11 {l : Launch} {K : KT} {X : XT} (hX : Cx l K 2 5 0 0 X prog_11_method_24_code "SeriesArchive$Series" (some .int) [] L_Se_greatest) (v0 : Nat) (v2 : Int32) (hv0 : isSer v0) : ∀ (n : Nat) (v3 : Int32) (v4 : Int32) (M : Mm), VV l K 2 5 0 0 rvI X (fn_Se_greatest_11 v0 v2 n v3 v4 M) 0 0 M 11 [(0, .ref (kA K v0)), (2, .int v2), (3, .int v3), (4, .int v4)] [] := by
  intro n
  induction n with
  | zero => intro v3 v4 M; exact VV_none
  | succ n ih =>
    intro v3 v4 M
    rw [fn_Se_greatest_11]
    refine V_iload hX (j := 3) (hj := rfl) 8 13 rfl rfl ?_
    refine V_iload_n hX (j := 1) (hj := rfl) 9 14 rfl rfl ?_
    refine V_icmp_gt hX 10 17 34 rfl rfl (by decide) (fun c14 => ?_) (fun c14 => ?_)
    · refine V_iload_n hX (j := 2) (hj := rfl) 19 35 rfl rfl ?_
      exact V_iret hX 20 rfl (Nat.le_of_ble_eq_true rfl) (Nat.le_of_ble_eq_true rfl) rfl
    · refine V_iload_n hX (j := 2) (hj := rfl) 11 18 rfl rfl ?_
      refine V_aload_n hX (j := 0) (hj := rfl) 12 19 rfl rfl ?_
      refine V_iload hX (j := 3) (hj := rfl) 13 21 rfl rfl ?_
      refine V_callI hX 24 0 0 rfl rfl rfl (Nat.le_of_ble_eq_true rfl) (Nat.le_of_ble_eq_true rfl) (VR_V hX 14 (ct_Se_at (cx_t hX) K v0 v4 M) my_Se_at mi_Se_at ms_Se_at ml_Se_31 (Nat.le_of_ble_eq_true rfl) (Nat.le_of_ble_eq_true rfl) (loc_ser hv0) (ent_ser K _ hv0) rfl rfl rfl (Nat.le_of_ble_eq_true rfl) rfl (Nat.le_of_ble_eq_true rfl) (Nat.le_of_ble_eq_true rfl)) (fun r21 M21 => ?_)
      refine V_max hX 15 27 mm_Se_57 (Nat.le_of_ble_eq_true rfl) (Nat.le_of_ble_eq_true rfl) (Nat.le_of_ble_eq_true rfl) (Nat.le_of_ble_eq_true rfl) rfl rfl ?_
      refine VV_li (fun x3_27 hx3_27 => ?_)
      refine V_istore_n hX 16 28 [(3, .int x3_27), (0, .ref (kA K v0)), (2, .int v2), (4, .int v4)] rfl rfl (Nat.le_of_ble_eq_true rfl) rfl ?_
      refine V_iincL hX 17 31 3 rfl rfl rfl rfl (Nat.le_of_ble_eq_true rfl) (fun x4_28 hx4_28 => ?_)
      refine VV_lc [(4, .int x4_28), (3, .int x3_27), (0, .ref (kA K v0)), (2, .int v2)] rfl ?_
      refine V_goto hX 18 11 rfl (by decide) ?_
      refine VV_sub [2, 3, 1, 0] rfl ?_
      exact ih x3_27 x4_28 M21
set_option maxRecDepth 20000 in
theorem ct_Se_greatest {l : Launch} (hl : l.stackTraces = false) (K : KT) (v0 : Nat) (v1 : Int32) (v2 : Int32) (M : Mm) : CTp l K y_Se_greatest (Cond.code y_Se_greatest prog_11_method_24_code 5 (some .int)) rvI 2 0 0 [.ref (kA K v0), .int v1, .int v2] M (fn_Se_greatest v0 v1 v2 M) := by
  refine CTp_of (L := L_Se_greatest) (lc := [(0, .ref (kA K v0)), (1, .int v1), (2, .int v2)]) (by decide +kernel) dec_Se_greatest hl rfl (Nat.le_of_ble_eq_true rfl) (fun X hX => ?_)
  unfold fn_Se_greatest
  refine VV_grd (fun hv0 => ?_)
  refine V_aload_n hX (j := 0) (hj := rfl) 0 1 rfl rfl ?_
  refine V_iload_n hX (j := 1) (hj := rfl) 1 2 rfl rfl ?_
  refine V_callI hX 5 0 0 rfl rfl rfl (Nat.le_of_ble_eq_true rfl) (Nat.le_of_ble_eq_true rfl) (VR_V hX 2 (ct_Se_at (cx_t hX) K v0 v1 M) my_Se_at mi_Se_at ms_Se_at ml_Se_31 (Nat.le_of_ble_eq_true rfl) (Nat.le_of_ble_eq_true rfl) (loc_ser hv0) (ent_ser K _ hv0) rfl rfl rfl (Nat.le_of_ble_eq_true rfl) rfl (Nat.le_of_ble_eq_true rfl) (Nat.le_of_ble_eq_true rfl)) (fun r2 M2 => ?_)
  refine V_istore_n hX 3 6 [(3, .int r2), (0, .ref (kA K v0)), (1, .int v1), (2, .int v2)] rfl rfl (Nat.le_of_ble_eq_true rfl) rfl ?_
  refine V_iload_n hX (j := 2) (hj := rfl) 4 7 rfl rfl ?_
  refine V_iconst hX (v := 1) (hv := by decide) 5 8 rfl rfl ?_
  refine V_iadd hX 6 9 rfl rfl ?_
  refine VV_li (fun x4_9 hx4_9 => ?_)
  refine V_istore hX 7 11 [(4, .int x4_9), (3, .int r2), (0, .ref (kA K v0)), (1, .int v1), (2, .int v2)] rfl rfl (Nat.le_of_ble_eq_true rfl) rfl ?_
  refine VV_sub [2, 4, 1, 0] rfl ?_
  exact bt_Se_greatest_11 hX v0 v2 hv0 fuel0 r2 x4_9 M2
set_option maxRecDepth 20000 in
theorem bt_Se_least_11 {l : Launch} {K : KT} {X : XT} (hX : Cx l K 2 5 0 0 X prog_11_method_23_code "SeriesArchive$Series" (some .int) [] L_Se_least) (v0 : Nat) (v2 : Int32) (hv0 : isSer v0) : ∀ (n : Nat) (v3 : Int32) (v4 : Int32) (M : Mm), VV l K 2 5 0 0 rvI X (fn_Se_least_11 v0 v2 n v3 v4 M) 0 0 M 11 [(0, .ref (kA K v0)), (2, .int v2), (3, .int v3), (4, .int v4)] [] := by
  intro n
  induction n with
  | zero => intro v3 v4 M; exact VV_none
  | succ n ih =>
    intro v3 v4 M
    rw [fn_Se_least_11]
    refine V_iload hX (j := 3) (hj := rfl) 8 13 rfl rfl ?_
    refine V_iload_n hX (j := 1) (hj := rfl) 9 14 rfl rfl ?_
    refine V_icmp_gt hX 10 17 34 rfl rfl (by decide) (fun c14 => ?_) (fun c14 => ?_)
    · refine V_iload_n hX (j := 2) (hj := rfl) 19 35 rfl rfl ?_
      exact V_iret hX 20 rfl (Nat.le_of_ble_eq_true rfl) (Nat.le_of_ble_eq_true rfl) rfl
    · refine V_iload_n hX (j := 2) (hj := rfl) 11 18 rfl rfl ?_
      refine V_aload_n hX (j := 0) (hj := rfl) 12 19 rfl rfl ?_
      refine V_iload hX (j := 3) (hj := rfl) 13 21 rfl rfl ?_
      refine V_callI hX 24 0 0 rfl rfl rfl (Nat.le_of_ble_eq_true rfl) (Nat.le_of_ble_eq_true rfl) (VR_V hX 14 (ct_Se_at (cx_t hX) K v0 v4 M) my_Se_at mi_Se_at ms_Se_at ml_Se_31 (Nat.le_of_ble_eq_true rfl) (Nat.le_of_ble_eq_true rfl) (loc_ser hv0) (ent_ser K _ hv0) rfl rfl rfl (Nat.le_of_ble_eq_true rfl) rfl (Nat.le_of_ble_eq_true rfl) (Nat.le_of_ble_eq_true rfl)) (fun r21 M21 => ?_)
      refine V_min hX 15 27 mm_Se_62 (Nat.le_of_ble_eq_true rfl) (Nat.le_of_ble_eq_true rfl) (Nat.le_of_ble_eq_true rfl) (Nat.le_of_ble_eq_true rfl) rfl rfl ?_
      refine VV_li (fun x3_27 hx3_27 => ?_)
      refine V_istore_n hX 16 28 [(3, .int x3_27), (0, .ref (kA K v0)), (2, .int v2), (4, .int v4)] rfl rfl (Nat.le_of_ble_eq_true rfl) rfl ?_
      refine V_iincL hX 17 31 3 rfl rfl rfl rfl (Nat.le_of_ble_eq_true rfl) (fun x4_28 hx4_28 => ?_)
      refine VV_lc [(4, .int x4_28), (3, .int x3_27), (0, .ref (kA K v0)), (2, .int v2)] rfl ?_
      refine V_goto hX 18 11 rfl (by decide) ?_
      refine VV_sub [2, 3, 1, 0] rfl ?_
      exact ih x3_27 x4_28 M21
set_option maxRecDepth 20000 in
theorem ct_Se_least {l : Launch} (hl : l.stackTraces = false) (K : KT) (v0 : Nat) (v1 : Int32) (v2 : Int32) (M : Mm) : CTp l K y_Se_least (Cond.code y_Se_least prog_11_method_23_code 5 (some .int)) rvI 2 0 0 [.ref (kA K v0), .int v1, .int v2] M (fn_Se_least v0 v1 v2 M) := by
  refine CTp_of (L := L_Se_least) (lc := [(0, .ref (kA K v0)), (1, .int v1), (2, .int v2)]) (by decide +kernel) dec_Se_least hl rfl (Nat.le_of_ble_eq_true rfl) (fun X hX => ?_)
  unfold fn_Se_least
  refine VV_grd (fun hv0 => ?_)
  refine V_aload_n hX (j := 0) (hj := rfl) 0 1 rfl rfl ?_
  refine V_iload_n hX (j := 1) (hj := rfl) 1 2 rfl rfl ?_
  refine V_callI hX 5 0 0 rfl rfl rfl (Nat.le_of_ble_eq_true rfl) (Nat.le_of_ble_eq_true rfl) (VR_V hX 2 (ct_Se_at (cx_t hX) K v0 v1 M) my_Se_at mi_Se_at ms_Se_at ml_Se_31 (Nat.le_of_ble_eq_true rfl) (Nat.le_of_ble_eq_true rfl) (loc_ser hv0) (ent_ser K _ hv0) rfl rfl rfl (Nat.le_of_ble_eq_true rfl) rfl (Nat.le_of_ble_eq_true rfl) (Nat.le_of_ble_eq_true rfl)) (fun r2 M2 => ?_)
  refine V_istore_n hX 3 6 [(3, .int r2), (0, .ref (kA K v0)), (1, .int v1), (2, .int v2)] rfl rfl (Nat.le_of_ble_eq_true rfl) rfl ?_
  refine V_iload_n hX (j := 2) (hj := rfl) 4 7 rfl rfl ?_
  refine V_iconst hX (v := 1) (hv := by decide) 5 8 rfl rfl ?_
  refine V_iadd hX 6 9 rfl rfl ?_
  refine VV_li (fun x4_9 hx4_9 => ?_)
  refine V_istore hX 7 11 [(4, .int x4_9), (3, .int r2), (0, .ref (kA K v0)), (1, .int v1), (2, .int v2)] rfl rfl (Nat.le_of_ble_eq_true rfl) rfl ?_
  refine VV_sub [2, 4, 1, 0] rfl ?_
  exact bt_Se_least_11 hX v0 v2 hv0 fuel0 r2 x4_9 M2
set_option maxRecDepth 20000 in
theorem ct_Di_spread {l : Launch} (hl : l.stackTraces = false) (K : KT) (v0 : Nat) (v1 : Int32) (v2 : Int32) (M : Mm) : CTp l K y_Di_spread (Cond.code y_Di_spread prog_3_method_4_code 3 (some .int)) rvI 3 0 0 [.ref (kA K v0), .int v1, .int v2] M (fn_Di_spread v0 v1 v2 M) := by
  refine CTp_of (L := L_Di_spread) (lc := [(0, .ref (kA K v0)), (1, .int v1), (2, .int v2)]) (by decide +kernel) dec_Di_spread hl rfl (Nat.le_of_ble_eq_true rfl) (fun X hX => ?_)
  unfold fn_Di_spread
  refine VV_grd (fun hv0 => ?_)
  refine V_aload_n hX (j := 0) (hj := rfl) 0 1 rfl rfl ?_
  refine V_iload_n hX (j := 1) (hj := rfl) 1 2 rfl rfl ?_
  refine V_iload_n hX (j := 2) (hj := rfl) 2 3 rfl rfl ?_
  refine V_callI hX 6 0 0 rfl rfl rfl (Nat.le_of_ble_eq_true rfl) (Nat.le_of_ble_eq_true rfl) (VR_V hX 3 (ct_Se_greatest (cx_t hX) K v0 v1 v2 M) my_Se_greatest mi_Se_greatest ms_Se_greatest ml_Di_43 (Nat.le_of_ble_eq_true rfl) (Nat.le_of_ble_eq_true rfl) (loc_ser hv0) (ent_ser K _ hv0) rfl rfl rfl (Nat.le_of_ble_eq_true rfl) rfl (Nat.le_of_ble_eq_true rfl) (Nat.le_of_ble_eq_true rfl)) (fun r3 M3 => ?_)
  refine V_aload_n hX (j := 0) (hj := rfl) 4 7 rfl rfl ?_
  refine V_iload_n hX (j := 1) (hj := rfl) 5 8 rfl rfl ?_
  refine V_iload_n hX (j := 2) (hj := rfl) 6 9 rfl rfl ?_
  refine V_callI hX 12 0 0 rfl rfl rfl (Nat.le_of_ble_eq_true rfl) (Nat.le_of_ble_eq_true rfl) (VR_V hX 7 (ct_Se_least (cx_t hX) K v0 v1 v2 M3) my_Se_least mi_Se_least ms_Se_least ml_Di_46 (Nat.le_of_ble_eq_true rfl) (Nat.le_of_ble_eq_true rfl) (loc_ser hv0) (ent_ser K _ hv0) rfl rfl rfl (Nat.le_of_ble_eq_true rfl) rfl (Nat.le_of_ble_eq_true rfl) (Nat.le_of_ble_eq_true rfl)) (fun r9 M9 => ?_)
  refine V_isub hX 8 13 rfl rfl ?_
  exact V_iret hX 9 rfl (Nat.le_of_ble_eq_true rfl) (Nat.le_of_ble_eq_true rfl) rfl
set_option maxRecDepth 20000 in
theorem ct_SA_read {l : Launch} (hl : l.stackTraces = false) (K : KT) (v0 : Nat) (v1 : Int32) (M : Mm) : CTp l K y_SA_read (Cond.code y_SA_read prog_1_method_77_code 2 (some .int)) rvI 1 0 0 [.ref (kA K v0), .int v1] M (fn_SA_read v0 v1 M) := by
  refine CTp_of (L := L_SA_read) (lc := [(0, .ref (kA K v0)), (1, .int v1)]) (by decide +kernel) dec_SA_read hl rfl (Nat.le_of_ble_eq_true rfl) (fun X hX => ?_)
  unfold fn_SA_read
  refine VV_grd (fun hv0 => ?_)
  refine V_iload_n hX (j := 1) (hj := rfl) 0 1 rfl rfl ?_
  refine V_if_lt hX 1 4 16 rfl rfl (by decide) (fun c1 => ?_) (fun c1 => ?_)
  · refine V_iconst hX (v := 0) (hv := by decide) 10 17 rfl rfl ?_
    exact V_iret hX 11 rfl (Nat.le_of_ble_eq_true rfl) (Nat.le_of_ble_eq_true rfl) rfl
  · refine V_iload_n hX (j := 1) (hj := rfl) 2 5 rfl rfl ?_
    refine V_aload_n hX (j := 0) (hj := rfl) 3 6 rfl rfl ?_
    refine V_alen hX 4 7 v0 (alen v0) (nI (alen v0)) hv0 rfl rfl rfl rfl ?_
    refine V_icmp_ge hX 5 10 16 rfl rfl (by decide) (fun c7 => ?_) (fun c7 => ?_)
    · refine V_iconst hX (v := 0) (hv := by decide) 10 17 rfl rfl ?_
      exact V_iret hX 11 rfl (Nat.le_of_ble_eq_true rfl) (Nat.le_of_ble_eq_true rfl) rfl
    · refine V_aload_n hX (j := 0) (hj := rfl) 6 11 rfl rfl ?_
      refine V_iload_n hX (j := 1) (hj := rfl) 7 12 rfl rfl ?_
      refine V_iald hX 8 13 v0 (alen v0) hv0 rfl rfl rfl (fun g12 => ?_)
      refine V_goto hX 9 17 rfl (by decide) ?_
      exact V_iret hX 11 rfl (Nat.le_of_ble_eq_true rfl) (Nat.le_of_ble_eq_true rfl) rfl
set_option maxRecDepth 20000 in
theorem bt_Di_errorOfBeginning_23 {l : Launch} {K : KT} {X : XT} (hX : Cx l K 4 7 0 0 X prog_3_method_3_code "SeriesArchive$Divisions" (some .int) [] L_Di_errorOfBeginning) (v1 : Nat) (v2 : Int32) (v3 : Int32) (hv1 : isSer v1) : ∀ (n : Nat) (v4 : Int32) (v5 : Int32) (M : Mm), VV l K 4 7 0 0 rvI X (fn_Di_errorOfBeginning_23 v1 v2 v3 n v4 v5 M) 0 0 M 23 [(0, .ref (kA K 28)), (1, .ref (kA K v1)), (2, .int v2), (3, .int v3), (4, .int v4), (5, .int v5)] [] := by
  intro n
  induction n with
  | zero => intro v4 v5 M; exact VV_none
  | succ n ih =>
    intro v4 v5 M
    rw [fn_Di_errorOfBeginning_23]
    refine V_iload hX (j := 5) (hj := rfl) 16 25 rfl rfl ?_
    refine V_iload_n hX (j := 3) (hj := rfl) 17 26 rfl rfl ?_
    refine V_icmp_ge hX 18 29 72 rfl rfl (by decide) (fun c26 => ?_) (fun c26 => ?_)
    · refine V_iload hX (j := 4) (hj := rfl) 43 74 rfl rfl ?_
      exact V_iret hX 44 rfl (Nat.le_of_ble_eq_true rfl) (Nat.le_of_ble_eq_true rfl) rfl
    · refine V_aload_n hX (j := 0) (hj := rfl) 19 30 rfl rfl ?_
      refine V_get hX 20 33 28 (.ref (kA K 29)) fl_Di_11 rfl rfl (by decide) (ent_28 K _) rfl ?_
      refine V_iload_n hX (j := 2) (hj := rfl) 21 34 rfl rfl ?_
      refine V_iconst hX (v := 1) (hv := by decide) 22 35 rfl rfl ?_
      refine V_isub hX 23 36 rfl rfl ?_
      refine V_bipush hX (v := 21) (hv := by decide) 24 38 rfl rfl ?_
      refine V_imul hX 25 39 rfl rfl ?_
      refine V_iload hX (j := 5) (hj := rfl) 26 41 rfl rfl ?_
      refine V_iadd hX 27 42 rfl rfl ?_
      refine V_callI hX 45 0 0 rfl rfl rfl (Nat.le_of_ble_eq_true rfl) (Nat.le_of_ble_eq_true rfl) (VR_SN hX 28 (ct_SA_read (cx_t hX) K 29 (((v2 - 1) * 21) + v5) M) my_SA_read mt_SA_read mn_Di_29 (Nat.le_of_ble_eq_true rfl) (Nat.le_of_ble_eq_true rfl) rfl rfl (Nat.le_of_ble_eq_true rfl) rfl (Nat.le_of_ble_eq_true rfl) (Nat.le_of_ble_eq_true rfl)) (fun r42 M42 => ?_)
      refine V_istore hX 29 47 [(6, .int r42), (0, .ref (kA K 28)), (1, .ref (kA K v1)), (2, .int v2), (3, .int v3), (4, .int v4), (5, .int v5)] rfl rfl (Nat.le_of_ble_eq_true rfl) rfl ?_
      refine V_iload hX (j := 5) (hj := rfl) 30 49 rfl rfl ?_
      refine V_iload hX (j := 0) (hj := rfl) 31 51 rfl rfl ?_
      refine V_aload_n hX (j := 2) (hj := rfl) 32 52 rfl rfl ?_
      refine V_iload hX (j := 6) (hj := rfl) 33 54 rfl rfl ?_
      refine V_iload_n hX (j := 4) (hj := rfl) 34 55 rfl rfl ?_
      refine V_iconst hX (v := 1) (hv := by decide) 35 56 rfl rfl ?_
      refine V_isub hX 36 57 rfl rfl ?_
      refine V_callI hX 60 0 0 rfl rfl rfl (Nat.le_of_ble_eq_true rfl) (Nat.le_of_ble_eq_true rfl) (VR_S hX 37 (ct_Di_spread (cx_t hX) K v1 v5 (v3 - 1) M42) my_Di_spread mt_Di_spread ml_Di_33 (Nat.le_of_ble_eq_true rfl) (Nat.le_of_ble_eq_true rfl) rfl rfl (Nat.le_of_ble_eq_true rfl) rfl (Nat.le_of_ble_eq_true rfl) (Nat.le_of_ble_eq_true rfl)) (fun r57 M57 => ?_)
      refine V_iadd hX 38 61 rfl rfl ?_
      refine V_min hX 39 64 mm_Di_37 (Nat.le_of_ble_eq_true rfl) (Nat.le_of_ble_eq_true rfl) (Nat.le_of_ble_eq_true rfl) (Nat.le_of_ble_eq_true rfl) rfl rfl ?_
      refine VV_li (fun x4_64 hx4_64 => ?_)
      refine V_istore hX 40 66 [(4, .int x4_64), (6, .int r42), (0, .ref (kA K 28)), (1, .ref (kA K v1)), (2, .int v2), (3, .int v3), (5, .int v5)] rfl rfl (Nat.le_of_ble_eq_true rfl) rfl ?_
      refine V_iincL hX 41 69 6 rfl rfl rfl rfl (Nat.le_of_ble_eq_true rfl) (fun x5_66 hx5_66 => ?_)
      refine VV_lc [(5, .int x5_66), (4, .int x4_64), (6, .int r42), (0, .ref (kA K 28)), (1, .ref (kA K v1)), (2, .int v2), (3, .int v3)] rfl ?_
      refine V_goto hX 42 23 rfl (by decide) ?_
      refine VV_sub [3, 4, 5, 6, 1, 0] rfl ?_
      exact ih x4_64 x5_66 M57
set_option maxRecDepth 20000 in
theorem ct_Di_errorOfBeginning {l : Launch} (hl : l.stackTraces = false) (K : KT) (v1 : Nat) (v2 : Int32) (v3 : Int32) (M : Mm) : CTp l K y_Di_errorOfBeginning (Cond.code y_Di_errorOfBeginning prog_3_method_3_code 7 (some .int)) rvI 4 0 0 [.ref (kA K 28), .ref (kA K v1), .int v2, .int v3] M (fn_Di_errorOfBeginning v1 v2 v3 M) := by
  refine CTp_of (L := L_Di_errorOfBeginning) (lc := [(0, .ref (kA K 28)), (1, .ref (kA K v1)), (2, .int v2), (3, .int v3)]) (by decide +kernel) dec_Di_errorOfBeginning hl rfl (Nat.le_of_ble_eq_true rfl) (fun X hX => ?_)
  unfold fn_Di_errorOfBeginning
  refine VV_grd (fun hv1 => ?_)
  refine V_iload_n hX (j := 2) (hj := rfl) 0 1 rfl rfl ?_
  refine V_iconst hX (v := 1) (hv := by decide) 1 2 rfl rfl ?_
  refine V_icmp_ne hX 2 5 14 rfl rfl (by decide) (fun c2 => ?_) (fun c2 => ?_)
  · refine V_ldcI hX 10 16 co_Di_36 rfl rfl ?_
    refine V_istore hX 11 18 [(4, .int 1000000), (0, .ref (kA K 28)), (1, .ref (kA K v1)), (2, .int v2), (3, .int v3)] rfl rfl (Nat.le_of_ble_eq_true rfl) rfl ?_
    refine V_iload_n hX (j := 3) (hj := rfl) 12 19 rfl rfl ?_
    refine V_iconst hX (v := 1) (hv := by decide) 13 20 rfl rfl ?_
    refine V_isub hX 14 21 rfl rfl ?_
    refine VV_li (fun x5_21 hx5_21 => ?_)
    refine V_istore hX 15 23 [(5, .int x5_21), (4, .int 1000000), (0, .ref (kA K 28)), (1, .ref (kA K v1)), (2, .int v2), (3, .int v3)] rfl rfl (Nat.le_of_ble_eq_true rfl) rfl ?_
    refine VV_sub [2, 3, 4, 5, 1, 0] rfl ?_
    exact bt_Di_errorOfBeginning_23 hX v1 v2 v3 hv1 fuel0 1000000 x5_21 M
  · refine V_aload_n hX (j := 1) (hj := rfl) 3 6 rfl rfl ?_
    refine V_iconst hX (v := 0) (hv := by decide) 4 7 rfl rfl ?_
    refine V_iload_n hX (j := 3) (hj := rfl) 5 8 rfl rfl ?_
    refine V_iconst hX (v := 1) (hv := by decide) 6 9 rfl rfl ?_
    refine V_isub hX 7 10 rfl rfl ?_
    refine V_callI hX 13 0 0 rfl rfl rfl (Nat.le_of_ble_eq_true rfl) (Nat.le_of_ble_eq_true rfl) (VR_S hX 8 (ct_Di_spread (cx_t hX) K v1 0 (v3 - 1) M) my_Di_spread mt_Di_spread ml_Di_33 (Nat.le_of_ble_eq_true rfl) (Nat.le_of_ble_eq_true rfl) rfl rfl (Nat.le_of_ble_eq_true rfl) rfl (Nat.le_of_ble_eq_true rfl) (Nat.le_of_ble_eq_true rfl)) (fun r10 M10 => ?_)
    exact V_iret hX 9 rfl (Nat.le_of_ble_eq_true rfl) (Nat.le_of_ble_eq_true rfl) rfl
set_option maxRecDepth 20000 in
theorem ct_Se_size {l : Launch} (hl : l.stackTraces = false) (K : KT) (v0 : Nat) (M : Mm) : CTp l K y_Se_size (Cond.code y_Se_size prog_11_method_2_code 1 (some .int)) rvI 1 0 0 [.ref (kA K v0)] M (fn_Se_size v0 M) := by
  refine CTp_of (L := L_Se_size) (lc := [(0, .ref (kA K v0))]) (by decide +kernel) dec_Se_size hl rfl (Nat.le_of_ble_eq_true rfl) (fun X hX => ?_)
  unfold fn_Se_size
  refine VV_grd (fun hv0 => ?_)
  refine V_aload_n hX (j := 0) (hj := rfl) 0 1 rfl rfl ?_
  refine V_get hX 1 4 v0 (.int (M v0 1)) fl_Se_15 rfl rfl (loc_ser hv0) (ent_ser K _ hv0) rfl ?_
  exact V_iret hX 2 rfl (Nat.le_of_ble_eq_true rfl) (Nat.le_of_ble_eq_true rfl) rfl
set_option maxRecDepth 20000 in
theorem ct_SA_write {l : Launch} (hl : l.stackTraces = false) (K : KT) (v0 : Nat) (v1 : Int32) (v2 : Int32) (M : Mm) : CTp l K y_SA_write (Cond.code y_SA_write prog_1_method_78_code 3 none) rvU 1 0 0 [.ref (kA K v0), .int v1, .int v2] M (fn_SA_write v0 v1 v2 M) := by
  refine CTp_of (L := L_SA_write) (lc := [(0, .ref (kA K v0)), (1, .int v1), (2, .int v2)]) (by decide +kernel) dec_SA_write hl rfl (Nat.le_of_ble_eq_true rfl) (fun X hX => ?_)
  unfold fn_SA_write
  refine VV_grd (fun hv0 => ?_)
  refine V_iload_n hX (j := 1) (hj := rfl) 0 1 rfl rfl ?_
  refine V_if_lt hX 1 4 14 rfl rfl (by decide) (fun c1 => ?_) (fun c1 => ?_)
  · exact V_vret hX 10 rfl (Nat.le_of_ble_eq_true rfl) (Nat.le_of_ble_eq_true rfl) rfl
  · refine V_iload_n hX (j := 1) (hj := rfl) 2 5 rfl rfl ?_
    refine V_aload_n hX (j := 0) (hj := rfl) 3 6 rfl rfl ?_
    refine V_alen hX 4 7 v0 (alen v0) (nI (alen v0)) hv0 rfl rfl rfl rfl ?_
    refine V_icmp_ge hX 5 10 14 rfl rfl (by decide) (fun c7 => ?_) (fun c7 => ?_)
    · exact V_vret hX 10 rfl (Nat.le_of_ble_eq_true rfl) (Nat.le_of_ble_eq_true rfl) rfl
    · refine V_aload_n hX (j := 0) (hj := rfl) 6 11 rfl rfl ?_
      refine V_iload_n hX (j := 1) (hj := rfl) 7 12 rfl rfl ?_
      refine V_iload_n hX (j := 2) (hj := rfl) 8 13 rfl rfl ?_
      refine V_iast hX 9 14 v0 (alen v0) hv0 rfl rfl rfl (fun g13 M13 hM13 => ?_)
      exact V_vret hX 10 rfl (Nat.le_of_ble_eq_true rfl) (Nat.le_of_ble_eq_true rfl) rfl
set_option maxRecDepth 20000 in
theorem bt_Di_error_47 {l : Launch} {K : KT} {X : XT} (hX : Cx l K 5 5 0 0 X prog_3_method_2_code "SeriesArchive$Divisions" (some .int) [] L_Di_error) (k2 : Int32 → Mm → Rs Int32) (v1 : Nat) (v2 : Int32) (v3 : Int32) (hk2 : ∀ (v3 : Int32) M, VV l K 5 5 0 0 rvI X (k2 v3 M) 0 0 M 2 [(0, .ref (kA K 28)), (1, .ref (kA K v1)), (2, .int v2), (3, .int v3)] []) (hv1 : isSer v1) (M : Mm) : VV l K 5 5 0 0 rvI X (fn_Di_error_47 k2 v1 v2 v3 M) 0 0 M 47 [(0, .ref (kA K 28)), (1, .ref (kA K v1)), (2, .int v2), (3, .int v3)] [] := by
  unfold fn_Di_error_47
  refine V_iincL hX 26 50 3 rfl rfl rfl rfl (Nat.le_of_ble_eq_true rfl) (fun x3_47 hx3_47 => ?_)
  refine VV_lc [(3, .int x3_47), (0, .ref (kA K 28)), (1, .ref (kA K v1)), (2, .int v2)] rfl ?_
  refine V_goto hX 27 2 rfl (by decide) ?_
  refine VV_sub [1, 2, 3, 0] rfl ?_
  exact hk2 x3_47 M
set_option maxRecDepth 20000 in
theorem bt_Di_error_10 {l : Launch} {K : KT} {X : XT} (hX : Cx l K 5 5 0 0 X prog_3_method_2_code "SeriesArchive$Divisions" (some .int) [] L_Di_error) (k2 : Int32 → Mm → Rs Int32) (v1 : Nat) (v2 : Int32) (v3 : Int32) (hk2 : ∀ (v3 : Int32) M, VV l K 5 5 0 0 rvI X (k2 v3 M) 0 0 M 2 [(0, .ref (kA K 28)), (1, .ref (kA K v1)), (2, .int v2), (3, .int v3)] []) (hv1 : isSer v1) : ∀ (n : Nat) (v4 : Int32) (M : Mm), VV l K 5 5 0 0 rvI X (fn_Di_error_10 k2 v1 v2 v3 n v4 M) 0 0 M 10 [(0, .ref (kA K 28)), (1, .ref (kA K v1)), (2, .int v2), (3, .int v3), (4, .int v4)] [] := by
  intro n
  induction n with
  | zero => intro v4 M; exact VV_none
  | succ n ih =>
    intro v4 M
    rw [fn_Di_error_10]
    refine V_iload hX (j := 4) (hj := rfl) 7 12 rfl rfl ?_
    refine V_aload_n hX (j := 1) (hj := rfl) 8 13 rfl rfl ?_
    refine V_callI hX 16 0 0 rfl rfl rfl (Nat.le_of_ble_eq_true rfl) (Nat.le_of_ble_eq_true rfl) (VR_V hX 9 (ct_Se_size (cx_t hX) K v1 M) my_Se_size mi_Se_size ms_Se_size ml_Di_15 (Nat.le_of_ble_eq_true rfl) (Nat.le_of_ble_eq_true rfl) (loc_ser hv1) (ent_ser K _ hv1) rfl rfl rfl (Nat.le_of_ble_eq_true rfl) rfl (Nat.le_of_ble_eq_true rfl) (Nat.le_of_ble_eq_true rfl)) (fun r13 M13 => ?_)
    refine V_icmp_gt hX 10 19 47 rfl rfl (by decide) (fun c16 => ?_) (fun c16 => ?_)
    · refine VV_sub [0, 1, 2, 3] rfl ?_
      exact bt_Di_error_47 hX k2 v1 v2 v3 hk2 hv1 M13
    · refine V_aload_n hX (j := 0) (hj := rfl) 11 20 rfl rfl ?_
      refine V_get hX 12 23 28 (.ref (kA K 29)) fl_Di_11 rfl rfl (by decide) (ent_28 K _) rfl ?_
      refine V_iload_n hX (j := 3) (hj := rfl) 13 24 rfl rfl ?_
      refine V_bipush hX (v := 21) (hv := by decide) 14 26 rfl rfl ?_
      refine V_imul hX 15 27 rfl rfl ?_
      refine V_iload hX (j := 4) (hj := rfl) 16 29 rfl rfl ?_
      refine V_iadd hX 17 30 rfl rfl ?_
      refine V_aload_n hX (j := 0) (hj := rfl) 18 31 rfl rfl ?_
      refine V_aload_n hX (j := 1) (hj := rfl) 19 32 rfl rfl ?_
      refine V_iload_n hX (j := 3) (hj := rfl) 20 33 rfl rfl ?_
      refine V_iload hX (j := 4) (hj := rfl) 21 35 rfl rfl ?_
      refine V_callI hX 38 0 0 rfl rfl rfl (Nat.le_of_ble_eq_true rfl) (Nat.le_of_ble_eq_true rfl) (VR_V hX 22 (ct_Di_errorOfBeginning (cx_t hX) K v1 v3 v4 M13) my_Di_errorOfBeginning mi_Di_errorOfBeginning ms_Di_errorOfBeginning ml_Di_21 (Nat.le_of_ble_eq_true rfl) (Nat.le_of_ble_eq_true rfl) (by decide) (ent_28 K _) rfl rfl rfl (Nat.le_of_ble_eq_true rfl) rfl (Nat.le_of_ble_eq_true rfl) (Nat.le_of_ble_eq_true rfl)) (fun r35 M35 => ?_)
      refine V_callU hX 41 0 0 rfl rfl rfl (Nat.le_of_ble_eq_true rfl) (Nat.le_of_ble_eq_true rfl) (VR_SN hX 23 (ct_SA_write (cx_t hX) K 29 ((v3 * 21) + v4) r35 M35) my_SA_write mt_SA_write mn_Di_25 (Nat.le_of_ble_eq_true rfl) (Nat.le_of_ble_eq_true rfl) rfl rfl (Nat.le_of_ble_eq_true rfl) rfl (Nat.le_of_ble_eq_true rfl) (Nat.le_of_ble_eq_true rfl)) (fun r38 M38 => ?_)
      refine V_iincL hX 24 44 4 rfl rfl rfl rfl (Nat.le_of_ble_eq_true rfl) (fun x4_41 hx4_41 => ?_)
      refine VV_lc [(4, .int x4_41), (0, .ref (kA K 28)), (1, .ref (kA K v1)), (2, .int v2), (3, .int v3)] rfl ?_
      refine V_goto hX 25 10 rfl (by decide) ?_
      refine VV_sub [1, 2, 3, 4, 0] rfl ?_
      exact ih x4_41 M38
set_option maxRecDepth 20000 in
theorem bt_Di_error_53 {l : Launch} {K : KT} {X : XT} (hX : Cx l K 5 5 0 0 X prog_3_method_2_code "SeriesArchive$Divisions" (some .int) [] L_Di_error) (v1 : Nat) (v2 : Int32) (hv1 : isSer v1) (M : Mm) : VV l K 5 5 0 0 rvI X (fn_Di_error_53 v1 v2 M) 0 0 M 53 [(0, .ref (kA K 28)), (1, .ref (kA K v1)), (2, .int v2)] [] := by
  unfold fn_Di_error_53
  refine V_aload_n hX (j := 0) (hj := rfl) 28 54 rfl rfl ?_
  refine V_get hX 29 57 28 (.ref (kA K 29)) fl_Di_11 rfl rfl (by decide) (ent_28 K _) rfl ?_
  refine V_iload_n hX (j := 2) (hj := rfl) 30 58 rfl rfl ?_
  refine V_bipush hX (v := 21) (hv := by decide) 31 60 rfl rfl ?_
  refine V_imul hX 32 61 rfl rfl ?_
  refine V_aload_n hX (j := 1) (hj := rfl) 33 62 rfl rfl ?_
  refine V_callI hX 65 0 0 rfl rfl rfl (Nat.le_of_ble_eq_true rfl) (Nat.le_of_ble_eq_true rfl) (VR_V hX 34 (ct_Se_size (cx_t hX) K v1 M) my_Se_size mi_Se_size ms_Se_size ml_Di_15 (Nat.le_of_ble_eq_true rfl) (Nat.le_of_ble_eq_true rfl) (loc_ser hv1) (ent_ser K _ hv1) rfl rfl rfl (Nat.le_of_ble_eq_true rfl) rfl (Nat.le_of_ble_eq_true rfl) (Nat.le_of_ble_eq_true rfl)) (fun r62 M62 => ?_)
  refine V_iadd hX 35 66 rfl rfl ?_
  refine V_callI hX 69 0 0 rfl rfl rfl (Nat.le_of_ble_eq_true rfl) (Nat.le_of_ble_eq_true rfl) (VR_SN hX 36 (ct_SA_read (cx_t hX) K 29 ((v2 * 21) + r62) M62) my_SA_read mt_SA_read mn_Di_29 (Nat.le_of_ble_eq_true rfl) (Nat.le_of_ble_eq_true rfl) rfl rfl (Nat.le_of_ble_eq_true rfl) rfl (Nat.le_of_ble_eq_true rfl) (Nat.le_of_ble_eq_true rfl)) (fun r66 M66 => ?_)
  exact V_iret hX 37 rfl (Nat.le_of_ble_eq_true rfl) (Nat.le_of_ble_eq_true rfl) rfl
set_option maxRecDepth 20000 in
theorem bt_Di_error_2 {l : Launch} {K : KT} {X : XT} (hX : Cx l K 5 5 0 0 X prog_3_method_2_code "SeriesArchive$Divisions" (some .int) [] L_Di_error) (v1 : Nat) (v2 : Int32) (hv1 : isSer v1) : ∀ (n : Nat) (v3 : Int32) (M : Mm), VV l K 5 5 0 0 rvI X (fn_Di_error_2 v1 v2 n v3 M) 0 0 M 2 [(0, .ref (kA K 28)), (1, .ref (kA K v1)), (2, .int v2), (3, .int v3)] [] := by
  intro n
  induction n with
  | zero => intro v3 M; exact VV_none
  | succ n ih =>
    intro v3 M
    rw [fn_Di_error_2]
    refine V_iload_n hX (j := 3) (hj := rfl) 2 3 rfl rfl ?_
    refine V_iload_n hX (j := 2) (hj := rfl) 3 4 rfl rfl ?_
    refine V_icmp_gt hX 4 7 53 rfl rfl (by decide) (fun c4 => ?_) (fun c4 => ?_)
    · refine VV_sub [0, 1, 2] rfl ?_
      exact bt_Di_error_53 hX v1 v2 hv1 M
    · refine V_iload_n hX (j := 3) (hj := rfl) 5 8 rfl rfl ?_
      refine V_istore hX 6 10 [(4, .int v3), (0, .ref (kA K 28)), (1, .ref (kA K v1)), (2, .int v2), (3, .int v3)] rfl rfl (Nat.le_of_ble_eq_true rfl) rfl ?_
      refine VV_sub [1, 2, 3, 4, 0] rfl ?_
      exact bt_Di_error_10 hX (fn_Di_error_2 v1 v2 n) v1 v2 v3 ih hv1 fuel0 v3 M
set_option maxRecDepth 20000 in
theorem ct_Di_error {l : Launch} (hl : l.stackTraces = false) (K : KT) (v1 : Nat) (v2 : Int32) (M : Mm) : CTp l K y_Di_error (Cond.code y_Di_error prog_3_method_2_code 5 (some .int)) rvI 5 0 0 [.ref (kA K 28), .ref (kA K v1), .int v2] M (fn_Di_error v1 v2 M) := by
  refine CTp_of (L := L_Di_error) (lc := [(0, .ref (kA K 28)), (1, .ref (kA K v1)), (2, .int v2)]) (by decide +kernel) dec_Di_error hl rfl (Nat.le_of_ble_eq_true rfl) (fun X hX => ?_)
  unfold fn_Di_error
  refine VV_grd (fun hv1 => ?_)
  refine V_iconst hX (v := 1) (hv := by decide) 0 1 rfl rfl ?_
  refine V_istore_n hX 1 2 [(3, .int 1), (0, .ref (kA K 28)), (1, .ref (kA K v1)), (2, .int v2)] rfl rfl (Nat.le_of_ble_eq_true rfl) rfl ?_
  refine VV_sub [1, 2, 3, 0] rfl ?_
  exact bt_Di_error_2 hX v1 v2 hv1 fuel0 1 M
set_option maxRecDepth 20000 in
theorem bt_Di_leastByCuts_10 {l : Launch} {K : KT} {d : Nat} {X : XT} (hX : Cx l K d 6 0 0 X prog_3_method_6_code "SeriesArchive$Divisions" (some .int) [] L_Di_leastByCuts) {d9 : Nat} (hd : d9 + 1 ≤ d ∧ 4 ≤ d) (rec : Nat → Int32 → Int32 → Mm → Rs Int32) (hrec : ∀ (w0 : Nat) (w1 : Int32) (w2 : Int32) (M : Mm), CTp l K y_Di_leastByCuts (Cond.code y_Di_leastByCuts prog_3_method_6_code 6 (some .int)) rvI d9 0 0 [.ref (kA K w0), .int w1, .int w2] M (rec w0 w1 w2 M)) (v0 : Nat) (v1 : Int32) (hv0 : isSer v0) (M : Mm) : VV l K d 6 0 0 rvI X (fn_Di_leastByCuts_10 rec v0 v1 M) 0 0 M 10 [(0, .ref (kA K v0)), (1, .int v1)] [] := by
  unfold fn_Di_leastByCuts_10
  refine V_aload_n hX (j := 0) (hj := rfl) 6 11 rfl rfl ?_
  refine V_iload_n hX (j := 1) (hj := rfl) 7 12 rfl rfl ?_
  refine V_aload_n hX (j := 0) (hj := rfl) 8 13 rfl rfl ?_
  refine V_callI hX 16 0 0 rfl rfl rfl (Nat.le_of_ble_eq_true rfl) (Nat.le_of_ble_eq_true rfl) (VR_V hX 9 (ct_Se_size (cx_t hX) K v0 M) my_Se_size mi_Se_size ms_Se_size ml_Di_15 (by omega) (Nat.le_of_ble_eq_true rfl) (loc_ser hv0) (ent_ser K _ hv0) rfl rfl rfl (Nat.le_of_ble_eq_true rfl) rfl (Nat.le_of_ble_eq_true rfl) (Nat.le_of_ble_eq_true rfl)) (fun r13 M13 => ?_)
  refine V_iconst hX (v := 1) (hv := by decide) 10 17 rfl rfl ?_
  refine V_isub hX 11 18 rfl rfl ?_
  refine V_callI hX 21 0 0 rfl rfl rfl (Nat.le_of_ble_eq_true rfl) (Nat.le_of_ble_eq_true rfl) (VR_S hX 12 (ct_Di_spread (cx_t hX) K v0 v1 (r13 - 1) M13) my_Di_spread mt_Di_spread ml_Di_33 (by omega) (Nat.le_of_ble_eq_true rfl) rfl rfl (Nat.le_of_ble_eq_true rfl) rfl (Nat.le_of_ble_eq_true rfl) (Nat.le_of_ble_eq_true rfl)) (fun r18 M18 => ?_)
  exact V_iret hX 13 rfl (Nat.le_of_ble_eq_true rfl) (Nat.le_of_ble_eq_true rfl) rfl
set_option maxRecDepth 20000 in
theorem bt_Di_leastByCuts_30 {l : Launch} {K : KT} {d : Nat} {X : XT} (hX : Cx l K d 6 0 0 X prog_3_method_6_code "SeriesArchive$Divisions" (some .int) [] L_Di_leastByCuts) {d9 : Nat} (hd : d9 + 1 ≤ d ∧ 4 ≤ d) (rec : Nat → Int32 → Int32 → Mm → Rs Int32) (hrec : ∀ (w0 : Nat) (w1 : Int32) (w2 : Int32) (M : Mm), CTp l K y_Di_leastByCuts (Cond.code y_Di_leastByCuts prog_3_method_6_code 6 (some .int)) rvI d9 0 0 [.ref (kA K w0), .int w1, .int w2] M (rec w0 w1 w2 M)) (v0 : Nat) (v1 : Int32) (v2 : Int32) (hv0 : isSer v0) : ∀ (n : Nat) (v3 : Int32) (v4 : Int32) (M : Mm), VV l K d 6 0 0 rvI X (fn_Di_leastByCuts_30 rec v0 v1 v2 n v3 v4 M) 0 0 M 30 [(0, .ref (kA K v0)), (1, .int v1), (2, .int v2), (3, .int v3), (4, .int v4)] [] := by
  intro n
  induction n with
  | zero => intro v3 v4 M; exact VV_none
  | succ n ih =>
    intro v3 v4 M
    rw [fn_Di_leastByCuts_30]
    refine V_iload hX (j := 4) (hj := rfl) 20 32 rfl rfl ?_
    refine V_aload_n hX (j := 0) (hj := rfl) 21 33 rfl rfl ?_
    refine V_callI hX 36 0 0 rfl rfl rfl (Nat.le_of_ble_eq_true rfl) (Nat.le_of_ble_eq_true rfl) (VR_V hX 22 (ct_Se_size (cx_t hX) K v0 M) my_Se_size mi_Se_size ms_Se_size ml_Di_15 (by omega) (Nat.le_of_ble_eq_true rfl) (loc_ser hv0) (ent_ser K _ hv0) rfl rfl rfl (Nat.le_of_ble_eq_true rfl) rfl (Nat.le_of_ble_eq_true rfl) (Nat.le_of_ble_eq_true rfl)) (fun r33 M33 => ?_)
    refine V_iload_n hX (j := 2) (hj := rfl) 23 37 rfl rfl ?_
    refine V_isub hX 24 38 rfl rfl ?_
    refine V_iconst hX (v := 1) (hv := by decide) 25 39 rfl rfl ?_
    refine V_iadd hX 26 40 rfl rfl ?_
    refine V_icmp_gt hX 27 43 77 rfl rfl (by decide) (fun c40 => ?_) (fun c40 => ?_)
    · refine V_iload_n hX (j := 3) (hj := rfl) 48 78 rfl rfl ?_
      exact V_iret hX 49 rfl (Nat.le_of_ble_eq_true rfl) (Nat.le_of_ble_eq_true rfl) rfl
    · refine V_aload_n hX (j := 0) (hj := rfl) 28 44 rfl rfl ?_
      refine V_iload hX (j := 4) (hj := rfl) 29 46 rfl rfl ?_
      refine V_iload_n hX (j := 2) (hj := rfl) 30 47 rfl rfl ?_
      refine V_iconst hX (v := 1) (hv := by decide) 31 48 rfl rfl ?_
      refine V_isub hX 32 49 rfl rfl ?_
      refine V_callI hX 52 0 0 rfl rfl rfl (Nat.le_of_ble_eq_true rfl) (Nat.le_of_ble_eq_true rfl) (VR_S hX 33 (hrec v0 v4 (v2 - 1) M33) my_Di_leastByCuts mt_Di_leastByCuts ml_Di_49 (by omega) (Nat.le_of_ble_eq_true rfl) rfl rfl (Nat.le_of_ble_eq_true rfl) rfl (Nat.le_of_ble_eq_true rfl) (Nat.le_of_ble_eq_true rfl)) (fun r49 M49 => ?_)
      refine V_istore hX 34 54 [(5, .int r49), (0, .ref (kA K v0)), (1, .int v1), (2, .int v2), (3, .int v3), (4, .int v4)] rfl rfl (Nat.le_of_ble_eq_true rfl) rfl ?_
      refine V_iload_n hX (j := 4) (hj := rfl) 35 55 rfl rfl ?_
      refine V_aload_n hX (j := 1) (hj := rfl) 36 56 rfl rfl ?_
      refine V_iload_n hX (j := 2) (hj := rfl) 37 57 rfl rfl ?_
      refine V_iload hX (j := 5) (hj := rfl) 38 59 rfl rfl ?_
      refine V_iconst hX (v := 1) (hv := by decide) 39 60 rfl rfl ?_
      refine V_isub hX 40 61 rfl rfl ?_
      refine V_callI hX 64 0 0 rfl rfl rfl (Nat.le_of_ble_eq_true rfl) (Nat.le_of_ble_eq_true rfl) (VR_S hX 41 (ct_Di_spread (cx_t hX) K v0 v1 (v4 - 1) M49) my_Di_spread mt_Di_spread ml_Di_33 (by omega) (Nat.le_of_ble_eq_true rfl) rfl rfl (Nat.le_of_ble_eq_true rfl) rfl (Nat.le_of_ble_eq_true rfl) (Nat.le_of_ble_eq_true rfl)) (fun r61 M61 => ?_)
      refine V_iload hX (j := 0) (hj := rfl) 42 66 rfl rfl ?_
      refine V_iadd hX 43 67 rfl rfl ?_
      refine V_min hX 44 70 mm_Di_37 (by omega) (Nat.le_of_ble_eq_true rfl) (Nat.le_of_ble_eq_true rfl) (Nat.le_of_ble_eq_true rfl) rfl rfl ?_
      refine VV_li (fun x3_70 hx3_70 => ?_)
      refine V_istore_n hX 45 71 [(3, .int x3_70), (5, .int r49), (0, .ref (kA K v0)), (1, .int v1), (2, .int v2), (4, .int v4)] rfl rfl (Nat.le_of_ble_eq_true rfl) rfl ?_
      refine V_iincL hX 46 74 5 rfl rfl rfl rfl (Nat.le_of_ble_eq_true rfl) (fun x4_71 hx4_71 => ?_)
      refine VV_lc [(4, .int x4_71), (3, .int x3_70), (5, .int r49), (0, .ref (kA K v0)), (1, .int v1), (2, .int v2)] rfl ?_
      refine V_goto hX 47 30 rfl (by decide) ?_
      refine VV_sub [3, 4, 5, 1, 0] rfl ?_
      exact ih x3_70 x4_71 M61
set_option maxRecDepth 20000 in
theorem ct_Di_leastByCuts {l : Launch} (hl : l.stackTraces = false) (K : KT) : ∀ (n : Nat) (v0 : Nat) (v1 : Int32) (v2 : Int32) (M : Mm), CTp l K y_Di_leastByCuts (Cond.code y_Di_leastByCuts prog_3_method_6_code 6 (some .int)) rvI (4 + n) 0 0 [.ref (kA K v0), .int v1, .int v2] M (fn_Di_leastByCuts n v0 v1 v2 M) := by
  intro n
  induction n with
  | zero => intro v0 v1 v2 M o M1 h; cases h
  | succ n ih =>
    intro v0 v1 v2 M
    rw [fn_Di_leastByCuts]
    refine CTp_of (L := L_Di_leastByCuts) (lc := [(0, .ref (kA K v0)), (1, .int v1), (2, .int v2)]) (by decide +kernel) dec_Di_leastByCuts hl rfl (Nat.le_of_ble_eq_true rfl) (fun X hX => ?_)
    have hd : 4 + n + 1 ≤ 4 + (n + 1) ∧ 4 ≤ 4 + (n + 1) := ⟨by omega, by omega⟩
    refine VV_grd (fun hv0 => ?_)
    refine V_iload_n hX (j := 2) (hj := rfl) 0 1 rfl rfl ?_
    refine V_iconst hX (v := 1) (hv := by decide) 1 2 rfl rfl ?_
    refine V_icmp_le hX 2 5 10 rfl rfl (by decide) (fun c2 => ?_) (fun c2 => ?_)
    · refine VV_sub [0, 1] rfl ?_
      exact bt_Di_leastByCuts_10 hX hd (fn_Di_leastByCuts n) ih v0 v1 hv0 M
    · refine V_iload_n hX (j := 2) (hj := rfl) 3 6 rfl rfl ?_
      refine V_iconst hX (v := 4) (hv := by decide) 4 7 rfl rfl ?_
      refine V_icmp_le hX 5 10 22 rfl rfl (by decide) (fun c7 => ?_) (fun c7 => ?_)
      · refine V_ldcI hX 14 24 co_Di_36 rfl rfl ?_
        refine V_istore_n hX 15 25 [(3, .int 1000000), (0, .ref (kA K v0)), (1, .int v1), (2, .int v2)] rfl rfl (Nat.le_of_ble_eq_true rfl) rfl ?_
        refine V_iload_n hX (j := 2) (hj := rfl) 16 26 rfl rfl ?_
        refine V_iconst hX (v := 1) (hv := by decide) 17 27 rfl rfl ?_
        refine V_iadd hX 18 28 rfl rfl ?_
        refine VV_li (fun x4_28 hx4_28 => ?_)
        refine V_istore hX 19 30 [(4, .int x4_28), (3, .int 1000000), (0, .ref (kA K v0)), (1, .int v1), (2, .int v2)] rfl rfl (Nat.le_of_ble_eq_true rfl) rfl ?_
        refine VV_sub [2, 3, 4, 1, 0] rfl ?_
        exact bt_Di_leastByCuts_30 hX hd (fn_Di_leastByCuts n) ih v0 v1 v2 hv0 fuel0 1000000 x4_28 M
      · refine VV_sub [0, 1] rfl ?_
        exact bt_Di_leastByCuts_10 hX hd (fn_Di_leastByCuts n) ih v0 v1 hv0 M
set_option maxRecDepth 20000 in
theorem ct_Di_errorByCuts {l : Launch} (hl : l.stackTraces = false) (K : KT) (v0 : Nat) (v1 : Int32) (M : Mm) : CTp l K y_Di_errorByCuts (Cond.code y_Di_errorByCuts prog_3_method_5_code 2 (some .int)) rvI 50 0 0 [.ref (kA K v0), .int v1] M (fn_Di_errorByCuts v0 v1 M) := by
  refine CTp_of (L := L_Di_errorByCuts) (lc := [(0, .ref (kA K v0)), (1, .int v1)]) (by decide +kernel) dec_Di_errorByCuts hl rfl (Nat.le_of_ble_eq_true rfl) (fun X hX => ?_)
  unfold fn_Di_errorByCuts
  refine VV_grd (fun hv0 => ?_)
  refine V_aload_n hX (j := 0) (hj := rfl) 0 1 rfl rfl ?_
  refine V_iconst hX (v := 0) (hv := by decide) 1 2 rfl rfl ?_
  refine V_iload_n hX (j := 1) (hj := rfl) 2 3 rfl rfl ?_
  refine V_callI hX 6 0 0 rfl rfl rfl (Nat.le_of_ble_eq_true rfl) (Nat.le_of_ble_eq_true rfl) (VR_S hX 3 (ct_Di_leastByCuts (cx_t hX) K 45 v0 0 v1 M) my_Di_leastByCuts mt_Di_leastByCuts ml_Di_49 (Nat.le_of_ble_eq_true rfl) (Nat.le_of_ble_eq_true rfl) rfl rfl (Nat.le_of_ble_eq_true rfl) rfl (Nat.le_of_ble_eq_true rfl) (Nat.le_of_ble_eq_true rfl)) (fun r3 M3 => ?_)
  exact V_iret hX 4 rfl (Nat.le_of_ble_eq_true rfl) (Nat.le_of_ble_eq_true rfl) rfl
set_option maxRecDepth 20000 in
theorem ct_Di_errorWithCut {l : Launch} (hl : l.stackTraces = false) (K : KT) (v1 : Nat) (v2 : Int32) (v3 : Int32) (v4 : Int32) (M : Mm) : CTp l K y_Di_errorWithCut (Cond.code y_Di_errorWithCut prog_3_method_9_code 5 (some .int)) rvI 4 0 0 [.ref (kA K 28), .ref (kA K v1), .int v2, .int v3, .int v4] M (fn_Di_errorWithCut v1 v2 v3 v4 M) := by
  refine CTp_of (L := L_Di_errorWithCut) (lc := [(0, .ref (kA K 28)), (1, .ref (kA K v1)), (2, .int v2), (3, .int v3), (4, .int v4)]) (by decide +kernel) dec_Di_errorWithCut hl rfl (Nat.le_of_ble_eq_true rfl) (fun X hX => ?_)
  unfold fn_Di_errorWithCut
  refine VV_grd (fun hv1 => ?_)
  refine V_aload_n hX (j := 1) (hj := rfl) 0 1 rfl rfl ?_
  refine V_iload_n hX (j := 3) (hj := rfl) 1 2 rfl rfl ?_
  refine V_iload hX (j := 4) (hj := rfl) 2 4 rfl rfl ?_
  refine V_iconst hX (v := 1) (hv := by decide) 3 5 rfl rfl ?_
  refine V_isub hX 4 6 rfl rfl ?_
  refine V_callI hX 9 0 0 rfl rfl rfl (Nat.le_of_ble_eq_true rfl) (Nat.le_of_ble_eq_true rfl) (VR_S hX 5 (ct_Di_spread (cx_t hX) K v1 v3 (v4 - 1) M) my_Di_spread mt_Di_spread ml_Di_33 (Nat.le_of_ble_eq_true rfl) (Nat.le_of_ble_eq_true rfl) rfl rfl (Nat.le_of_ble_eq_true rfl) rfl (Nat.le_of_ble_eq_true rfl) (Nat.le_of_ble_eq_true rfl)) (fun r6 M6 => ?_)
  refine V_aload_n hX (j := 0) (hj := rfl) 6 10 rfl rfl ?_
  refine V_get hX 7 13 28 (.ref (kA K 29)) fl_Di_11 rfl rfl (by decide) (ent_28 K _) rfl ?_
  refine V_iload_n hX (j := 2) (hj := rfl) 8 14 rfl rfl ?_
  refine V_iconst hX (v := 1) (hv := by decide) 9 15 rfl rfl ?_
  refine V_isub hX 10 16 rfl rfl ?_
  refine V_bipush hX (v := 21) (hv := by decide) 11 18 rfl rfl ?_
  refine V_imul hX 12 19 rfl rfl ?_
  refine V_iload hX (j := 4) (hj := rfl) 13 21 rfl rfl ?_
  refine V_iadd hX 14 22 rfl rfl ?_
  refine V_callI hX 25 0 0 rfl rfl rfl (Nat.le_of_ble_eq_true rfl) (Nat.le_of_ble_eq_true rfl) (VR_SN hX 15 (ct_SA_read (cx_t hX) K 29 (((v2 - 1) * 21) + v4) M6) my_SA_read mt_SA_read mn_Di_29 (Nat.le_of_ble_eq_true rfl) (Nat.le_of_ble_eq_true rfl) rfl rfl (Nat.le_of_ble_eq_true rfl) rfl (Nat.le_of_ble_eq_true rfl) (Nat.le_of_ble_eq_true rfl)) (fun r22 M22 => ?_)
  refine V_iadd hX 16 26 rfl rfl ?_
  exact V_iret hX 17 rfl (Nat.le_of_ble_eq_true rfl) (Nat.le_of_ble_eq_true rfl) rfl
set_option maxRecDepth 20000 in
theorem bt_Di_errorOfEnding_26 {l : Launch} {K : KT} {X : XT} (hX : Cx l K 5 6 0 0 X prog_3_method_8_code "SeriesArchive$Divisions" (some .int) [] L_Di_errorOfEnding) (v1 : Nat) (v2 : Int32) (v3 : Int32) (hv1 : isSer v1) : ∀ (n : Nat) (v4 : Int32) (v5 : Int32) (M : Mm), VV l K 5 6 0 0 rvI X (fn_Di_errorOfEnding_26 v1 v2 v3 n v4 v5 M) 0 0 M 26 [(0, .ref (kA K 28)), (1, .ref (kA K v1)), (2, .int v2), (3, .int v3), (4, .int v4), (5, .int v5)] [] := by
  intro n
  induction n with
  | zero => intro v4 v5 M; exact VV_none
  | succ n ih =>
    intro v4 v5 M
    rw [fn_Di_errorOfEnding_26]
    refine V_iload hX (j := 5) (hj := rfl) 17 28 rfl rfl ?_
    refine V_aload_n hX (j := 1) (hj := rfl) 18 29 rfl rfl ?_
    refine V_callI hX 32 0 0 rfl rfl rfl (Nat.le_of_ble_eq_true rfl) (Nat.le_of_ble_eq_true rfl) (VR_V hX 19 (ct_Se_size (cx_t hX) K v1 M) my_Se_size mi_Se_size ms_Se_size ml_Di_15 (Nat.le_of_ble_eq_true rfl) (Nat.le_of_ble_eq_true rfl) (loc_ser hv1) (ent_ser K _ hv1) rfl rfl rfl (Nat.le_of_ble_eq_true rfl) rfl (Nat.le_of_ble_eq_true rfl) (Nat.le_of_ble_eq_true rfl)) (fun r29 M29 => ?_)
    refine V_iload_n hX (j := 2) (hj := rfl) 20 33 rfl rfl ?_
    refine V_isub hX 21 34 rfl rfl ?_
    refine V_iconst hX (v := 1) (hv := by decide) 22 35 rfl rfl ?_
    refine V_iadd hX 23 36 rfl rfl ?_
    refine V_icmp_gt hX 24 39 61 rfl rfl (by decide) (fun c36 => ?_) (fun c36 => ?_)
    · refine V_iload hX (j := 4) (hj := rfl) 36 63 rfl rfl ?_
      exact V_iret hX 37 rfl (Nat.le_of_ble_eq_true rfl) (Nat.le_of_ble_eq_true rfl) rfl
    · refine V_iload hX (j := 4) (hj := rfl) 25 41 rfl rfl ?_
      refine V_aload_n hX (j := 0) (hj := rfl) 26 42 rfl rfl ?_
      refine V_aload_n hX (j := 1) (hj := rfl) 27 43 rfl rfl ?_
      refine V_iload_n hX (j := 2) (hj := rfl) 28 44 rfl rfl ?_
      refine V_iload_n hX (j := 3) (hj := rfl) 29 45 rfl rfl ?_
      refine V_iload hX (j := 5) (hj := rfl) 30 47 rfl rfl ?_
      refine V_callI hX 50 0 0 rfl rfl rfl (Nat.le_of_ble_eq_true rfl) (Nat.le_of_ble_eq_true rfl) (VR_V hX 31 (ct_Di_errorWithCut (cx_t hX) K v1 v2 v3 v5 M29) my_Di_errorWithCut mi_Di_errorWithCut ms_Di_errorWithCut ml_Di_58 (Nat.le_of_ble_eq_true rfl) (Nat.le_of_ble_eq_true rfl) (by decide) (ent_28 K _) rfl rfl rfl (Nat.le_of_ble_eq_true rfl) rfl (Nat.le_of_ble_eq_true rfl) (Nat.le_of_ble_eq_true rfl)) (fun r47 M47 => ?_)
      refine V_min hX 32 53 mm_Di_37 (Nat.le_of_ble_eq_true rfl) (Nat.le_of_ble_eq_true rfl) (Nat.le_of_ble_eq_true rfl) (Nat.le_of_ble_eq_true rfl) rfl rfl ?_
      refine VV_li (fun x4_53 hx4_53 => ?_)
      refine V_istore hX 33 55 [(4, .int x4_53), (0, .ref (kA K 28)), (1, .ref (kA K v1)), (2, .int v2), (3, .int v3), (5, .int v5)] rfl rfl (Nat.le_of_ble_eq_true rfl) rfl ?_
      refine V_iincL hX 34 58 5 rfl rfl rfl rfl (Nat.le_of_ble_eq_true rfl) (fun x5_55 hx5_55 => ?_)
      refine VV_lc [(5, .int x5_55), (4, .int x4_53), (0, .ref (kA K 28)), (1, .ref (kA K v1)), (2, .int v2), (3, .int v3)] rfl ?_
      refine V_goto hX 35 26 rfl (by decide) ?_
      refine VV_sub [2, 3, 4, 5, 1, 0] rfl ?_
      exact ih x4_53 x5_55 M47
set_option maxRecDepth 20000 in
theorem ct_Di_errorOfEnding {l : Launch} (hl : l.stackTraces = false) (K : KT) (v1 : Nat) (v2 : Int32) (v3 : Int32) (M : Mm) : CTp l K y_Di_errorOfEnding (Cond.code y_Di_errorOfEnding prog_3_method_8_code 6 (some .int)) rvI 5 0 0 [.ref (kA K 28), .ref (kA K v1), .int v2, .int v3] M (fn_Di_errorOfEnding v1 v2 v3 M) := by
  refine CTp_of (L := L_Di_errorOfEnding) (lc := [(0, .ref (kA K 28)), (1, .ref (kA K v1)), (2, .int v2), (3, .int v3)]) (by decide +kernel) dec_Di_errorOfEnding hl rfl (Nat.le_of_ble_eq_true rfl) (fun X hX => ?_)
  unfold fn_Di_errorOfEnding
  refine VV_grd (fun hv1 => ?_)
  refine V_iload_n hX (j := 2) (hj := rfl) 0 1 rfl rfl ?_
  refine V_iconst hX (v := 1) (hv := by decide) 1 2 rfl rfl ?_
  refine V_icmp_ne hX 2 5 17 rfl rfl (by decide) (fun c2 => ?_) (fun c2 => ?_)
  · refine V_ldcI hX 11 19 co_Di_36 rfl rfl ?_
    refine V_istore hX 12 21 [(4, .int 1000000), (0, .ref (kA K 28)), (1, .ref (kA K v1)), (2, .int v2), (3, .int v3)] rfl rfl (Nat.le_of_ble_eq_true rfl) rfl ?_
    refine V_iload_n hX (j := 4) (hj := rfl) 13 22 rfl rfl ?_
    refine V_iconst hX (v := 1) (hv := by decide) 14 23 rfl rfl ?_
    refine V_iadd hX 15 24 rfl rfl ?_
    refine VV_li (fun x5_24 hx5_24 => ?_)
    refine V_istore hX 16 26 [(5, .int x5_24), (4, .int 1000000), (0, .ref (kA K 28)), (1, .ref (kA K v1)), (2, .int v2), (3, .int v3)] rfl rfl (Nat.le_of_ble_eq_true rfl) rfl ?_
    refine VV_sub [2, 3, 4, 5, 1, 0] rfl ?_
    exact bt_Di_errorOfEnding_26 hX v1 v2 v3 hv1 fuel0 1000000 x5_24 M
  · refine V_aload_n hX (j := 1) (hj := rfl) 3 6 rfl rfl ?_
    refine V_iload_n hX (j := 3) (hj := rfl) 4 7 rfl rfl ?_
    refine V_aload_n hX (j := 1) (hj := rfl) 5 8 rfl rfl ?_
    refine V_callI hX 11 0 0 rfl rfl rfl (Nat.le_of_ble_eq_true rfl) (Nat.le_of_ble_eq_true rfl) (VR_V hX 6 (ct_Se_size (cx_t hX) K v1 M) my_Se_size mi_Se_size ms_Se_size ml_Di_15 (Nat.le_of_ble_eq_true rfl) (Nat.le_of_ble_eq_true rfl) (loc_ser hv1) (ent_ser K _ hv1) rfl rfl rfl (Nat.le_of_ble_eq_true rfl) rfl (Nat.le_of_ble_eq_true rfl) (Nat.le_of_ble_eq_true rfl)) (fun r8 M8 => ?_)
    refine V_iconst hX (v := 1) (hv := by decide) 7 12 rfl rfl ?_
    refine V_isub hX 8 13 rfl rfl ?_
    refine V_callI hX 16 0 0 rfl rfl rfl (Nat.le_of_ble_eq_true rfl) (Nat.le_of_ble_eq_true rfl) (VR_S hX 9 (ct_Di_spread (cx_t hX) K v1 v3 (r8 - 1) M8) my_Di_spread mt_Di_spread ml_Di_33 (Nat.le_of_ble_eq_true rfl) (Nat.le_of_ble_eq_true rfl) rfl rfl (Nat.le_of_ble_eq_true rfl) rfl (Nat.le_of_ble_eq_true rfl) (Nat.le_of_ble_eq_true rfl)) (fun r13 M13 => ?_)
    exact V_iret hX 10 rfl (Nat.le_of_ble_eq_true rfl) (Nat.le_of_ble_eq_true rfl) rfl
set_option maxRecDepth 20000 in
theorem bt_Di_firstCut_20 {l : Launch} {K : KT} {X : XT} (hX : Cx l K 5 6 0 0 X prog_3_method_10_code "SeriesArchive$Divisions" (some .int) [] L_Di_firstCut) (v1 : Nat) (v2 : Int32) (v3 : Int32) (v4 : Int32) (hv1 : isSer v1) : ∀ (n : Nat) (v5 : Int32) (M : Mm), VV l K 5 6 0 0 rvI X (fn_Di_firstCut_20 v1 v2 v3 v4 n v5 M) 0 0 M 20 [(0, .ref (kA K 28)), (1, .ref (kA K v1)), (2, .int v2), (3, .int v3), (4, .int v4), (5, .int v5)] [] := by
  intro n
  induction n with
  | zero => intro v5 M; exact VV_none
  | succ n ih =>
    intro v5 M
    rw [fn_Di_firstCut_20]
    refine V_iload hX (j := 5) (hj := rfl) 13 22 rfl rfl ?_
    refine V_aload_n hX (j := 1) (hj := rfl) 14 23 rfl rfl ?_
    refine V_callI hX 26 0 0 rfl rfl rfl (Nat.le_of_ble_eq_true rfl) (Nat.le_of_ble_eq_true rfl) (VR_V hX 15 (ct_Se_size (cx_t hX) K v1 M) my_Se_size mi_Se_size ms_Se_size ml_Di_15 (Nat.le_of_ble_eq_true rfl) (Nat.le_of_ble_eq_true rfl) (loc_ser hv1) (ent_ser K _ hv1) rfl rfl rfl (Nat.le_of_ble_eq_true rfl) rfl (Nat.le_of_ble_eq_true rfl) (Nat.le_of_ble_eq_true rfl)) (fun r23 M23 => ?_)
    refine V_iload_n hX (j := 2) (hj := rfl) 16 27 rfl rfl ?_
    refine V_isub hX 17 28 rfl rfl ?_
    refine V_iconst hX (v := 1) (hv := by decide) 18 29 rfl rfl ?_
    refine V_iadd hX 19 30 rfl rfl ?_
    refine V_icmp_gt hX 20 33 56 rfl rfl (by decide) (fun c30 => ?_) (fun c30 => ?_)
    · refine V_iload_n hX (j := 3) (hj := rfl) 33 57 rfl rfl ?_
      exact V_iret hX 34 rfl (Nat.le_of_ble_eq_true rfl) (Nat.le_of_ble_eq_true rfl) rfl
    · refine V_aload_n hX (j := 0) (hj := rfl) 21 34 rfl rfl ?_
      refine V_aload_n hX (j := 1) (hj := rfl) 22 35 rfl rfl ?_
      refine V_iload_n hX (j := 2) (hj := rfl) 23 36 rfl rfl ?_
      refine V_iload_n hX (j := 3) (hj := rfl) 24 37 rfl rfl ?_
      refine V_iload hX (j := 5) (hj := rfl) 25 39 rfl rfl ?_
      refine V_callI hX 42 0 0 rfl rfl rfl (Nat.le_of_ble_eq_true rfl) (Nat.le_of_ble_eq_true rfl) (VR_V hX 26 (ct_Di_errorWithCut (cx_t hX) K v1 v2 v3 v5 M23) my_Di_errorWithCut mi_Di_errorWithCut ms_Di_errorWithCut ml_Di_58 (Nat.le_of_ble_eq_true rfl) (Nat.le_of_ble_eq_true rfl) (by decide) (ent_28 K _) rfl rfl rfl (Nat.le_of_ble_eq_true rfl) rfl (Nat.le_of_ble_eq_true rfl) (Nat.le_of_ble_eq_true rfl)) (fun r39 M39 => ?_)
      refine V_iload hX (j := 4) (hj := rfl) 27 44 rfl rfl ?_
      refine V_icmp_ne hX 28 47 50 rfl rfl (by decide) (fun c44 => ?_) (fun c44 => ?_)
      · refine V_iincL hX 31 53 5 rfl rfl rfl rfl (Nat.le_of_ble_eq_true rfl) (fun x5_50 hx5_50 => ?_)
        refine VV_lc [(5, .int x5_50), (0, .ref (kA K 28)), (1, .ref (kA K v1)), (2, .int v2), (3, .int v3), (4, .int v4)] rfl ?_
        refine V_goto hX 32 20 rfl (by decide) ?_
        refine VV_sub [1, 2, 3, 4, 5, 0] rfl ?_
        exact ih x5_50 M39
      · refine V_iload hX (j := 5) (hj := rfl) 29 49 rfl rfl ?_
        exact V_iret hX 30 rfl (Nat.le_of_ble_eq_true rfl) (Nat.le_of_ble_eq_true rfl) rfl
set_option maxRecDepth 20000 in
theorem ct_Di_firstCut {l : Launch} (hl : l.stackTraces = false) (K : KT) (v1 : Nat) (v2 : Int32) (v3 : Int32) (M : Mm) : CTp l K y_Di_firstCut (Cond.code y_Di_firstCut prog_3_method_10_code 6 (some .int)) rvI 5 0 0 [.ref (kA K 28), .ref (kA K v1), .int v2, .int v3] M (fn_Di_firstCut v1 v2 v3 M) := by
  refine CTp_of (L := L_Di_firstCut) (lc := [(0, .ref (kA K 28)), (1, .ref (kA K v1)), (2, .int v2), (3, .int v3)]) (by decide +kernel) dec_Di_firstCut hl rfl (Nat.le_of_ble_eq_true rfl) (fun X hX => ?_)
  unfold fn_Di_firstCut
  refine VV_grd (fun hv1 => ?_)
  refine V_aload_n hX (j := 0) (hj := rfl) 0 1 rfl rfl ?_
  refine V_get hX 1 4 28 (.ref (kA K 29)) fl_Di_11 rfl rfl (by decide) (ent_28 K _) rfl ?_
  refine V_iload_n hX (j := 2) (hj := rfl) 2 5 rfl rfl ?_
  refine V_bipush hX (v := 21) (hv := by decide) 3 7 rfl rfl ?_
  refine V_imul hX 4 8 rfl rfl ?_
  refine V_iload_n hX (j := 3) (hj := rfl) 5 9 rfl rfl ?_
  refine V_iadd hX 6 10 rfl rfl ?_
  refine V_callI hX 13 0 0 rfl rfl rfl (Nat.le_of_ble_eq_true rfl) (Nat.le_of_ble_eq_true rfl) (VR_SN hX 7 (ct_SA_read (cx_t hX) K 29 ((v2 * 21) + v3) M) my_SA_read mt_SA_read mn_Di_29 (Nat.le_of_ble_eq_true rfl) (Nat.le_of_ble_eq_true rfl) rfl rfl (Nat.le_of_ble_eq_true rfl) rfl (Nat.le_of_ble_eq_true rfl) (Nat.le_of_ble_eq_true rfl)) (fun r10 M10 => ?_)
  refine V_istore hX 8 15 [(4, .int r10), (0, .ref (kA K 28)), (1, .ref (kA K v1)), (2, .int v2), (3, .int v3)] rfl rfl (Nat.le_of_ble_eq_true rfl) rfl ?_
  refine V_iload_n hX (j := 4) (hj := rfl) 9 16 rfl rfl ?_
  refine V_iconst hX (v := 1) (hv := by decide) 10 17 rfl rfl ?_
  refine V_iadd hX 11 18 rfl rfl ?_
  refine VV_li (fun x5_18 hx5_18 => ?_)
  refine V_istore hX 12 20 [(5, .int x5_18), (4, .int r10), (0, .ref (kA K 28)), (1, .ref (kA K v1)), (2, .int v2), (3, .int v3)] rfl rfl (Nat.le_of_ble_eq_true rfl) rfl ?_
  refine VV_sub [2, 3, 4, 5, 1, 0] rfl ?_
  exact bt_Di_firstCut_20 hX v1 v2 v3 r10 hv1 fuel0 x5_18 M10
set_option maxRecDepth 20000 in
theorem bt_Di_start_54 {l : Launch} {K : KT} {X : XT} (hX : Cx l K 6 6 0 0 X prog_3_method_7_code "SeriesArchive$Divisions" (some .int) [] L_Di_start) (k3 : Int32 → Mm → Rs Int32) (v1 : Nat) (v2 : Int32) (v3 : Int32) (v4 : Int32) (hk3 : ∀ (v4 : Int32) M, VV l K 6 6 0 0 rvI X (k3 v4 M) 0 0 M 3 [(0, .ref (kA K 28)), (1, .ref (kA K v1)), (2, .int v2), (3, .int v3), (4, .int v4)] []) (hv1 : isSer v1) (M : Mm) : VV l K 6 6 0 0 rvI X (fn_Di_start_54 k3 v1 v2 v3 v4 M) 0 0 M 54 [(0, .ref (kA K 28)), (1, .ref (kA K v1)), (2, .int v2), (3, .int v3), (4, .int v4)] [] := by
  unfold fn_Di_start_54
  refine V_iincL hX 28 57 4 rfl rfl rfl rfl (Nat.le_of_ble_eq_true rfl) (fun x4_54 hx4_54 => ?_)
  refine VV_lc [(4, .int x4_54), (0, .ref (kA K 28)), (1, .ref (kA K v1)), (2, .int v2), (3, .int v3)] rfl ?_
  refine V_goto hX 29 3 rfl (by decide) ?_
  refine VV_sub [1, 2, 3, 4, 0] rfl ?_
  exact hk3 x4_54 M
set_option maxRecDepth 20000 in
theorem bt_Di_start_12 {l : Launch} {K : KT} {X : XT} (hX : Cx l K 6 6 0 0 X prog_3_method_7_code "SeriesArchive$Divisions" (some .int) [] L_Di_start) (k3 : Int32 → Mm → Rs Int32) (v1 : Nat) (v2 : Int32) (v3 : Int32) (v4 : Int32) (hk3 : ∀ (v4 : Int32) M, VV l K 6 6 0 0 rvI X (k3 v4 M) 0 0 M 3 [(0, .ref (kA K 28)), (1, .ref (kA K v1)), (2, .int v2), (3, .int v3), (4, .int v4)] []) (hv1 : isSer v1) : ∀ (n : Nat) (v5 : Int32) (M : Mm), VV l K 6 6 0 0 rvI X (fn_Di_start_12 k3 v1 v2 v3 v4 n v5 M) 0 0 M 12 [(0, .ref (kA K 28)), (1, .ref (kA K v1)), (2, .int v2), (3, .int v3), (4, .int v4), (5, .int v5)] [] := by
  intro n
  induction n with
  | zero => intro v5 M; exact VV_none
  | succ n ih =>
    intro v5 M
    rw [fn_Di_start_12]
    refine V_iload hX (j := 5) (hj := rfl) 7 14 rfl rfl ?_
    refine V_aload_n hX (j := 1) (hj := rfl) 8 15 rfl rfl ?_
    refine V_callI hX 18 0 0 rfl rfl rfl (Nat.le_of_ble_eq_true rfl) (Nat.le_of_ble_eq_true rfl) (VR_V hX 9 (ct_Se_size (cx_t hX) K v1 M) my_Se_size mi_Se_size ms_Se_size ml_Di_15 (Nat.le_of_ble_eq_true rfl) (Nat.le_of_ble_eq_true rfl) (loc_ser hv1) (ent_ser K _ hv1) rfl rfl rfl (Nat.le_of_ble_eq_true rfl) rfl (Nat.le_of_ble_eq_true rfl) (Nat.le_of_ble_eq_true rfl)) (fun r15 M15 => ?_)
    refine V_iload hX (j := 4) (hj := rfl) 10 20 rfl rfl ?_
    refine V_isub hX 11 21 rfl rfl ?_
    refine V_icmp_gt hX 12 24 54 rfl rfl (by decide) (fun c21 => ?_) (fun c21 => ?_)
    · refine VV_sub [0, 1, 2, 3, 4] rfl ?_
      exact bt_Di_start_54 hX k3 v1 v2 v3 v4 hk3 hv1 M15
    · refine V_aload_n hX (j := 0) (hj := rfl) 13 25 rfl rfl ?_
      refine V_get hX 14 28 28 (.ref (kA K 29)) fl_Di_11 rfl rfl (by decide) (ent_28 K _) rfl ?_
      refine V_iload hX (j := 4) (hj := rfl) 15 30 rfl rfl ?_
      refine V_bipush hX (v := 21) (hv := by decide) 16 32 rfl rfl ?_
      refine V_imul hX 17 33 rfl rfl ?_
      refine V_iload hX (j := 5) (hj := rfl) 18 35 rfl rfl ?_
      refine V_iadd hX 19 36 rfl rfl ?_
      refine V_aload_n hX (j := 0) (hj := rfl) 20 37 rfl rfl ?_
      refine V_aload_n hX (j := 1) (hj := rfl) 21 38 rfl rfl ?_
      refine V_iload hX (j := 4) (hj := rfl) 22 40 rfl rfl ?_
      refine V_iload hX (j := 5) (hj := rfl) 23 42 rfl rfl ?_
      refine V_callI hX 45 0 0 rfl rfl rfl (Nat.le_of_ble_eq_true rfl) (Nat.le_of_ble_eq_true rfl) (VR_V hX 24 (ct_Di_errorOfEnding (cx_t hX) K v1 v4 v5 M15) my_Di_errorOfEnding mi_Di_errorOfEnding ms_Di_errorOfEnding ml_Di_52 (Nat.le_of_ble_eq_true rfl) (Nat.le_of_ble_eq_true rfl) (by decide) (ent_28 K _) rfl rfl rfl (Nat.le_of_ble_eq_true rfl) rfl (Nat.le_of_ble_eq_true rfl) (Nat.le_of_ble_eq_true rfl)) (fun r42 M42 => ?_)
      refine V_callU hX 48 0 0 rfl rfl rfl (Nat.le_of_ble_eq_true rfl) (Nat.le_of_ble_eq_true rfl) (VR_SN hX 25 (ct_SA_write (cx_t hX) K 29 ((v4 * 21) + v5) r42 M42) my_SA_write mt_SA_write mn_Di_25 (Nat.le_of_ble_eq_true rfl) (Nat.le_of_ble_eq_true rfl) rfl rfl (Nat.le_of_ble_eq_true rfl) rfl (Nat.le_of_ble_eq_true rfl) (Nat.le_of_ble_eq_true rfl)) (fun r45 M45 => ?_)
      refine V_iincL hX 26 51 5 rfl rfl rfl rfl (Nat.le_of_ble_eq_true rfl) (fun x5_48 hx5_48 => ?_)
      refine VV_lc [(5, .int x5_48), (0, .ref (kA K 28)), (1, .ref (kA K v1)), (2, .int v2), (3, .int v3), (4, .int v4)] rfl ?_
      refine V_goto hX 27 12 rfl (by decide) ?_
      refine VV_sub [1, 2, 3, 4, 5, 0] rfl ?_
      exact ih x5_48 M45
set_option maxRecDepth 20000 in
theorem bt_Di_start_66 {l : Launch} {K : KT} {X : XT} (hX : Cx l K 6 6 0 0 X prog_3_method_7_code "SeriesArchive$Divisions" (some .int) [] L_Di_start) (v1 : Nat) (v2 : Int32) (v3 : Int32) (hv1 : isSer v1) : ∀ (n : Nat) (v4 : Int32) (v5 : Int32) (M : Mm), VV l K 6 6 0 0 rvI X (fn_Di_start_66 v1 v2 v3 n v4 v5 M) 0 0 M 66 [(0, .ref (kA K 28)), (1, .ref (kA K v1)), (2, .int v2), (3, .int v3), (4, .int v4), (5, .int v5)] [] := by
  intro n
  induction n with
  | zero => intro v4 v5 M; exact VV_none
  | succ n ih =>
    intro v4 v5 M
    rw [fn_Di_start_66]
    refine V_iload hX (j := 5) (hj := rfl) 34 68 rfl rfl ?_
    refine V_iload_n hX (j := 3) (hj := rfl) 35 69 rfl rfl ?_
    refine V_icmp_ge hX 36 72 91 rfl rfl (by decide) (fun c69 => ?_) (fun c69 => ?_)
    · refine V_iload hX (j := 4) (hj := rfl) 47 93 rfl rfl ?_
      exact V_iret hX 48 rfl (Nat.le_of_ble_eq_true rfl) (Nat.le_of_ble_eq_true rfl) rfl
    · refine V_aload_n hX (j := 0) (hj := rfl) 37 73 rfl rfl ?_
      refine V_aload_n hX (j := 1) (hj := rfl) 38 74 rfl rfl ?_
      refine V_iload_n hX (j := 2) (hj := rfl) 39 75 rfl rfl ?_
      refine V_iload hX (j := 5) (hj := rfl) 40 77 rfl rfl ?_
      refine V_isub hX 41 78 rfl rfl ?_
      refine V_iload hX (j := 4) (hj := rfl) 42 80 rfl rfl ?_
      refine V_callI hX 83 0 0 rfl rfl rfl (Nat.le_of_ble_eq_true rfl) (Nat.le_of_ble_eq_true rfl) (VR_V hX 43 (ct_Di_firstCut (cx_t hX) K v1 (v2 - v5) v4 M) my_Di_firstCut mi_Di_firstCut ms_Di_firstCut ml_Di_55 (Nat.le_of_ble_eq_true rfl) (Nat.le_of_ble_eq_true rfl) (by decide) (ent_28 K _) rfl rfl rfl (Nat.le_of_ble_eq_true rfl) rfl (Nat.le_of_ble_eq_true rfl) (Nat.le_of_ble_eq_true rfl)) (fun r80 M80 => ?_)
      refine V_istore hX 44 85 [(4, .int r80), (0, .ref (kA K 28)), (1, .ref (kA K v1)), (2, .int v2), (3, .int v3), (5, .int v5)] rfl rfl (Nat.le_of_ble_eq_true rfl) rfl ?_
      refine V_iincL hX 45 88 5 rfl rfl rfl rfl (Nat.le_of_ble_eq_true rfl) (fun x5_85 hx5_85 => ?_)
      refine VV_lc [(5, .int x5_85), (4, .int r80), (0, .ref (kA K 28)), (1, .ref (kA K v1)), (2, .int v2), (3, .int v3)] rfl ?_
      refine V_goto hX 46 66 rfl (by decide) ?_
      refine VV_sub [2, 3, 4, 5, 1, 0] rfl ?_
      exact ih r80 x5_85 M80
set_option maxRecDepth 20000 in
theorem bt_Di_start_60 {l : Launch} {K : KT} {X : XT} (hX : Cx l K 6 6 0 0 X prog_3_method_7_code "SeriesArchive$Divisions" (some .int) [] L_Di_start) (v1 : Nat) (v2 : Int32) (v3 : Int32) (hv1 : isSer v1) (M : Mm) : VV l K 6 6 0 0 rvI X (fn_Di_start_60 v1 v2 v3 M) 0 0 M 60 [(0, .ref (kA K 28)), (1, .ref (kA K v1)), (2, .int v2), (3, .int v3)] [] := by
  unfold fn_Di_start_60
  refine V_iconst hX (v := 0) (hv := by decide) 30 61 rfl rfl ?_
  refine V_istore hX 31 63 [(4, .int 0), (0, .ref (kA K 28)), (1, .ref (kA K v1)), (2, .int v2), (3, .int v3)] rfl rfl (Nat.le_of_ble_eq_true rfl) rfl ?_
  refine V_iconst hX (v := 0) (hv := by decide) 32 64 rfl rfl ?_
  refine V_istore hX 33 66 [(5, .int 0), (4, .int 0), (0, .ref (kA K 28)), (1, .ref (kA K v1)), (2, .int v2), (3, .int v3)] rfl rfl (Nat.le_of_ble_eq_true rfl) rfl ?_
  refine VV_sub [2, 3, 4, 5, 1, 0] rfl ?_
  exact bt_Di_start_66 hX v1 v2 v3 hv1 fuel0 0 0 M
set_option maxRecDepth 20000 in
theorem bt_Di_start_3 {l : Launch} {K : KT} {X : XT} (hX : Cx l K 6 6 0 0 X prog_3_method_7_code "SeriesArchive$Divisions" (some .int) [] L_Di_start) (v1 : Nat) (v2 : Int32) (v3 : Int32) (hv1 : isSer v1) : ∀ (n : Nat) (v4 : Int32) (M : Mm), VV l K 6 6 0 0 rvI X (fn_Di_start_3 v1 v2 v3 n v4 M) 0 0 M 3 [(0, .ref (kA K 28)), (1, .ref (kA K v1)), (2, .int v2), (3, .int v3), (4, .int v4)] [] := by
  intro n
  induction n with
  | zero => intro v4 M; exact VV_none
  | succ n ih =>
    intro v4 M
    rw [fn_Di_start_3]
    refine V_iload hX (j := 4) (hj := rfl) 2 5 rfl rfl ?_
    refine V_iload_n hX (j := 2) (hj := rfl) 3 6 rfl rfl ?_
    refine V_icmp_gt hX 4 9 60 rfl rfl (by decide) (fun c6 => ?_) (fun c6 => ?_)
    · refine VV_sub [0, 1, 2, 3] rfl ?_
      exact bt_Di_start_60 hX v1 v2 v3 hv1 M
    · refine V_iconst hX (v := 0) (hv := by decide) 5 10 rfl rfl ?_
      refine V_istore hX 6 12 [(5, .int 0), (0, .ref (kA K 28)), (1, .ref (kA K v1)), (2, .int v2), (3, .int v3), (4, .int v4)] rfl rfl (Nat.le_of_ble_eq_true rfl) rfl ?_
      refine VV_sub [1, 2, 3, 4, 5, 0] rfl ?_
      exact bt_Di_start_12 hX (fn_Di_start_3 v1 v2 v3 n) v1 v2 v3 v4 ih hv1 fuel0 0 M
set_option maxRecDepth 20000 in
theorem ct_Di_start {l : Launch} (hl : l.stackTraces = false) (K : KT) (v1 : Nat) (v2 : Int32) (v3 : Int32) (M : Mm) : CTp l K y_Di_start (Cond.code y_Di_start prog_3_method_7_code 6 (some .int)) rvI 6 0 0 [.ref (kA K 28), .ref (kA K v1), .int v2, .int v3] M (fn_Di_start v1 v2 v3 M) := by
  refine CTp_of (L := L_Di_start) (lc := [(0, .ref (kA K 28)), (1, .ref (kA K v1)), (2, .int v2), (3, .int v3)]) (by decide +kernel) dec_Di_start hl rfl (Nat.le_of_ble_eq_true rfl) (fun X hX => ?_)
  unfold fn_Di_start
  refine VV_grd (fun hv1 => ?_)
  refine V_iconst hX (v := 1) (hv := by decide) 0 1 rfl rfl ?_
  refine V_istore hX 1 3 [(4, .int 1), (0, .ref (kA K 28)), (1, .ref (kA K v1)), (2, .int v2), (3, .int v3)] rfl rfl (Nat.le_of_ble_eq_true rfl) rfl ?_
  refine VV_sub [1, 2, 3, 4, 0] rfl ?_
  exact bt_Di_start_3 hX v1 v2 v3 hv1 fuel0 1 M
set_option maxRecDepth 20000 in
theorem ct_Hi_size {l : Launch} (hl : l.stackTraces = false) (K : KT) (M : Mm) : CTp l K y_Hi_size (Cond.code y_Hi_size prog_5_method_2_code 1 (some .int)) rvI 1 0 0 [.ref (kA K 12)] M (fn_Hi_size M) := by
  refine CTp_of (L := L_Hi_size) (lc := [(0, .ref (kA K 12))]) (by decide +kernel) dec_Hi_size hl rfl (Nat.le_of_ble_eq_true rfl) (fun X hX => ?_)
  unfold fn_Hi_size
  refine V_aload_n hX (j := 0) (hj := rfl) 0 1 rfl rfl ?_
  refine V_get hX 1 4 12 (.int (M 12 2)) fl_Hi_15 rfl rfl (by decide) (ent_12 K _) rfl ?_
  exact V_iret hX 2 rfl (Nat.le_of_ble_eq_true rfl) (Nat.le_of_ble_eq_true rfl) rfl
set_option maxRecDepth 20000 in
theorem ct_Hi_clear {l : Launch} (hl : l.stackTraces = false) (K : KT) (M : Mm) : CTp l K y_Hi_clear (Cond.code y_Hi_clear prog_5_method_3_code 1 none) rvU 1 0 0 [.ref (kA K 12)] M (fn_Hi_clear M) := by
  refine CTp_of (L := L_Hi_clear) (lc := [(0, .ref (kA K 12))]) (by decide +kernel) dec_Hi_clear hl rfl (Nat.le_of_ble_eq_true rfl) (fun X hX => ?_)
  unfold fn_Hi_clear
  refine V_aload_n hX (j := 0) (hj := rfl) 0 1 rfl rfl ?_
  refine V_iconst hX (v := 0) (hv := by decide) 1 2 rfl rfl ?_
  refine V_putI hX 2 5 12 fp_Hi_15 (by decide) rfl rfl (by decide) (ent_12 K _) (Nat.le_of_ble_eq_true rfl) (ent_12 K _) (fun M2 hM2 => ?_)
  exact V_vret hX 3 rfl (Nat.le_of_ble_eq_true rfl) (Nat.le_of_ble_eq_true rfl) rfl
set_option maxRecDepth 20000 in
theorem bt_Hi_goOn_22 {l : Launch} {K : KT} {X : XT} (hX : Cx l K 2 1 0 0 X prog_5_method_6_code "SeriesArchive$History" none [] L_Hi_goOn) (s1 : Int32) (M : Mm) : VV l K 2 1 0 0 rvU X (fn_Hi_goOn_22 s1 M) 0 0 M 22 [(0, .ref (kA K 12))] [.int s1, .ref (kA K 12)] := by
  unfold fn_Hi_goOn_22
  refine V_putI hX 13 25 12 fp_Hi_19 (by decide) rfl rfl (by decide) (ent_12 K _) (Nat.le_of_ble_eq_true rfl) (ent_12 K _) (fun M22 hM22 => ?_)
  refine V_aload_n hX (j := 0) (hj := rfl) 14 26 rfl rfl ?_
  refine V_aload_n hX (j := 0) (hj := rfl) 15 27 rfl rfl ?_
  refine V_get hX 16 30 12 (.int (M22 12 2)) fl_Hi_15 rfl rfl (by decide) (ent_12 K _) rfl ?_
  refine V_iconst hX (v := 1) (hv := by decide) 17 31 rfl rfl ?_
  refine V_iadd hX 18 32 rfl rfl ?_
  refine V_bipush hX (v := 8) (hv := by decide) 19 34 rfl rfl ?_
  refine V_min hX 20 37 mm_Hi_39 (Nat.le_of_ble_eq_true rfl) (Nat.le_of_ble_eq_true rfl) (Nat.le_of_ble_eq_true rfl) (Nat.le_of_ble_eq_true rfl) rfl rfl ?_
  refine V_putI hX 21 40 12 fp_Hi_15 (by decide) rfl rfl (by decide) (ent_12 K _) (Nat.le_of_ble_eq_true rfl) (ent_12 K _) (fun M37 hM37 => ?_)
  exact V_vret hX 22 rfl (Nat.le_of_ble_eq_true rfl) (Nat.le_of_ble_eq_true rfl) rfl
set_option maxRecDepth 20000 in
theorem ct_Hi_goOn {l : Launch} (hl : l.stackTraces = false) (K : KT) (M : Mm) : CTp l K y_Hi_goOn (Cond.code y_Hi_goOn prog_5_method_6_code 1 none) rvU 2 0 0 [.ref (kA K 12)] M (fn_Hi_goOn M) := by
  refine CTp_of (L := L_Hi_goOn) (lc := [(0, .ref (kA K 12))]) (by decide +kernel) dec_Hi_goOn hl rfl (Nat.le_of_ble_eq_true rfl) (fun X hX => ?_)
  unfold fn_Hi_goOn
  refine V_aload_n hX (j := 0) (hj := rfl) 0 1 rfl rfl ?_
  refine V_aload_n hX (j := 0) (hj := rfl) 1 2 rfl rfl ?_
  refine V_get hX 2 5 12 (.int (M 12 1)) fl_Hi_19 rfl rfl (by decide) (ent_12 K _) rfl ?_
  refine V_iconst hX (v := 1) (hv := by decide) 3 6 rfl rfl ?_
  refine V_iadd hX 4 7 rfl rfl ?_
  refine V_bipush hX (v := 8) (hv := by decide) 5 9 rfl rfl ?_
  refine V_icmp_ge hX 6 12 21 rfl rfl (by decide) (fun c9 => ?_) (fun c9 => ?_)
  · refine V_iconst hX (v := 0) (hv := by decide) 12 22 rfl rfl ?_
    exact bt_Hi_goOn_22 hX 0 M
  · refine V_aload_n hX (j := 0) (hj := rfl) 7 13 rfl rfl ?_
    refine V_get hX 8 16 12 (.int (M 12 1)) fl_Hi_19 rfl rfl (by decide) (ent_12 K _) rfl ?_
    refine V_iconst hX (v := 1) (hv := by decide) 9 17 rfl rfl ?_
    refine V_iadd hX 10 18 rfl rfl ?_
    refine V_goto hX 11 22 rfl (by decide) ?_
    exact bt_Hi_goOn_22 hX ((M 12 1) + 1) M
set_option maxRecDepth 20000 in
theorem bt_Se_store_11 {l : Launch} {K : KT} {X : XT} (hX : Cx l K 2 4 0 0 X prog_11_method_11_code "SeriesArchive$Series" none [] L_Se_store) (v0 : Nat) (v1 : Nat) (v2 : Int32) (hv0 : isSer v0) (hv1 : isIA v1) : ∀ (n : Nat) (v3 : Int32) (M : Mm), VV l K 2 4 0 0 rvU X (fn_Se_store_11 v0 v1 v2 n v3 M) 0 0 M 11 [(0, .ref (kA K v0)), (1, .ref (kA K v1)), (2, .int v2), (3, .int v3)] [] := by
  intro n
  induction n with
  | zero => intro v3 M; exact VV_none
  | succ n ih =>
    intro v3 M
    rw [fn_Se_store_11]
    refine V_iload_n hX (j := 3) (hj := rfl) 7 12 rfl rfl ?_
    refine V_aload_n hX (j := 0) (hj := rfl) 8 13 rfl rfl ?_
    refine V_get hX 9 16 v0 (.int (M v0 1)) fl_Se_15 rfl rfl (loc_ser hv0) (ent_ser K _ hv0) rfl ?_
    refine V_icmp_ge hX 10 19 39 rfl rfl (by decide) (fun c16 => ?_) (fun c16 => ?_)
    · exact V_vret hX 23 rfl (Nat.le_of_ble_eq_true rfl) (Nat.le_of_ble_eq_true rfl) rfl
    · refine V_aload_n hX (j := 1) (hj := rfl) 11 20 rfl rfl ?_
      refine V_iload_n hX (j := 2) (hj := rfl) 12 21 rfl rfl ?_
      refine V_iconst hX (v := 1) (hv := by decide) 13 22 rfl rfl ?_
      refine V_iadd hX 14 23 rfl rfl ?_
      refine V_iload_n hX (j := 3) (hj := rfl) 15 24 rfl rfl ?_
      refine V_iadd hX 16 25 rfl rfl ?_
      refine V_aload_n hX (j := 0) (hj := rfl) 17 26 rfl rfl ?_
      refine V_iload_n hX (j := 3) (hj := rfl) 18 27 rfl rfl ?_
      refine V_callI hX 30 0 0 rfl rfl rfl (Nat.le_of_ble_eq_true rfl) (Nat.le_of_ble_eq_true rfl) (VR_V hX 19 (ct_Se_at (cx_t hX) K v0 v3 M) my_Se_at mi_Se_at ms_Se_at ml_Se_31 (Nat.le_of_ble_eq_true rfl) (Nat.le_of_ble_eq_true rfl) (loc_ser hv0) (ent_ser K _ hv0) rfl rfl rfl (Nat.le_of_ble_eq_true rfl) rfl (Nat.le_of_ble_eq_true rfl) (Nat.le_of_ble_eq_true rfl)) (fun r27 M27 => ?_)
      refine V_callU hX 33 0 0 rfl rfl rfl (Nat.le_of_ble_eq_true rfl) (Nat.le_of_ble_eq_true rfl) (VR_SN hX 20 (ct_SA_write (cx_t hX) K v1 ((v2 + 1) + v3) r27 M27) my_SA_write mt_SA_write mn_Se_19 (Nat.le_of_ble_eq_true rfl) (Nat.le_of_ble_eq_true rfl) rfl rfl (Nat.le_of_ble_eq_true rfl) rfl (Nat.le_of_ble_eq_true rfl) (Nat.le_of_ble_eq_true rfl)) (fun r30 M30 => ?_)
      refine V_iincL hX 21 36 3 rfl rfl rfl rfl (Nat.le_of_ble_eq_true rfl) (fun x3_33 hx3_33 => ?_)
      refine VV_lc [(3, .int x3_33), (0, .ref (kA K v0)), (1, .ref (kA K v1)), (2, .int v2)] rfl ?_
      refine V_goto hX 22 11 rfl (by decide) ?_
      refine VV_sub [1, 2, 3, 0] rfl ?_
      exact ih x3_33 M30
set_option maxRecDepth 20000 in
theorem ct_Se_store {l : Launch} (hl : l.stackTraces = false) (K : KT) (v0 : Nat) (v1 : Nat) (v2 : Int32) (M : Mm) : CTp l K y_Se_store (Cond.code y_Se_store prog_11_method_11_code 4 none) rvU 2 0 0 [.ref (kA K v0), .ref (kA K v1), .int v2] M (fn_Se_store v0 v1 v2 M) := by
  refine CTp_of (L := L_Se_store) (lc := [(0, .ref (kA K v0)), (1, .ref (kA K v1)), (2, .int v2)]) (by decide +kernel) dec_Se_store hl rfl (Nat.le_of_ble_eq_true rfl) (fun X hX => ?_)
  unfold fn_Se_store
  refine VV_grd (fun hv0 => ?_)
  refine VV_grd (fun hv1 => ?_)
  refine V_aload_n hX (j := 1) (hj := rfl) 0 1 rfl rfl ?_
  refine V_iload_n hX (j := 2) (hj := rfl) 1 2 rfl rfl ?_
  refine V_aload_n hX (j := 0) (hj := rfl) 2 3 rfl rfl ?_
  refine V_get hX 3 6 v0 (.int (M v0 1)) fl_Se_15 rfl rfl (loc_ser hv0) (ent_ser K _ hv0) rfl ?_
  refine V_callU hX 9 0 0 rfl rfl rfl (Nat.le_of_ble_eq_true rfl) (Nat.le_of_ble_eq_true rfl) (VR_SN hX 4 (ct_SA_write (cx_t hX) K v1 v2 (M v0 1) M) my_SA_write mt_SA_write mn_Se_19 (Nat.le_of_ble_eq_true rfl) (Nat.le_of_ble_eq_true rfl) rfl rfl (Nat.le_of_ble_eq_true rfl) rfl (Nat.le_of_ble_eq_true rfl) (Nat.le_of_ble_eq_true rfl)) (fun r6 M6 => ?_)
  refine V_iconst hX (v := 0) (hv := by decide) 5 10 rfl rfl ?_
  refine V_istore_n hX 6 11 [(3, .int 0), (0, .ref (kA K v0)), (1, .ref (kA K v1)), (2, .int v2)] rfl rfl (Nat.le_of_ble_eq_true rfl) rfl ?_
  refine VV_sub [1, 2, 3, 0] rfl ?_
  exact bt_Se_store_11 hX v0 v1 v2 hv0 hv1 fuel0 0 M6
set_option maxRecDepth 20000 in
theorem ct_St_at {l : Launch} (hl : l.stackTraces = false) (K : KT) (v1 : Int32) (M : Mm) : CTp l K y_St_at (Cond.code y_St_at prog_12_method_2_code 2 (some (.object "SeriesArchive$Series"))) (fun z => some (.ref (kA K z))) 1 0 0 [.ref (kA K 1), .int v1] M (fn_St_at v1 M) := by
  refine CTp_of (L := L_St_at) (lc := [(0, .ref (kA K 1)), (1, .int v1)]) (by decide +kernel) dec_St_at hl rfl (Nat.le_of_ble_eq_true rfl) (fun X hX => ?_)
  unfold fn_St_at
  refine V_iload_n hX (j := 1) (hj := rfl) 0 1 rfl rfl ?_
  refine V_if_ne hX 1 4 9 rfl rfl (by decide) (fun c1 => ?_) (fun c1 => ?_)
  · refine V_iload_n hX (j := 1) (hj := rfl) 5 10 rfl rfl ?_
    refine V_iconst hX (v := 1) (hv := by decide) 6 11 rfl rfl ?_
    refine V_icmp_ne hX 7 14 19 rfl rfl (by decide) (fun c11 => ?_) (fun c11 => ?_)
    · refine V_iload_n hX (j := 1) (hj := rfl) 11 20 rfl rfl ?_
      refine V_iconst hX (v := 2) (hv := by decide) 12 21 rfl rfl ?_
      refine V_icmp_ne hX 13 24 31 rfl rfl (by decide) (fun c21 => ?_) (fun c21 => ?_)
      · refine V_aload_n hX (j := 0) (hj := rfl) 17 32 rfl rfl ?_
        refine V_get hX 18 35 1 (.ref (kA K 5)) fl_St_24 rfl rfl (by decide) (ent_1 K _) rfl ?_
        exact V_aret hX 19 "SeriesArchive$Series" rfl rfl (Nat.le_of_ble_eq_true rfl) (Nat.le_of_ble_eq_true rfl) rfl
      · refine V_aload_n hX (j := 0) (hj := rfl) 14 25 rfl rfl ?_
        refine V_get hX 15 28 1 (.ref (kA K 4)) fl_St_21 rfl rfl (by decide) (ent_1 K _) rfl ?_
        refine V_goto hX 16 35 rfl (by decide) ?_
        exact V_aret hX 19 "SeriesArchive$Series" rfl rfl (Nat.le_of_ble_eq_true rfl) (Nat.le_of_ble_eq_true rfl) rfl
    · refine V_aload_n hX (j := 0) (hj := rfl) 8 15 rfl rfl ?_
      refine V_get hX 9 18 1 (.ref (kA K 3)) fl_St_18 rfl rfl (by decide) (ent_1 K _) rfl ?_
      exact V_aret hX 10 "SeriesArchive$Series" rfl rfl (Nat.le_of_ble_eq_true rfl) (Nat.le_of_ble_eq_true rfl) rfl
  · refine V_aload_n hX (j := 0) (hj := rfl) 2 5 rfl rfl ?_
    refine V_get hX 3 8 1 (.ref (kA K 2)) fl_St_12 rfl rfl (by decide) (ent_1 K _) rfl ?_
    exact V_aret hX 4 "SeriesArchive$Series" rfl rfl (Nat.le_of_ble_eq_true rfl) (Nat.le_of_ble_eq_true rfl) rfl
set_option maxRecDepth 20000 in
theorem bt_St_store_11 {l : Launch} {K : KT} {X : XT} (hX : Cx l K 3 4 0 0 X prog_12_method_6_code "SeriesArchive$State" none [] L_St_store) (v1 : Nat) (v2 : Int32) (hv1 : isIA v1) : ∀ (n : Nat) (v3 : Int32) (M : Mm), VV l K 3 4 0 0 rvU X (fn_St_store_11 v1 v2 n v3 M) 0 0 M 11 [(0, .ref (kA K 1)), (1, .ref (kA K v1)), (2, .int v2), (3, .int v3)] [] := by
  intro n
  induction n with
  | zero => intro v3 M; exact VV_none
  | succ n ih =>
    intro v3 M
    rw [fn_St_store_11]
    refine V_iload_n hX (j := 3) (hj := rfl) 7 12 rfl rfl ?_
    refine V_iconst hX (v := 4) (hv := by decide) 8 13 rfl rfl ?_
    refine V_icmp_ge hX 9 16 39 rfl rfl (by decide) (fun c13 => ?_) (fun c13 => ?_)
    · exact V_vret hX 24 rfl (Nat.le_of_ble_eq_true rfl) (Nat.le_of_ble_eq_true rfl) rfl
    · refine V_aload_n hX (j := 0) (hj := rfl) 10 17 rfl rfl ?_
      refine V_iload_n hX (j := 3) (hj := rfl) 11 18 rfl rfl ?_
      refine V_callL hX 21 0 0 rfl rfl rfl (Nat.le_of_ble_eq_true rfl) (Nat.le_of_ble_eq_true rfl) (VR_V hX 12 (ct_St_at (cx_t hX) K v3 M) my_St_at mi_St_at ms_St_at ml_St_34 (Nat.le_of_ble_eq_true rfl) (Nat.le_of_ble_eq_true rfl) (by decide) (ent_1 K _) rfl rfl rfl (Nat.le_of_ble_eq_true rfl) rfl (Nat.le_of_ble_eq_true rfl) (Nat.le_of_ble_eq_true rfl)) (fun r18 M18 => VV_grd (fun hr18 => ?_))
      refine V_aload_n hX (j := 1) (hj := rfl) 13 22 rfl rfl ?_
      refine V_iload_n hX (j := 2) (hj := rfl) 14 23 rfl rfl ?_
      refine V_iconst hX (v := 1) (hv := by decide) 15 24 rfl rfl ?_
      refine V_iadd hX 16 25 rfl rfl ?_
      refine V_iload_n hX (j := 3) (hj := rfl) 17 26 rfl rfl ?_
      refine V_bipush hX (v := 21) (hv := by decide) 18 28 rfl rfl ?_
      refine V_imul hX 19 29 rfl rfl ?_
      refine V_iadd hX 20 30 rfl rfl ?_
      refine V_callU hX 33 0 0 rfl rfl rfl (Nat.le_of_ble_eq_true rfl) (Nat.le_of_ble_eq_true rfl) (VR_V hX 21 (ct_Se_store (cx_t hX) K r18 v1 ((v2 + 1) + (v3 * 21)) M18) my_Se_store mi_Se_store ms_Se_store ml_St_50 (Nat.le_of_ble_eq_true rfl) (Nat.le_of_ble_eq_true rfl) (loc_ser hr18) (ent_ser K _ hr18) rfl rfl rfl (Nat.le_of_ble_eq_true rfl) rfl (Nat.le_of_ble_eq_true rfl) (Nat.le_of_ble_eq_true rfl)) (fun r30 M30 => ?_)
      refine V_iincL hX 22 36 3 rfl rfl rfl rfl (Nat.le_of_ble_eq_true rfl) (fun x3_33 hx3_33 => ?_)
      refine VV_lc [(3, .int x3_33), (0, .ref (kA K 1)), (1, .ref (kA K v1)), (2, .int v2)] rfl ?_
      refine V_goto hX 23 11 rfl (by decide) ?_
      refine VV_sub [1, 2, 3, 0] rfl ?_
      exact ih x3_33 M30
set_option maxRecDepth 20000 in
theorem ct_St_store {l : Launch} (hl : l.stackTraces = false) (K : KT) (v1 : Nat) (v2 : Int32) (M : Mm) : CTp l K y_St_store (Cond.code y_St_store prog_12_method_6_code 4 none) rvU 3 0 0 [.ref (kA K 1), .ref (kA K v1), .int v2] M (fn_St_store v1 v2 M) := by
  refine CTp_of (L := L_St_store) (lc := [(0, .ref (kA K 1)), (1, .ref (kA K v1)), (2, .int v2)]) (by decide +kernel) dec_St_store hl rfl (Nat.le_of_ble_eq_true rfl) (fun X hX => ?_)
  unfold fn_St_store
  refine VV_grd (fun hv1 => ?_)
  refine V_aload_n hX (j := 1) (hj := rfl) 0 1 rfl rfl ?_
  refine V_iload_n hX (j := 2) (hj := rfl) 1 2 rfl rfl ?_
  refine V_aload_n hX (j := 0) (hj := rfl) 2 3 rfl rfl ?_
  refine V_get hX 3 6 1 (.int (M 1 5)) fl_St_30 rfl rfl (by decide) (ent_1 K _) rfl ?_
  refine V_callU hX 9 0 0 rfl rfl rfl (Nat.le_of_ble_eq_true rfl) (Nat.le_of_ble_eq_true rfl) (VR_SN hX 4 (ct_SA_write (cx_t hX) K v1 v2 (M 1 5) M) my_SA_write mt_SA_write mn_St_46 (Nat.le_of_ble_eq_true rfl) (Nat.le_of_ble_eq_true rfl) rfl rfl (Nat.le_of_ble_eq_true rfl) rfl (Nat.le_of_ble_eq_true rfl) (Nat.le_of_ble_eq_true rfl)) (fun r6 M6 => ?_)
  refine V_iconst hX (v := 0) (hv := by decide) 5 10 rfl rfl ?_
  refine V_istore_n hX 6 11 [(3, .int 0), (0, .ref (kA K 1)), (1, .ref (kA K v1)), (2, .int v2)] rfl rfl (Nat.le_of_ble_eq_true rfl) rfl ?_
  refine VV_sub [1, 2, 3, 0] rfl ?_
  exact bt_St_store_11 hX v1 v2 hv1 fuel0 0 M6
set_option maxRecDepth 20000 in
theorem ct_Hi_keep {l : Launch} (hl : l.stackTraces = false) (K : KT) (M : Mm) : CTp l K y_Hi_keep (Cond.code y_Hi_keep prog_5_method_4_code 2 none) rvU 4 0 0 [.ref (kA K 12), .ref (kA K 1)] M (fn_Hi_keep M) := by
  refine CTp_of (L := L_Hi_keep) (lc := [(0, .ref (kA K 12)), (1, .ref (kA K 1))]) (by decide +kernel) dec_Hi_keep hl rfl (Nat.le_of_ble_eq_true rfl) (fun X hX => ?_)
  unfold fn_Hi_keep
  refine V_aload_n hX (j := 1) (hj := rfl) 0 1 rfl rfl ?_
  refine V_aload_n hX (j := 0) (hj := rfl) 1 2 rfl rfl ?_
  refine V_get hX 2 5 12 (.ref (kA K 13)) fl_Hi_9 rfl rfl (by decide) (ent_12 K _) rfl ?_
  refine V_aload_n hX (j := 0) (hj := rfl) 3 6 rfl rfl ?_
  refine V_get hX 4 9 12 (.int (M 12 1)) fl_Hi_19 rfl rfl (by decide) (ent_12 K _) rfl ?_
  refine V_bipush hX (v := 85) (hv := by decide) 5 11 rfl rfl ?_
  refine V_imul hX 6 12 rfl rfl ?_
  refine V_callU hX 15 0 0 rfl rfl rfl (Nat.le_of_ble_eq_true rfl) (Nat.le_of_ble_eq_true rfl) (VR_V hX 7 (ct_St_store (cx_t hX) K 13 ((M 12 1) * 85) M) my_St_store mi_St_store ms_St_store ml_Hi_22 (Nat.le_of_ble_eq_true rfl) (Nat.le_of_ble_eq_true rfl) (by decide) (ent_1 K _) rfl rfl rfl (Nat.le_of_ble_eq_true rfl) rfl (Nat.le_of_ble_eq_true rfl) (Nat.le_of_ble_eq_true rfl)) (fun r12 M12 => ?_)
  refine V_aload_n hX (j := 0) (hj := rfl) 8 16 rfl rfl ?_
  refine V_callU hX 19 0 0 rfl rfl rfl (Nat.le_of_ble_eq_true rfl) (Nat.le_of_ble_eq_true rfl) (VR_V hX 9 (ct_Hi_goOn (cx_t hX) K M12) my_Hi_goOn mi_Hi_goOn ms_Hi_goOn ml_Hi_28 (Nat.le_of_ble_eq_true rfl) (Nat.le_of_ble_eq_true rfl) (by decide) (ent_12 K _) rfl rfl rfl (Nat.le_of_ble_eq_true rfl) rfl (Nat.le_of_ble_eq_true rfl) (Nat.le_of_ble_eq_true rfl)) (fun r16 M16 => ?_)
  exact V_vret hX 10 rfl (Nat.le_of_ble_eq_true rfl) (Nat.le_of_ble_eq_true rfl) rfl
set_option maxRecDepth 20000 in
theorem bt_Hi_keepRow_35 {l : Launch} {K : KT} {X : XT} (hX : Cx l K 3 3 0 0 X prog_5_method_5_code "SeriesArchive$History" none [] L_Hi_keepRow) (M : Mm) : VV l K 3 3 0 0 rvU X (fn_Hi_keepRow_35 M) 0 0 M 35 [(0, .ref (kA K 12))] [] := by
  unfold fn_Hi_keepRow_35
  refine V_aload_n hX (j := 0) (hj := rfl) 19 36 rfl rfl ?_
  refine V_callU hX 39 0 0 rfl rfl rfl (Nat.le_of_ble_eq_true rfl) (Nat.le_of_ble_eq_true rfl) (VR_V hX 20 (ct_Hi_goOn (cx_t hX) K M) my_Hi_goOn mi_Hi_goOn ms_Hi_goOn ml_Hi_28 (Nat.le_of_ble_eq_true rfl) (Nat.le_of_ble_eq_true rfl) (by decide) (ent_12 K _) rfl rfl rfl (Nat.le_of_ble_eq_true rfl) rfl (Nat.le_of_ble_eq_true rfl) (Nat.le_of_ble_eq_true rfl)) (fun r36 M36 => ?_)
  exact V_vret hX 21 rfl (Nat.le_of_ble_eq_true rfl) (Nat.le_of_ble_eq_true rfl) rfl
set_option maxRecDepth 20000 in
theorem bt_Hi_keepRow_2 {l : Launch} {K : KT} {X : XT} (hX : Cx l K 3 3 0 0 X prog_5_method_5_code "SeriesArchive$History" none [] L_Hi_keepRow) (v1 : Nat) (hv1 : isIA v1) : ∀ (n : Nat) (v2 : Int32) (M : Mm), VV l K 3 3 0 0 rvU X (fn_Hi_keepRow_2 v1 n v2 M) 0 0 M 2 [(0, .ref (kA K 12)), (1, .ref (kA K v1)), (2, .int v2)] [] := by
  intro n
  induction n with
  | zero => intro v2 M; exact VV_none
  | succ n ih =>
    intro v2 M
    rw [fn_Hi_keepRow_2]
    refine V_iload_n hX (j := 2) (hj := rfl) 2 3 rfl rfl ?_
    refine V_bipush hX (v := 85) (hv := by decide) 3 5 rfl rfl ?_
    refine V_icmp_ge hX 4 8 35 rfl rfl (by decide) (fun c5 => ?_) (fun c5 => ?_)
    · refine VV_sub [0] rfl ?_
      exact bt_Hi_keepRow_35 hX M
    · refine V_aload_n hX (j := 0) (hj := rfl) 5 9 rfl rfl ?_
      refine V_get hX 6 12 12 (.ref (kA K 13)) fl_Hi_9 rfl rfl (by decide) (ent_12 K _) rfl ?_
      refine V_aload_n hX (j := 0) (hj := rfl) 7 13 rfl rfl ?_
      refine V_get hX 8 16 12 (.int (M 12 1)) fl_Hi_19 rfl rfl (by decide) (ent_12 K _) rfl ?_
      refine V_bipush hX (v := 85) (hv := by decide) 9 18 rfl rfl ?_
      refine V_imul hX 10 19 rfl rfl ?_
      refine V_iload_n hX (j := 2) (hj := rfl) 11 20 rfl rfl ?_
      refine V_iadd hX 12 21 rfl rfl ?_
      refine V_aload_n hX (j := 1) (hj := rfl) 13 22 rfl rfl ?_
      refine V_iload_n hX (j := 2) (hj := rfl) 14 23 rfl rfl ?_
      refine V_callI hX 26 0 0 rfl rfl rfl (Nat.le_of_ble_eq_true rfl) (Nat.le_of_ble_eq_true rfl) (VR_SN hX 15 (ct_SA_read (cx_t hX) K v1 v2 M) my_SA_read mt_SA_read mn_Hi_31 (Nat.le_of_ble_eq_true rfl) (Nat.le_of_ble_eq_true rfl) rfl rfl (Nat.le_of_ble_eq_true rfl) rfl (Nat.le_of_ble_eq_true rfl) (Nat.le_of_ble_eq_true rfl)) (fun r23 M23 => ?_)
      refine V_callU hX 29 0 0 rfl rfl rfl (Nat.le_of_ble_eq_true rfl) (Nat.le_of_ble_eq_true rfl) (VR_SN hX 16 (ct_SA_write (cx_t hX) K 13 (((M 12 1) * 85) + v2) r23 M23) my_SA_write mt_SA_write mn_Hi_35 (Nat.le_of_ble_eq_true rfl) (Nat.le_of_ble_eq_true rfl) rfl rfl (Nat.le_of_ble_eq_true rfl) rfl (Nat.le_of_ble_eq_true rfl) (Nat.le_of_ble_eq_true rfl)) (fun r26 M26 => ?_)
      refine V_iincL hX 17 32 2 rfl rfl rfl rfl (Nat.le_of_ble_eq_true rfl) (fun x2_29 hx2_29 => ?_)
      refine VV_lc [(2, .int x2_29), (0, .ref (kA K 12)), (1, .ref (kA K v1))] rfl ?_
      refine V_goto hX 18 2 rfl (by decide) ?_
      refine VV_sub [1, 2, 0] rfl ?_
      exact ih x2_29 M26
set_option maxRecDepth 20000 in
theorem ct_Hi_keepRow {l : Launch} (hl : l.stackTraces = false) (K : KT) (v1 : Nat) (M : Mm) : CTp l K y_Hi_keepRow (Cond.code y_Hi_keepRow prog_5_method_5_code 3 none) rvU 3 0 0 [.ref (kA K 12), .ref (kA K v1)] M (fn_Hi_keepRow v1 M) := by
  refine CTp_of (L := L_Hi_keepRow) (lc := [(0, .ref (kA K 12)), (1, .ref (kA K v1))]) (by decide +kernel) dec_Hi_keepRow hl rfl (Nat.le_of_ble_eq_true rfl) (fun X hX => ?_)
  unfold fn_Hi_keepRow
  refine VV_grd (fun hv1 => ?_)
  refine V_iconst hX (v := 0) (hv := by decide) 0 1 rfl rfl ?_
  refine V_istore_n hX 1 2 [(2, .int 0), (0, .ref (kA K 12)), (1, .ref (kA K v1))] rfl rfl (Nat.le_of_ble_eq_true rfl) rfl ?_
  refine VV_sub [1, 2, 0] rfl ?_
  exact bt_Hi_keepRow_2 hX v1 hv1 fuel0 0 M
set_option maxRecDepth 20000 in
theorem ct_Se_put {l : Launch} (hl : l.stackTraces = false) (K : KT) (v0 : Nat) (v1 : Int32) (v2 : Int32) (M : Mm) : CTp l K y_Se_put (Cond.code y_Se_put prog_11_method_7_code 3 none) rvU 2 0 0 [.ref (kA K v0), .int v1, .int v2] M (fn_Se_put v0 v1 v2 M) := by
  refine CTp_of (L := L_Se_put) (lc := [(0, .ref (kA K v0)), (1, .int v1), (2, .int v2)]) (by decide +kernel) dec_Se_put hl rfl (Nat.le_of_ble_eq_true rfl) (fun X hX => ?_)
  unfold fn_Se_put
  refine VV_grd (fun hv0 => ?_)
  refine V_aload_n hX (j := 0) (hj := rfl) 0 1 rfl rfl ?_
  refine V_get hX 1 4 v0 (.ref (kA K (v0 + 5))) fl_Se_9 rfl rfl (loc_ser hv0) (ent_ser K _ hv0) rfl ?_
  refine V_iload_n hX (j := 1) (hj := rfl) 2 5 rfl rfl ?_
  refine V_iload_n hX (j := 2) (hj := rfl) 3 6 rfl rfl ?_
  refine V_callU hX 9 0 0 rfl rfl rfl (Nat.le_of_ble_eq_true rfl) (Nat.le_of_ble_eq_true rfl) (VR_SN hX 4 (ct_SA_write (cx_t hX) K (v0 + 5) v1 v2 M) my_SA_write mt_SA_write mn_Se_19 (Nat.le_of_ble_eq_true rfl) (Nat.le_of_ble_eq_true rfl) rfl rfl (Nat.le_of_ble_eq_true rfl) rfl (Nat.le_of_ble_eq_true rfl) (Nat.le_of_ble_eq_true rfl)) (fun r6 M6 => ?_)
  exact V_vret hX 5 rfl (Nat.le_of_ble_eq_true rfl) (Nat.le_of_ble_eq_true rfl) rfl
set_option maxRecDepth 20000 in
theorem bt_Se_load_11 {l : Launch} {K : KT} {X : XT} (hX : Cx l K 3 4 0 0 X prog_11_method_12_code "SeriesArchive$Series" none [] L_Se_load) (v0 : Nat) (v1 : Nat) (v2 : Int32) (hv0 : isSer v0) (hv1 : isIA v1) : ∀ (n : Nat) (v3 : Int32) (M : Mm), VV l K 3 4 0 0 rvU X (fn_Se_load_11 v0 v1 v2 n v3 M) 0 0 M 11 [(0, .ref (kA K v0)), (1, .ref (kA K v1)), (2, .int v2), (3, .int v3)] [] := by
  intro n
  induction n with
  | zero => intro v3 M; exact VV_none
  | succ n ih =>
    intro v3 M
    rw [fn_Se_load_11]
    refine V_iload_n hX (j := 3) (hj := rfl) 7 12 rfl rfl ?_
    refine V_aload_n hX (j := 0) (hj := rfl) 8 13 rfl rfl ?_
    refine V_get hX 9 16 v0 (.int (M v0 1)) fl_Se_15 rfl rfl (loc_ser hv0) (ent_ser K _ hv0) rfl ?_
    refine V_icmp_ge hX 10 19 39 rfl rfl (by decide) (fun c16 => ?_) (fun c16 => ?_)
    · exact V_vret hX 23 rfl (Nat.le_of_ble_eq_true rfl) (Nat.le_of_ble_eq_true rfl) rfl
    · refine V_aload_n hX (j := 0) (hj := rfl) 11 20 rfl rfl ?_
      refine V_iload_n hX (j := 3) (hj := rfl) 12 21 rfl rfl ?_
      refine V_aload_n hX (j := 1) (hj := rfl) 13 22 rfl rfl ?_
      refine V_iload_n hX (j := 2) (hj := rfl) 14 23 rfl rfl ?_
      refine V_iconst hX (v := 1) (hv := by decide) 15 24 rfl rfl ?_
      refine V_iadd hX 16 25 rfl rfl ?_
      refine V_iload_n hX (j := 3) (hj := rfl) 17 26 rfl rfl ?_
      refine V_iadd hX 18 27 rfl rfl ?_
      refine V_callI hX 30 0 0 rfl rfl rfl (Nat.le_of_ble_eq_true rfl) (Nat.le_of_ble_eq_true rfl) (VR_SN hX 19 (ct_SA_read (cx_t hX) K v1 ((v2 + 1) + v3) M) my_SA_read mt_SA_read mn_Se_35 (Nat.le_of_ble_eq_true rfl) (Nat.le_of_ble_eq_true rfl) rfl rfl (Nat.le_of_ble_eq_true rfl) rfl (Nat.le_of_ble_eq_true rfl) (Nat.le_of_ble_eq_true rfl)) (fun r27 M27 => ?_)
      refine V_callU hX 33 0 0 rfl rfl rfl (Nat.le_of_ble_eq_true rfl) (Nat.le_of_ble_eq_true rfl) (VR_V hX 20 (ct_Se_put (cx_t hX) K v0 v3 r27 M27) my_Se_put mi_Se_put ms_Se_put ml_Se_27 (Nat.le_of_ble_eq_true rfl) (Nat.le_of_ble_eq_true rfl) (loc_ser hv0) (ent_ser K _ hv0) rfl rfl rfl (Nat.le_of_ble_eq_true rfl) rfl (Nat.le_of_ble_eq_true rfl) (Nat.le_of_ble_eq_true rfl)) (fun r30 M30 => ?_)
      refine V_iincL hX 21 36 3 rfl rfl rfl rfl (Nat.le_of_ble_eq_true rfl) (fun x3_33 hx3_33 => ?_)
      refine VV_lc [(3, .int x3_33), (0, .ref (kA K v0)), (1, .ref (kA K v1)), (2, .int v2)] rfl ?_
      refine V_goto hX 22 11 rfl (by decide) ?_
      refine VV_sub [1, 2, 3, 0] rfl ?_
      exact ih x3_33 M30
set_option maxRecDepth 20000 in
theorem ct_Se_load {l : Launch} (hl : l.stackTraces = false) (K : KT) (v0 : Nat) (v1 : Nat) (v2 : Int32) (M : Mm) : CTp l K y_Se_load (Cond.code y_Se_load prog_11_method_12_code 4 none) rvU 3 0 0 [.ref (kA K v0), .ref (kA K v1), .int v2] M (fn_Se_load v0 v1 v2 M) := by
  refine CTp_of (L := L_Se_load) (lc := [(0, .ref (kA K v0)), (1, .ref (kA K v1)), (2, .int v2)]) (by decide +kernel) dec_Se_load hl rfl (Nat.le_of_ble_eq_true rfl) (fun X hX => ?_)
  unfold fn_Se_load
  refine VV_grd (fun hv0 => ?_)
  refine VV_grd (fun hv1 => ?_)
  refine V_aload_n hX (j := 0) (hj := rfl) 0 1 rfl rfl ?_
  refine V_aload_n hX (j := 1) (hj := rfl) 1 2 rfl rfl ?_
  refine V_iload_n hX (j := 2) (hj := rfl) 2 3 rfl rfl ?_
  refine V_callI hX 6 0 0 rfl rfl rfl (Nat.le_of_ble_eq_true rfl) (Nat.le_of_ble_eq_true rfl) (VR_SN hX 3 (ct_SA_read (cx_t hX) K v1 v2 M) my_SA_read mt_SA_read mn_Se_35 (Nat.le_of_ble_eq_true rfl) (Nat.le_of_ble_eq_true rfl) rfl rfl (Nat.le_of_ble_eq_true rfl) rfl (Nat.le_of_ble_eq_true rfl) (Nat.le_of_ble_eq_true rfl)) (fun r3 M3 => ?_)
  refine V_putI hX 4 9 v0 fp_Se_15 (ser_ne19 hv0) rfl rfl (loc_ser hv0) (ent_ser K _ hv0) (Nat.le_of_ble_eq_true rfl) (ent_ser K _ hv0) (fun M6 hM6 => ?_)
  refine V_iconst hX (v := 0) (hv := by decide) 5 10 rfl rfl ?_
  refine V_istore_n hX 6 11 [(3, .int 0), (0, .ref (kA K v0)), (1, .ref (kA K v1)), (2, .int v2)] rfl rfl (Nat.le_of_ble_eq_true rfl) rfl ?_
  refine VV_sub [1, 2, 3, 0] rfl ?_
  exact bt_Se_load_11 hX v0 v1 v2 hv0 hv1 fuel0 0 M6
set_option maxRecDepth 20000 in
theorem bt_St_load_11 {l : Launch} {K : KT} {X : XT} (hX : Cx l K 4 4 0 0 X prog_12_method_7_code "SeriesArchive$State" none [] L_St_load) (v1 : Nat) (v2 : Int32) (hv1 : isIA v1) : ∀ (n : Nat) (v3 : Int32) (M : Mm), VV l K 4 4 0 0 rvU X (fn_St_load_11 v1 v2 n v3 M) 0 0 M 11 [(0, .ref (kA K 1)), (1, .ref (kA K v1)), (2, .int v2), (3, .int v3)] [] := by
  intro n
  induction n with
  | zero => intro v3 M; exact VV_none
  | succ n ih =>
    intro v3 M
    rw [fn_St_load_11]
    refine V_iload_n hX (j := 3) (hj := rfl) 7 12 rfl rfl ?_
    refine V_iconst hX (v := 4) (hv := by decide) 8 13 rfl rfl ?_
    refine V_icmp_ge hX 9 16 39 rfl rfl (by decide) (fun c13 => ?_) (fun c13 => ?_)
    · exact V_vret hX 24 rfl (Nat.le_of_ble_eq_true rfl) (Nat.le_of_ble_eq_true rfl) rfl
    · refine V_aload_n hX (j := 0) (hj := rfl) 10 17 rfl rfl ?_
      refine V_iload_n hX (j := 3) (hj := rfl) 11 18 rfl rfl ?_
      refine V_callL hX 21 0 0 rfl rfl rfl (Nat.le_of_ble_eq_true rfl) (Nat.le_of_ble_eq_true rfl) (VR_V hX 12 (ct_St_at (cx_t hX) K v3 M) my_St_at mi_St_at ms_St_at ml_St_34 (Nat.le_of_ble_eq_true rfl) (Nat.le_of_ble_eq_true rfl) (by decide) (ent_1 K _) rfl rfl rfl (Nat.le_of_ble_eq_true rfl) rfl (Nat.le_of_ble_eq_true rfl) (Nat.le_of_ble_eq_true rfl)) (fun r18 M18 => VV_grd (fun hr18 => ?_))
      refine V_aload_n hX (j := 1) (hj := rfl) 13 22 rfl rfl ?_
      refine V_iload_n hX (j := 2) (hj := rfl) 14 23 rfl rfl ?_
      refine V_iconst hX (v := 1) (hv := by decide) 15 24 rfl rfl ?_
      refine V_iadd hX 16 25 rfl rfl ?_
      refine V_iload_n hX (j := 3) (hj := rfl) 17 26 rfl rfl ?_
      refine V_bipush hX (v := 21) (hv := by decide) 18 28 rfl rfl ?_
      refine V_imul hX 19 29 rfl rfl ?_
      refine V_iadd hX 20 30 rfl rfl ?_
      refine V_callU hX 33 0 0 rfl rfl rfl (Nat.le_of_ble_eq_true rfl) (Nat.le_of_ble_eq_true rfl) (VR_V hX 21 (ct_Se_load (cx_t hX) K r18 v1 ((v2 + 1) + (v3 * 21)) M18) my_Se_load mi_Se_load ms_Se_load ml_St_58 (Nat.le_of_ble_eq_true rfl) (Nat.le_of_ble_eq_true rfl) (loc_ser hr18) (ent_ser K _ hr18) rfl rfl rfl (Nat.le_of_ble_eq_true rfl) rfl (Nat.le_of_ble_eq_true rfl) (Nat.le_of_ble_eq_true rfl)) (fun r30 M30 => ?_)
      refine V_iincL hX 22 36 3 rfl rfl rfl rfl (Nat.le_of_ble_eq_true rfl) (fun x3_33 hx3_33 => ?_)
      refine VV_lc [(3, .int x3_33), (0, .ref (kA K 1)), (1, .ref (kA K v1)), (2, .int v2)] rfl ?_
      refine V_goto hX 23 11 rfl (by decide) ?_
      refine VV_sub [1, 2, 3, 0] rfl ?_
      exact ih x3_33 M30
set_option maxRecDepth 20000 in
theorem ct_St_load {l : Launch} (hl : l.stackTraces = false) (K : KT) (v1 : Nat) (v2 : Int32) (M : Mm) : CTp l K y_St_load (Cond.code y_St_load prog_12_method_7_code 4 none) rvU 4 0 0 [.ref (kA K 1), .ref (kA K v1), .int v2] M (fn_St_load v1 v2 M) := by
  refine CTp_of (L := L_St_load) (lc := [(0, .ref (kA K 1)), (1, .ref (kA K v1)), (2, .int v2)]) (by decide +kernel) dec_St_load hl rfl (Nat.le_of_ble_eq_true rfl) (fun X hX => ?_)
  unfold fn_St_load
  refine VV_grd (fun hv1 => ?_)
  refine V_aload_n hX (j := 0) (hj := rfl) 0 1 rfl rfl ?_
  refine V_aload_n hX (j := 1) (hj := rfl) 1 2 rfl rfl ?_
  refine V_iload_n hX (j := 2) (hj := rfl) 2 3 rfl rfl ?_
  refine V_callI hX 6 0 0 rfl rfl rfl (Nat.le_of_ble_eq_true rfl) (Nat.le_of_ble_eq_true rfl) (VR_SN hX 3 (ct_SA_read (cx_t hX) K v1 v2 M) my_SA_read mt_SA_read mn_St_54 (Nat.le_of_ble_eq_true rfl) (Nat.le_of_ble_eq_true rfl) rfl rfl (Nat.le_of_ble_eq_true rfl) rfl (Nat.le_of_ble_eq_true rfl) (Nat.le_of_ble_eq_true rfl)) (fun r3 M3 => ?_)
  refine V_putI hX 4 9 1 fp_St_30 (by decide) rfl rfl (by decide) (ent_1 K _) (Nat.le_of_ble_eq_true rfl) (ent_1 K _) (fun M6 hM6 => ?_)
  refine V_iconst hX (v := 0) (hv := by decide) 5 10 rfl rfl ?_
  refine V_istore_n hX 6 11 [(3, .int 0), (0, .ref (kA K 1)), (1, .ref (kA K v1)), (2, .int v2)] rfl rfl (Nat.le_of_ble_eq_true rfl) rfl ?_
  refine VV_sub [1, 2, 3, 0] rfl ?_
  exact bt_St_load_11 hX v1 v2 hv1 fuel0 0 M6
set_option maxRecDepth 20000 in
theorem bt_Hi_takeBack_19 {l : Launch} {K : KT} {X : XT} (hX : Cx l K 5 2 0 0 X prog_5_method_7_code "SeriesArchive$History" none [] L_Hi_takeBack) (s1 : Int32) (M : Mm) : VV l K 5 2 0 0 rvU X (fn_Hi_takeBack_19 s1 M) 0 0 M 19 [(0, .ref (kA K 12)), (1, .ref (kA K 1))] [.int s1, .ref (kA K 12)] := by
  unfold fn_Hi_takeBack_19
  refine V_putI hX 10 22 12 fp_Hi_19 (by decide) rfl rfl (by decide) (ent_12 K _) (Nat.le_of_ble_eq_true rfl) (ent_12 K _) (fun M19 hM19 => ?_)
  refine V_aload_n hX (j := 0) (hj := rfl) 11 23 rfl rfl ?_
  refine V_dup hX (hc := rfl) 12 24 rfl rfl ?_
  refine V_get hX 13 27 12 (.int (M19 12 2)) fl_Hi_15 rfl rfl (by decide) (ent_12 K _) rfl ?_
  refine V_iconst hX (v := 1) (hv := by decide) 14 28 rfl rfl ?_
  refine V_isub hX 15 29 rfl rfl ?_
  refine V_putI hX 16 32 12 fp_Hi_15 (by decide) rfl rfl (by decide) (ent_12 K _) (Nat.le_of_ble_eq_true rfl) (ent_12 K _) (fun M29 hM29 => ?_)
  refine V_aload_n hX (j := 1) (hj := rfl) 17 33 rfl rfl ?_
  refine V_aload_n hX (j := 0) (hj := rfl) 18 34 rfl rfl ?_
  refine V_get hX 19 37 12 (.ref (kA K 13)) fl_Hi_9 rfl rfl (by decide) (ent_12 K _) rfl ?_
  refine V_aload_n hX (j := 0) (hj := rfl) 20 38 rfl rfl ?_
  refine V_get hX 21 41 12 (.int (M29 12 1)) fl_Hi_19 rfl rfl (by decide) (ent_12 K _) rfl ?_
  refine V_bipush hX (v := 85) (hv := by decide) 22 43 rfl rfl ?_
  refine V_imul hX 23 44 rfl rfl ?_
  refine V_callU hX 47 0 0 rfl rfl rfl (Nat.le_of_ble_eq_true rfl) (Nat.le_of_ble_eq_true rfl) (VR_V hX 24 (ct_St_load (cx_t hX) K 13 ((M29 12 1) * 85) M29) my_St_load mi_St_load ms_St_load ml_Hi_45 (Nat.le_of_ble_eq_true rfl) (Nat.le_of_ble_eq_true rfl) (by decide) (ent_1 K _) rfl rfl rfl (Nat.le_of_ble_eq_true rfl) rfl (Nat.le_of_ble_eq_true rfl) (Nat.le_of_ble_eq_true rfl)) (fun r44 M44 => ?_)
  exact V_vret hX 25 rfl (Nat.le_of_ble_eq_true rfl) (Nat.le_of_ble_eq_true rfl) rfl
set_option maxRecDepth 20000 in
theorem ct_Hi_takeBack {l : Launch} (hl : l.stackTraces = false) (K : KT) (M : Mm) : CTp l K y_Hi_takeBack (Cond.code y_Hi_takeBack prog_5_method_7_code 2 none) rvU 5 0 0 [.ref (kA K 12), .ref (kA K 1)] M (fn_Hi_takeBack M) := by
  refine CTp_of (L := L_Hi_takeBack) (lc := [(0, .ref (kA K 12)), (1, .ref (kA K 1))]) (by decide +kernel) dec_Hi_takeBack hl rfl (Nat.le_of_ble_eq_true rfl) (fun X hX => ?_)
  unfold fn_Hi_takeBack
  refine V_aload_n hX (j := 0) (hj := rfl) 0 1 rfl rfl ?_
  refine V_aload_n hX (j := 0) (hj := rfl) 1 2 rfl rfl ?_
  refine V_get hX 2 5 12 (.int (M 12 1)) fl_Hi_19 rfl rfl (by decide) (ent_12 K _) rfl ?_
  refine V_if_le hX 3 8 17 rfl rfl (by decide) (fun c5 => ?_) (fun c5 => ?_)
  · refine V_bipush hX (v := 7) (hv := by decide) 9 19 rfl rfl ?_
    exact bt_Hi_takeBack_19 hX 7 M
  · refine V_aload_n hX (j := 0) (hj := rfl) 4 9 rfl rfl ?_
    refine V_get hX 5 12 12 (.int (M 12 1)) fl_Hi_19 rfl rfl (by decide) (ent_12 K _) rfl ?_
    refine V_iconst hX (v := 1) (hv := by decide) 6 13 rfl rfl ?_
    refine V_isub hX 7 14 rfl rfl ?_
    refine V_goto hX 8 19 rfl (by decide) ?_
    exact bt_Hi_takeBack_19 hX ((M 12 1) - 1) M
set_option maxRecDepth 20000 in
theorem ct_In_isFull {l : Launch} (hl : l.stackTraces = false) (K : KT) (M : Mm) : CTp l K y_In_isFull (Cond.code y_In_isFull prog_6_method_2_code 1 (some .boolean)) rvI 1 0 0 [.ref (kA K 16)] M (fn_In_isFull M) := by
  refine CTp_of (L := L_In_isFull) (lc := [(0, .ref (kA K 16))]) (by decide +kernel) dec_In_isFull hl rfl (Nat.le_of_ble_eq_true rfl) (fun X hX => ?_)
  unfold fn_In_isFull
  refine V_aload_n hX (j := 0) (hj := rfl) 0 1 rfl rfl ?_
  refine V_get hX 1 4 16 (.int (M 16 1)) fl_In_28 rfl rfl (by decide) (ent_16 K _) rfl ?_
  refine V_aload_n hX (j := 0) (hj := rfl) 2 5 rfl rfl ?_
  refine V_get hX 3 8 16 (.ref (kA K 17)) fl_In_9 rfl rfl (by decide) (ent_16 K _) rfl ?_
  refine V_clen hX 4 9 rfl rfl ?_
  refine V_icmp_lt hX 5 12 16 rfl rfl (by decide) (fun c9 => ?_) (fun c9 => ?_)
  · refine V_iconst hX (v := 0) (hv := by decide) 8 17 rfl rfl ?_
    exact V_zret hX 9 rfl rfl (Nat.le_of_ble_eq_true rfl) (Nat.le_of_ble_eq_true rfl) rfl
  · refine V_iconst hX (v := 1) (hv := by decide) 6 13 rfl rfl ?_
    refine V_goto hX 7 17 rfl (by decide) ?_
    exact V_zret hX 9 rfl rfl (Nat.le_of_ble_eq_true rfl) (Nat.le_of_ble_eq_true rfl) rfl
set_option maxRecDepth 20000 in
theorem bt_In_add_27 {l : Launch} {K : KT} {X : XT} (hX : Cx l K 2 2 0 0 X prog_6_method_3_code "SeriesArchive$Input" (some .int) [] L_In_add) (M : Mm) : VV l K 2 2 0 0 rvI X (fn_In_add_27 M) 0 0 M 27 [(0, .ref (kA K 16))] [] := by
  unfold fn_In_add_27
  refine V_aload_n hX (j := 0) (hj := rfl) 15 28 rfl rfl ?_
  refine V_get hX 16 31 16 (.int (M 16 1)) fl_In_28 rfl rfl (by decide) (ent_16 K _) rfl ?_
  exact V_iret hX 17 rfl (Nat.le_of_ble_eq_true rfl) (Nat.le_of_ble_eq_true rfl) rfl
set_option maxRecDepth 20000 in
theorem ct_In_add {l : Launch} (hl : l.stackTraces = false) (K : KT) (v1 : Int32) (M : Mm) : CTp l K y_In_add (Cond.code y_In_add prog_6_method_3_code 2 (some .int)) rvI 2 0 0 [.ref (kA K 16), .int v1] M (fn_In_add v1 M) := by
  refine CTp_of (L := L_In_add) (lc := [(0, .ref (kA K 16)), (1, .int v1)]) (by decide +kernel) dec_In_add hl rfl (Nat.le_of_ble_eq_true rfl) (fun X hX => ?_)
  unfold fn_In_add
  refine V_aload_n hX (j := 0) (hj := rfl) 0 1 rfl rfl ?_
  refine V_callI hX 4 0 0 rfl rfl rfl (Nat.le_of_ble_eq_true rfl) (Nat.le_of_ble_eq_true rfl) (VR_V hX 1 (ct_In_isFull (cx_t hX) K M) my_In_isFull mi_In_isFull ms_In_isFull ml_In_32 (Nat.le_of_ble_eq_true rfl) (Nat.le_of_ble_eq_true rfl) (by decide) (ent_16 K _) rfl rfl rfl (Nat.le_of_ble_eq_true rfl) rfl (Nat.le_of_ble_eq_true rfl) (Nat.le_of_ble_eq_true rfl)) (fun r1 M1 => ?_)
  refine V_if_ne hX 2 7 27 rfl rfl (by decide) (fun c4 => ?_) (fun c4 => ?_)
  · refine VV_sub [0] rfl ?_
    exact bt_In_add_27 hX M1
  · refine V_aload_n hX (j := 0) (hj := rfl) 3 8 rfl rfl ?_
    refine V_get hX 4 11 16 (.ref (kA K 17)) fl_In_9 rfl rfl (by decide) (ent_16 K _) rfl ?_
    refine V_aload_n hX (j := 0) (hj := rfl) 5 12 rfl rfl ?_
    refine V_get hX 6 15 16 (.int (M1 16 1)) fl_In_28 rfl rfl (by decide) (ent_16 K _) rfl ?_
    refine V_iload_n hX (j := 1) (hj := rfl) 7 16 rfl rfl ?_
    refine V_cast hX 8 17 rfl rfl (fun g16 M16 hM16 => ?_)
    refine V_aload_n hX (j := 0) (hj := rfl) 9 18 rfl rfl ?_
    refine V_dup hX (hc := rfl) 10 19 rfl rfl ?_
    refine V_get hX 11 22 16 (.int (M16 16 1)) fl_In_28 rfl rfl (by decide) (ent_16 K _) rfl ?_
    refine V_iconst hX (v := 1) (hv := by decide) 12 23 rfl rfl ?_
    refine V_iadd hX 13 24 rfl rfl ?_
    refine V_putI hX 14 27 16 fp_In_28 (by decide) rfl rfl (by decide) (ent_16 K _) (Nat.le_of_ble_eq_true rfl) (ent_16 K _) (fun M24 hM24 => ?_)
    refine VV_sub [0] rfl ?_
    exact bt_In_add_27 hX M24
set_option maxRecDepth 20000 in
theorem ct_In_clear {l : Launch} (hl : l.stackTraces = false) (K : KT) (M : Mm) : CTp l K y_In_clear (Cond.code y_In_clear prog_6_method_4_code 1 none) rvU 1 0 0 [.ref (kA K 16)] M (fn_In_clear M) := by
  refine CTp_of (L := L_In_clear) (lc := [(0, .ref (kA K 16))]) (by decide +kernel) dec_In_clear hl rfl (Nat.le_of_ble_eq_true rfl) (fun X hX => ?_)
  unfold fn_In_clear
  refine V_aload_n hX (j := 0) (hj := rfl) 0 1 rfl rfl ?_
  refine V_iconst hX (v := 0) (hv := by decide) 1 2 rfl rfl ?_
  refine V_putI hX 2 5 16 fp_In_28 (by decide) rfl rfl (by decide) (ent_16 K _) (Nat.le_of_ble_eq_true rfl) (ent_16 K _) (fun M2 hM2 => ?_)
  exact V_vret hX 3 rfl (Nat.le_of_ble_eq_true rfl) (Nat.le_of_ble_eq_true rfl) rfl
set_option maxRecDepth 20000 in
theorem ct_In_kind {l : Launch} (hl : l.stackTraces = false) (K : KT) (M : Mm) : CTp l K y_In_kind (Cond.code y_In_kind prog_6_method_5_code 1 (some (.object "SeriesArchive$Kind"))) (fun z => some (.ref (kA K (1000 + z)))) 1 0 0 [.ref (kA K 16)] M (fn_In_kind M) := by
  refine CTp_of (L := L_In_kind) (lc := [(0, .ref (kA K 16))]) (by decide +kernel) dec_In_kind hl rfl (Nat.le_of_ble_eq_true rfl) (fun X hX => ?_)
  unfold fn_In_kind
  refine V_aload_n hX (j := 0) (hj := rfl) 0 1 rfl rfl ?_
  refine V_get hX 1 4 16 (.ref (kA K (1000 + (M 16 4).toNatClampNeg))) fl_In_25 rfl rfl (by decide) (ent_16 K _) rfl ?_
  refine VV_grd (fun hk1 => ?_)
  exact V_aret hX 2 "SeriesArchive$Kind" rfl rfl (Nat.le_of_ble_eq_true rfl) (Nat.le_of_ble_eq_true rfl) rfl
set_option maxRecDepth 20000 in
theorem ct_In_argument {l : Launch} (hl : l.stackTraces = false) (K : KT) (v1 : Int32) (M : Mm) : CTp l K y_In_argument (Cond.code y_In_argument prog_6_method_6_code 2 (some .int)) rvI 2 0 0 [.ref (kA K 16), .int v1] M (fn_In_argument v1 M) := by
  refine CTp_of (L := L_In_argument) (lc := [(0, .ref (kA K 16)), (1, .int v1)]) (by decide +kernel) dec_In_argument hl rfl (Nat.le_of_ble_eq_true rfl) (fun X hX => ?_)
  unfold fn_In_argument
  refine V_aload_n hX (j := 0) (hj := rfl) 0 1 rfl rfl ?_
  refine V_get hX 1 4 16 (.ref (kA K 18)) fl_In_15 rfl rfl (by decide) (ent_16 K _) rfl ?_
  refine V_iload_n hX (j := 1) (hj := rfl) 2 5 rfl rfl ?_
  refine V_callI hX 8 0 0 rfl rfl rfl (Nat.le_of_ble_eq_true rfl) (Nat.le_of_ble_eq_true rfl) (VR_SN hX 3 (ct_SA_read (cx_t hX) K 18 v1 M) my_SA_read mt_SA_read mn_In_36 (Nat.le_of_ble_eq_true rfl) (Nat.le_of_ble_eq_true rfl) rfl rfl (Nat.le_of_ble_eq_true rfl) rfl (Nat.le_of_ble_eq_true rfl) (Nat.le_of_ble_eq_true rfl)) (fun r5 M5 => ?_)
  exact V_iret hX 4 rfl (Nat.le_of_ble_eq_true rfl) (Nat.le_of_ble_eq_true rfl) rfl
set_option maxRecDepth 20000 in
theorem ct_In_errorPlace {l : Launch} (hl : l.stackTraces = false) (K : KT) (M : Mm) : CTp l K y_In_errorPlace (Cond.code y_In_errorPlace prog_6_method_7_code 1 (some .int)) rvI 1 0 0 [.ref (kA K 16)] M (fn_In_errorPlace M) := by
  refine CTp_of (L := L_In_errorPlace) (lc := [(0, .ref (kA K 16))]) (by decide +kernel) dec_In_errorPlace hl rfl (Nat.le_of_ble_eq_true rfl) (fun X hX => ?_)
  unfold fn_In_errorPlace
  refine V_aload_n hX (j := 0) (hj := rfl) 0 1 rfl rfl ?_
  refine V_get hX 1 4 16 (.int (M 16 5)) fl_In_40 rfl rfl (by decide) (ent_16 K _) rfl ?_
  exact V_iret hX 2 rfl (Nat.le_of_ble_eq_true rfl) (Nat.le_of_ble_eq_true rfl) rfl
set_option maxRecDepth 20000 in
theorem ct_In_giveUp {l : Launch} (hl : l.stackTraces = false) (K : KT) (v1 : Int32) (M : Mm) : CTp l K y_In_giveUp (Cond.code y_In_giveUp prog_6_method_15_code 2 (some .int)) rvI 2 0 0 [.ref (kA K 16), .int v1] M (fn_In_giveUp v1 M) := by
  refine CTp_of (L := L_In_giveUp) (lc := [(0, .ref (kA K 16)), (1, .int v1)]) (by decide +kernel) dec_In_giveUp hl rfl (Nat.le_of_ble_eq_true rfl) (fun X hX => ?_)
  unfold fn_In_giveUp
  refine V_aload_n hX (j := 0) (hj := rfl) 0 1 rfl rfl ?_
  refine V_aload_n hX (j := 0) (hj := rfl) 1 2 rfl rfl ?_
  refine V_get hX 2 5 16 (.int (M 16 5)) fl_In_40 rfl rfl (by decide) (ent_16 K _) rfl ?_
  refine V_iload_n hX (j := 1) (hj := rfl) 3 6 rfl rfl ?_
  refine V_max hX 4 9 mm_In_99 (Nat.le_of_ble_eq_true rfl) (Nat.le_of_ble_eq_true rfl) (Nat.le_of_ble_eq_true rfl) (Nat.le_of_ble_eq_true rfl) rfl rfl ?_
  refine V_putI hX 5 12 16 fp_In_40 (by decide) rfl rfl (by decide) (ent_16 K _) (Nat.le_of_ble_eq_true rfl) (ent_16 K _) (fun M9 hM9 => ?_)
  refine V_iconst hX (v := (-1)) (hv := by decide) 6 13 rfl rfl ?_
  exact V_iret hX 7 rfl (Nat.le_of_ble_eq_true rfl) (Nat.le_of_ble_eq_true rfl) rfl
set_option maxRecDepth 20000 in
theorem ct_In_signAt {l : Launch} (hl : l.stackTraces = false) (K : KT) (v1 : Int32) (M : Mm) : CTp l K y_In_signAt (Cond.code y_In_signAt prog_6_method_17_code 2 (some .char)) rvI 1 0 0 [.ref (kA K 16), .int v1] M (fn_In_signAt v1 M) := by
  refine CTp_of (L := L_In_signAt) (lc := [(0, .ref (kA K 16)), (1, .int v1)]) (by decide +kernel) dec_In_signAt hl rfl (Nat.le_of_ble_eq_true rfl) (fun X hX => ?_)
  unfold fn_In_signAt
  refine V_iload_n hX (j := 1) (hj := rfl) 0 1 rfl rfl ?_
  refine V_if_lt hX 1 4 30 rfl rfl (by decide) (fun c1 => ?_) (fun c1 => ?_)
  · refine V_iconst hX (v := 0) (hv := by decide) 16 31 rfl rfl ?_
    exact V_zret hX 17 rfl (by decide) (Nat.le_of_ble_eq_true rfl) (Nat.le_of_ble_eq_true rfl) rfl
  · refine V_iload_n hX (j := 1) (hj := rfl) 2 5 rfl rfl ?_
    refine V_aload_n hX (j := 0) (hj := rfl) 3 6 rfl rfl ?_
    refine V_get hX 4 9 16 (.int (M 16 1)) fl_In_28 rfl rfl (by decide) (ent_16 K _) rfl ?_
    refine V_icmp_ge hX 5 12 30 rfl rfl (by decide) (fun c9 => ?_) (fun c9 => ?_)
    · refine V_iconst hX (v := 0) (hv := by decide) 16 31 rfl rfl ?_
      exact V_zret hX 17 rfl (by decide) (Nat.le_of_ble_eq_true rfl) (Nat.le_of_ble_eq_true rfl) rfl
    · refine V_iload_n hX (j := 1) (hj := rfl) 6 13 rfl rfl ?_
      refine V_aload_n hX (j := 0) (hj := rfl) 7 14 rfl rfl ?_
      refine V_get hX 8 17 16 (.ref (kA K 17)) fl_In_9 rfl rfl (by decide) (ent_16 K _) rfl ?_
      refine V_clen hX 9 18 rfl rfl ?_
      refine V_icmp_ge hX 10 21 30 rfl rfl (by decide) (fun c18 => ?_) (fun c18 => ?_)
      · refine V_iconst hX (v := 0) (hv := by decide) 16 31 rfl rfl ?_
        exact V_zret hX 17 rfl (by decide) (Nat.le_of_ble_eq_true rfl) (Nat.le_of_ble_eq_true rfl) rfl
      · refine V_aload_n hX (j := 0) (hj := rfl) 11 22 rfl rfl ?_
        refine V_get hX 12 25 16 (.ref (kA K 17)) fl_In_9 rfl rfl (by decide) (ent_16 K _) rfl ?_
        refine V_iload_n hX (j := 1) (hj := rfl) 13 26 rfl rfl ?_
        refine V_cald hX 14 27 rfl rfl (fun g26 => ?_)
        refine V_goto hX 15 31 rfl (by decide) ?_
        refine VV_grd (fun hz1 => ?_)
        exact V_zret hX 17 rfl (vp_narC hz1) (Nat.le_of_ble_eq_true rfl) (Nat.le_of_ble_eq_true rfl) rfl
set_option maxRecDepth 20000 in
theorem ct_In_digitAt {l : Launch} (hl : l.stackTraces = false) (K : KT) (v1 : Int32) (M : Mm) : CTp l K y_In_digitAt (Cond.code y_In_digitAt prog_6_method_16_code 3 (some .int)) rvI 2 0 0 [.ref (kA K 16), .int v1] M (fn_In_digitAt v1 M) := by
  refine CTp_of (L := L_In_digitAt) (lc := [(0, .ref (kA K 16)), (1, .int v1)]) (by decide +kernel) dec_In_digitAt hl rfl (Nat.le_of_ble_eq_true rfl) (fun X hX => ?_)
  unfold fn_In_digitAt
  refine V_aload_n hX (j := 0) (hj := rfl) 0 1 rfl rfl ?_
  refine V_iload_n hX (j := 1) (hj := rfl) 1 2 rfl rfl ?_
  refine V_callI hX 5 0 0 rfl rfl rfl (Nat.le_of_ble_eq_true rfl) (Nat.le_of_ble_eq_true rfl) (VR_V hX 2 (ct_In_signAt (cx_t hX) K v1 M) my_In_signAt mi_In_signAt ms_In_signAt ml_In_47 (Nat.le_of_ble_eq_true rfl) (Nat.le_of_ble_eq_true rfl) (by decide) (ent_16 K _) rfl rfl rfl (Nat.le_of_ble_eq_true rfl) rfl (Nat.le_of_ble_eq_true rfl) (Nat.le_of_ble_eq_true rfl)) (fun r2 M2 => ?_)
  refine V_istore_n hX 3 6 [(2, .int r2), (0, .ref (kA K 16)), (1, .int v1)] rfl rfl (Nat.le_of_ble_eq_true rfl) rfl ?_
  refine V_iload_n hX (j := 0) (hj := rfl) 4 7 rfl rfl ?_
  refine V_bipush hX (v := 48) (hv := by decide) 5 9 rfl rfl ?_
  refine V_icmp_lt hX 6 12 25 rfl rfl (by decide) (fun c9 => ?_) (fun c9 => ?_)
  · refine V_iconst hX (v := (-1)) (hv := by decide) 14 26 rfl rfl ?_
    exact V_iret hX 15 rfl (Nat.le_of_ble_eq_true rfl) (Nat.le_of_ble_eq_true rfl) rfl
  · refine V_iload_n hX (j := 0) (hj := rfl) 7 13 rfl rfl ?_
    refine V_bipush hX (v := 57) (hv := by decide) 8 15 rfl rfl ?_
    refine V_icmp_gt hX 9 18 25 rfl rfl (by decide) (fun c15 => ?_) (fun c15 => ?_)
    · refine V_iconst hX (v := (-1)) (hv := by decide) 14 26 rfl rfl ?_
      exact V_iret hX 15 rfl (Nat.le_of_ble_eq_true rfl) (Nat.le_of_ble_eq_true rfl) rfl
    · refine V_iload_n hX (j := 0) (hj := rfl) 10 19 rfl rfl ?_
      refine V_bipush hX (v := 48) (hv := by decide) 11 21 rfl rfl ?_
      refine V_isub hX 12 22 rfl rfl ?_
      refine V_goto hX 13 26 rfl (by decide) ?_
      exact V_iret hX 15 rfl (Nat.le_of_ble_eq_true rfl) (Nat.le_of_ble_eq_true rfl) rfl
set_option maxRecDepth 20000 in
theorem ct_In_keepArgument {l : Launch} (hl : l.stackTraces = false) (K : KT) (v1 : Int32) (v2 : Int32) (M : Mm) : CTp l K y_In_keepArgument (Cond.code y_In_keepArgument prog_6_method_14_code 3 (some .int)) rvI 2 0 0 [.ref (kA K 16), .int v1, .int v2] M (fn_In_keepArgument v1 v2 M) := by
  refine CTp_of (L := L_In_keepArgument) (lc := [(0, .ref (kA K 16)), (1, .int v1), (2, .int v2)]) (by decide +kernel) dec_In_keepArgument hl rfl (Nat.le_of_ble_eq_true rfl) (fun X hX => ?_)
  unfold fn_In_keepArgument
  refine V_aload_n hX (j := 0) (hj := rfl) 0 1 rfl rfl ?_
  refine V_get hX 1 4 16 (.ref (kA K 18)) fl_In_15 rfl rfl (by decide) (ent_16 K _) rfl ?_
  refine V_aload_n hX (j := 0) (hj := rfl) 2 5 rfl rfl ?_
  refine V_get hX 3 8 16 (.int (M 16 3)) fl_In_63 rfl rfl (by decide) (ent_16 K _) rfl ?_
  refine V_iload_n hX (j := 1) (hj := rfl) 4 9 rfl rfl ?_
  refine V_callU hX 12 0 0 rfl rfl rfl (Nat.le_of_ble_eq_true rfl) (Nat.le_of_ble_eq_true rfl) (VR_SN hX 5 (ct_SA_write (cx_t hX) K 18 (M 16 3) v1 M) my_SA_write mt_SA_write mn_In_95 (Nat.le_of_ble_eq_true rfl) (Nat.le_of_ble_eq_true rfl) rfl rfl (Nat.le_of_ble_eq_true rfl) rfl (Nat.le_of_ble_eq_true rfl) (Nat.le_of_ble_eq_true rfl)) (fun r9 M9 => ?_)
  refine V_aload_n hX (j := 0) (hj := rfl) 6 13 rfl rfl ?_
  refine V_dup hX (hc := rfl) 7 14 rfl rfl ?_
  refine V_get hX 8 17 16 (.int (M9 16 3)) fl_In_63 rfl rfl (by decide) (ent_16 K _) rfl ?_
  refine V_iconst hX (v := 1) (hv := by decide) 9 18 rfl rfl ?_
  refine V_iadd hX 10 19 rfl rfl ?_
  refine V_putI hX 11 22 16 fp_In_63 (by decide) rfl rfl (by decide) (ent_16 K _) (Nat.le_of_ble_eq_true rfl) (ent_16 K _) (fun M19 hM19 => ?_)
  refine V_iload_n hX (j := 2) (hj := rfl) 12 23 rfl rfl ?_
  exact V_iret hX 13 rfl (Nat.le_of_ble_eq_true rfl) (Nat.le_of_ble_eq_true rfl) rfl
set_option maxRecDepth 20000 in
theorem ct_In_readDigit {l : Launch} (hl : l.stackTraces = false) (K : KT) (v1 : Int32) (M : Mm) : CTp l K y_In_readDigit (Cond.code y_In_readDigit prog_6_method_12_code 3 (some .int)) rvI 3 0 0 [.ref (kA K 16), .int v1] M (fn_In_readDigit v1 M) := by
  refine CTp_of (L := L_In_readDigit) (lc := [(0, .ref (kA K 16)), (1, .int v1)]) (by decide +kernel) dec_In_readDigit hl rfl (Nat.le_of_ble_eq_true rfl) (fun X hX => ?_)
  unfold fn_In_readDigit
  refine V_aload_n hX (j := 0) (hj := rfl) 0 1 rfl rfl ?_
  refine V_iload_n hX (j := 1) (hj := rfl) 1 2 rfl rfl ?_
  refine V_callI hX 5 0 0 rfl rfl rfl (Nat.le_of_ble_eq_true rfl) (Nat.le_of_ble_eq_true rfl) (VR_V hX 2 (ct_In_digitAt (cx_t hX) K v1 M) my_In_digitAt mi_In_digitAt ms_In_digitAt ml_In_89 (Nat.le_of_ble_eq_true rfl) (Nat.le_of_ble_eq_true rfl) (by decide) (ent_16 K _) rfl rfl rfl (Nat.le_of_ble_eq_true rfl) rfl (Nat.le_of_ble_eq_true rfl) (Nat.le_of_ble_eq_true rfl)) (fun r2 M2 => ?_)
  refine V_istore_n hX 3 6 [(2, .int r2), (0, .ref (kA K 16)), (1, .int v1)] rfl rfl (Nat.le_of_ble_eq_true rfl) rfl ?_
  refine V_iload_n hX (j := 0) (hj := rfl) 4 7 rfl rfl ?_
  refine V_iconst hX (v := (-1)) (hv := by decide) 5 8 rfl rfl ?_
  refine V_icmp_ne hX 6 11 19 rfl rfl (by decide) (fun c8 => ?_) (fun c8 => ?_)
  · refine V_aload_n hX (j := 1) (hj := rfl) 11 20 rfl rfl ?_
    refine V_iload_n hX (j := 0) (hj := rfl) 12 21 rfl rfl ?_
    refine V_iload_n hX (j := 2) (hj := rfl) 13 22 rfl rfl ?_
    refine V_iconst hX (v := 1) (hv := by decide) 14 23 rfl rfl ?_
    refine V_iadd hX 15 24 rfl rfl ?_
    refine V_callI hX 27 0 0 rfl rfl rfl (Nat.le_of_ble_eq_true rfl) (Nat.le_of_ble_eq_true rfl) (VR_V hX 16 (ct_In_keepArgument (cx_t hX) K r2 (v1 + 1) M2) my_In_keepArgument mi_In_keepArgument ms_In_keepArgument ml_In_92 (Nat.le_of_ble_eq_true rfl) (Nat.le_of_ble_eq_true rfl) (by decide) (ent_16 K _) rfl rfl rfl (Nat.le_of_ble_eq_true rfl) rfl (Nat.le_of_ble_eq_true rfl) (Nat.le_of_ble_eq_true rfl)) (fun r24 M24 => ?_)
    exact V_iret hX 17 rfl (Nat.le_of_ble_eq_true rfl) (Nat.le_of_ble_eq_true rfl) rfl
  · refine V_aload_n hX (j := 1) (hj := rfl) 7 12 rfl rfl ?_
    refine V_iload_n hX (j := 2) (hj := rfl) 8 13 rfl rfl ?_
    refine V_callI hX 16 0 0 rfl rfl rfl (Nat.le_of_ble_eq_true rfl) (Nat.le_of_ble_eq_true rfl) (VR_V hX 9 (ct_In_giveUp (cx_t hX) K v1 M2) my_In_giveUp mi_In_giveUp ms_In_giveUp ml_In_86 (Nat.le_of_ble_eq_true rfl) (Nat.le_of_ble_eq_true rfl) (by decide) (ent_16 K _) rfl rfl rfl (Nat.le_of_ble_eq_true rfl) rfl (Nat.le_of_ble_eq_true rfl) (Nat.le_of_ble_eq_true rfl)) (fun r13 M13 => ?_)
    refine V_goto hX 10 27 rfl (by decide) ?_
    exact V_iret hX 17 rfl (Nat.le_of_ble_eq_true rfl) (Nat.le_of_ble_eq_true rfl) rfl
set_option maxRecDepth 20000 in
theorem bt_In_readIndex_26 {l : Launch} {K : KT} {X : XT} (hX : Cx l K 3 5 0 0 X prog_6_method_13_code "SeriesArchive$Input" (some .int) [] L_In_readIndex) (v1 : Int32) (v2 : Int32) (v3 : Int32) (M : Mm) : VV l K 3 5 0 0 rvI X (fn_In_readIndex_26 v1 v2 v3 M) 0 0 M 26 [(0, .ref (kA K 16)), (1, .int v1), (2, .int v2), (3, .int v3)] [] := by
  unfold fn_In_readIndex_26
  refine V_iload_n hX (j := 3) (hj := rfl) 16 27 rfl rfl ?_
  refine V_iconst hX (v := (-1)) (hv := by decide) 17 28 rfl rfl ?_
  refine V_icmp_ne hX 18 31 39 rfl rfl (by decide) (fun c28 => ?_) (fun c28 => ?_)
  · refine V_aload_n hX (j := 0) (hj := rfl) 23 40 rfl rfl ?_
    refine V_iload_n hX (j := 2) (hj := rfl) 24 41 rfl rfl ?_
    refine V_iload_n hX (j := 3) (hj := rfl) 25 42 rfl rfl ?_
    refine V_imul hX 26 43 rfl rfl ?_
    refine V_iload_n hX (j := 1) (hj := rfl) 27 44 rfl rfl ?_
    refine V_iconst hX (v := 1) (hv := by decide) 28 45 rfl rfl ?_
    refine V_iadd hX 29 46 rfl rfl ?_
    refine V_callI hX 49 0 0 rfl rfl rfl (Nat.le_of_ble_eq_true rfl) (Nat.le_of_ble_eq_true rfl) (VR_V hX 30 (ct_In_keepArgument (cx_t hX) K (v2 * v3) (v1 + 1) M) my_In_keepArgument mi_In_keepArgument ms_In_keepArgument ml_In_92 (Nat.le_of_ble_eq_true rfl) (Nat.le_of_ble_eq_true rfl) (by decide) (ent_16 K _) rfl rfl rfl (Nat.le_of_ble_eq_true rfl) rfl (Nat.le_of_ble_eq_true rfl) (Nat.le_of_ble_eq_true rfl)) (fun r46 M46 => ?_)
    exact V_iret hX 31 rfl (Nat.le_of_ble_eq_true rfl) (Nat.le_of_ble_eq_true rfl) rfl
  · refine V_aload_n hX (j := 0) (hj := rfl) 19 32 rfl rfl ?_
    refine V_iload_n hX (j := 1) (hj := rfl) 20 33 rfl rfl ?_
    refine V_callI hX 36 0 0 rfl rfl rfl (Nat.le_of_ble_eq_true rfl) (Nat.le_of_ble_eq_true rfl) (VR_V hX 21 (ct_In_giveUp (cx_t hX) K v1 M) my_In_giveUp mi_In_giveUp ms_In_giveUp ml_In_86 (Nat.le_of_ble_eq_true rfl) (Nat.le_of_ble_eq_true rfl) (by decide) (ent_16 K _) rfl rfl rfl (Nat.le_of_ble_eq_true rfl) rfl (Nat.le_of_ble_eq_true rfl) (Nat.le_of_ble_eq_true rfl)) (fun r33 M33 => ?_)
    refine V_goto hX 22 49 rfl (by decide) ?_
    exact V_iret hX 31 rfl (Nat.le_of_ble_eq_true rfl) (Nat.le_of_ble_eq_true rfl) rfl
set_option maxRecDepth 20000 in
theorem ct_In_readIndex {l : Launch} (hl : l.stackTraces = false) (K : KT) (v1 : Int32) (v2 : Int32) (M : Mm) : CTp l K y_In_readIndex (Cond.code y_In_readIndex prog_6_method_13_code 5 (some .int)) rvI 3 0 0 [.ref (kA K 16), .int v1, .int v2] M (fn_In_readIndex v1 v2 M) := by
  refine CTp_of (L := L_In_readIndex) (lc := [(0, .ref (kA K 16)), (1, .int v1), (2, .int v2)]) (by decide +kernel) dec_In_readIndex hl rfl (Nat.le_of_ble_eq_true rfl) (fun X hX => ?_)
  unfold fn_In_readIndex
  refine V_aload_n hX (j := 0) (hj := rfl) 0 1 rfl rfl ?_
  refine V_iload_n hX (j := 1) (hj := rfl) 1 2 rfl rfl ?_
  refine V_callI hX 5 0 0 rfl rfl rfl (Nat.le_of_ble_eq_true rfl) (Nat.le_of_ble_eq_true rfl) (VR_V hX 2 (ct_In_digitAt (cx_t hX) K v1 M) my_In_digitAt mi_In_digitAt ms_In_digitAt ml_In_89 (Nat.le_of_ble_eq_true rfl) (Nat.le_of_ble_eq_true rfl) (by decide) (ent_16 K _) rfl rfl rfl (Nat.le_of_ble_eq_true rfl) rfl (Nat.le_of_ble_eq_true rfl) (Nat.le_of_ble_eq_true rfl)) (fun r2 M2 => ?_)
  refine V_istore_n hX 3 6 [(3, .int r2), (0, .ref (kA K 16)), (1, .int v1), (2, .int v2)] rfl rfl (Nat.le_of_ble_eq_true rfl) rfl ?_
  refine V_aload_n hX (j := 1) (hj := rfl) 4 7 rfl rfl ?_
  refine V_iload_n hX (j := 2) (hj := rfl) 5 8 rfl rfl ?_
  refine V_iconst hX (v := 1) (hv := by decide) 6 9 rfl rfl ?_
  refine V_iadd hX 7 10 rfl rfl ?_
  refine V_callI hX 13 0 0 rfl rfl rfl (Nat.le_of_ble_eq_true rfl) (Nat.le_of_ble_eq_true rfl) (VR_V hX 8 (ct_In_digitAt (cx_t hX) K (v1 + 1) M2) my_In_digitAt mi_In_digitAt ms_In_digitAt ml_In_89 (Nat.le_of_ble_eq_true rfl) (Nat.le_of_ble_eq_true rfl) (by decide) (ent_16 K _) rfl rfl rfl (Nat.le_of_ble_eq_true rfl) rfl (Nat.le_of_ble_eq_true rfl) (Nat.le_of_ble_eq_true rfl)) (fun r10 M10 => ?_)
  refine V_istore hX 9 15 [(4, .int r10), (3, .int r2), (0, .ref (kA K 16)), (1, .int v1), (2, .int v2)] rfl rfl (Nat.le_of_ble_eq_true rfl) rfl ?_
  refine V_iload_n hX (j := 1) (hj := rfl) 10 16 rfl rfl ?_
  refine V_iconst hX (v := (-1)) (hv := by decide) 11 17 rfl rfl ?_
  refine V_icmp_eq hX 12 20 26 rfl rfl (by decide) (fun c17 => ?_) (fun c17 => ?_)
  · refine VV_sub [2, 3, 4, 1] rfl ?_
    exact bt_In_readIndex_26 hX v1 v2 r2 M10
  · refine V_iload hX (j := 0) (hj := rfl) 13 22 rfl rfl ?_
    refine V_iconst hX (v := (-1)) (hv := by decide) 14 23 rfl rfl ?_
    refine V_icmp_ne hX 15 26 50 rfl rfl (by decide) (fun c23 => ?_) (fun c23 => ?_)
    · refine V_aload_n hX (j := 2) (hj := rfl) 32 51 rfl rfl ?_
      refine V_iload_n hX (j := 4) (hj := rfl) 33 52 rfl rfl ?_
      refine V_bipush hX (v := 10) (hv := by decide) 34 54 rfl rfl ?_
      refine V_iload_n hX (j := 1) (hj := rfl) 35 55 rfl rfl ?_
      refine V_imul hX 36 56 rfl rfl ?_
      refine V_iload hX (j := 0) (hj := rfl) 37 58 rfl rfl ?_
      refine V_iadd hX 38 59 rfl rfl ?_
      refine V_imul hX 39 60 rfl rfl ?_
      refine V_iload_n hX (j := 3) (hj := rfl) 40 61 rfl rfl ?_
      refine V_iconst hX (v := 2) (hv := by decide) 41 62 rfl rfl ?_
      refine V_iadd hX 42 63 rfl rfl ?_
      refine V_callI hX 66 0 0 rfl rfl rfl (Nat.le_of_ble_eq_true rfl) (Nat.le_of_ble_eq_true rfl) (VR_V hX 43 (ct_In_keepArgument (cx_t hX) K (v2 * ((10 * r2) + r10)) (v1 + 2) M10) my_In_keepArgument mi_In_keepArgument ms_In_keepArgument ml_In_92 (Nat.le_of_ble_eq_true rfl) (Nat.le_of_ble_eq_true rfl) (by decide) (ent_16 K _) rfl rfl rfl (Nat.le_of_ble_eq_true rfl) rfl (Nat.le_of_ble_eq_true rfl) (Nat.le_of_ble_eq_true rfl)) (fun r63 M63 => ?_)
      exact V_iret hX 44 rfl (Nat.le_of_ble_eq_true rfl) (Nat.le_of_ble_eq_true rfl) rfl
    · refine VV_sub [2, 3, 4, 1] rfl ?_
      exact bt_In_readIndex_26 hX v1 v2 r2 M10
set_option maxRecDepth 20000 in
theorem ct_In_readPart {l : Launch} (hl : l.stackTraces = false) (K : KT) (v1 : Int32) (v2 : Int32) (M : Mm) : CTp l K y_In_readPart (Cond.code y_In_readPart prog_6_method_11_code 3 (some .int)) rvI 4 0 0 [.ref (kA K 16), .int v1, .int v2] M (fn_In_readPart v1 v2 M) := by
  refine CTp_of (L := L_In_readPart) (lc := [(0, .ref (kA K 16)), (1, .int v1), (2, .int v2)]) (by decide +kernel) dec_In_readPart hl rfl (Nat.le_of_ble_eq_true rfl) (fun X hX => ?_)
  unfold fn_In_readPart
  refine V_iload_n hX (j := 1) (hj := rfl) 0 1 rfl rfl ?_
  refine VV_ite (fun e1_0 => ?_) (fun n1_0 => ?_)
  · refine V_lookup hX 1 36 rfl (by decide) (by rw [e1_0]) (by decide) ?_
    refine V_aload_n hX (j := 0) (hj := rfl) 2 37 rfl rfl ?_
    refine V_iload_n hX (j := 2) (hj := rfl) 3 38 rfl rfl ?_
    refine V_callI hX 41 0 0 rfl rfl rfl (Nat.le_of_ble_eq_true rfl) (Nat.le_of_ble_eq_true rfl) (VR_V hX 4 (ct_In_readDigit (cx_t hX) K v2 M) my_In_readDigit mi_In_readDigit ms_In_readDigit ml_In_79 (Nat.le_of_ble_eq_true rfl) (Nat.le_of_ble_eq_true rfl) (by decide) (ent_16 K _) rfl rfl rfl (Nat.le_of_ble_eq_true rfl) rfl (Nat.le_of_ble_eq_true rfl) (Nat.le_of_ble_eq_true rfl)) (fun r38 M38 => ?_)
    exact V_iret hX 5 rfl (Nat.le_of_ble_eq_true rfl) (Nat.le_of_ble_eq_true rfl) rfl
  refine VV_ite (fun e1_1 => ?_) (fun n1_1 => ?_)
  · refine V_lookup hX 1 42 rfl (by decide) (by rw [e1_1]) (by decide) ?_
    refine V_aload_n hX (j := 0) (hj := rfl) 6 43 rfl rfl ?_
    refine V_iload_n hX (j := 2) (hj := rfl) 7 44 rfl rfl ?_
    refine V_iconst hX (v := 1) (hv := by decide) 8 45 rfl rfl ?_
    refine V_callI hX 48 0 0 rfl rfl rfl (Nat.le_of_ble_eq_true rfl) (Nat.le_of_ble_eq_true rfl) (VR_V hX 9 (ct_In_readIndex (cx_t hX) K v2 1 M) my_In_readIndex mi_In_readIndex ms_In_readIndex ml_In_82 (Nat.le_of_ble_eq_true rfl) (Nat.le_of_ble_eq_true rfl) (by decide) (ent_16 K _) rfl rfl rfl (Nat.le_of_ble_eq_true rfl) rfl (Nat.le_of_ble_eq_true rfl) (Nat.le_of_ble_eq_true rfl)) (fun r45 M45 => ?_)
    exact V_iret hX 10 rfl (Nat.le_of_ble_eq_true rfl) (Nat.le_of_ble_eq_true rfl) rfl
  refine VV_ite (fun e1_2 => ?_) (fun n1_2 => ?_)
  · refine V_lookup hX 1 49 rfl (by decide) (by rw [e1_2]) (by decide) ?_
    refine V_aload_n hX (j := 0) (hj := rfl) 11 50 rfl rfl ?_
    refine V_iload_n hX (j := 2) (hj := rfl) 12 51 rfl rfl ?_
    refine V_callI hX 54 0 0 rfl rfl rfl (Nat.le_of_ble_eq_true rfl) (Nat.le_of_ble_eq_true rfl) (VR_V hX 13 (ct_In_signAt (cx_t hX) K v2 M) my_In_signAt mi_In_signAt ms_In_signAt ml_In_47 (Nat.le_of_ble_eq_true rfl) (Nat.le_of_ble_eq_true rfl) (by decide) (ent_16 K _) rfl rfl rfl (Nat.le_of_ble_eq_true rfl) rfl (Nat.le_of_ble_eq_true rfl) (Nat.le_of_ble_eq_true rfl)) (fun r51 M51 => ?_)
    refine V_bipush hX (v := 45) (hv := by decide) 14 56 rfl rfl ?_
    refine V_icmp_ne hX 15 59 70 rfl rfl (by decide) (fun c56 => ?_) (fun c56 => ?_)
    · refine V_aload_n hX (j := 0) (hj := rfl) 23 71 rfl rfl ?_
      refine V_iload_n hX (j := 2) (hj := rfl) 24 72 rfl rfl ?_
      refine V_iconst hX (v := 1) (hv := by decide) 25 73 rfl rfl ?_
      refine V_callI hX 76 0 0 rfl rfl rfl (Nat.le_of_ble_eq_true rfl) (Nat.le_of_ble_eq_true rfl) (VR_V hX 26 (ct_In_readIndex (cx_t hX) K v2 1 M51) my_In_readIndex mi_In_readIndex ms_In_readIndex ml_In_82 (Nat.le_of_ble_eq_true rfl) (Nat.le_of_ble_eq_true rfl) (by decide) (ent_16 K _) rfl rfl rfl (Nat.le_of_ble_eq_true rfl) rfl (Nat.le_of_ble_eq_true rfl) (Nat.le_of_ble_eq_true rfl)) (fun r73 M73 => ?_)
      exact V_iret hX 27 rfl (Nat.le_of_ble_eq_true rfl) (Nat.le_of_ble_eq_true rfl) rfl
    · refine V_aload_n hX (j := 0) (hj := rfl) 16 60 rfl rfl ?_
      refine V_iload_n hX (j := 2) (hj := rfl) 17 61 rfl rfl ?_
      refine V_iconst hX (v := 1) (hv := by decide) 18 62 rfl rfl ?_
      refine V_iadd hX 19 63 rfl rfl ?_
      refine V_iconst hX (v := (-1)) (hv := by decide) 20 64 rfl rfl ?_
      refine V_callI hX 67 0 0 rfl rfl rfl (Nat.le_of_ble_eq_true rfl) (Nat.le_of_ble_eq_true rfl) (VR_V hX 21 (ct_In_readIndex (cx_t hX) K (v2 + 1) (-1) M51) my_In_readIndex mi_In_readIndex ms_In_readIndex ml_In_82 (Nat.le_of_ble_eq_true rfl) (Nat.le_of_ble_eq_true rfl) (by decide) (ent_16 K _) rfl rfl rfl (Nat.le_of_ble_eq_true rfl) rfl (Nat.le_of_ble_eq_true rfl) (Nat.le_of_ble_eq_true rfl)) (fun r64 M64 => ?_)
      refine V_goto hX 22 76 rfl (by decide) ?_
      exact V_iret hX 27 rfl (Nat.le_of_ble_eq_true rfl) (Nat.le_of_ble_eq_true rfl) rfl
  refine V_lookup hX 1 77 rfl (by decide) (zz_lk3 (zz_ne (68) (by decide) n1_0) (zz_ne (73) (by decide) n1_1) (zz_ne (78) (by decide) n1_2)) (by decide) ?_
  refine V_aload_n hX (j := 0) (hj := rfl) 28 78 rfl rfl ?_
  refine V_iload_n hX (j := 2) (hj := rfl) 29 79 rfl rfl ?_
  refine V_callI hX 82 0 0 rfl rfl rfl (Nat.le_of_ble_eq_true rfl) (Nat.le_of_ble_eq_true rfl) (VR_V hX 30 (ct_In_signAt (cx_t hX) K v2 M) my_In_signAt mi_In_signAt ms_In_signAt ml_In_47 (Nat.le_of_ble_eq_true rfl) (Nat.le_of_ble_eq_true rfl) (by decide) (ent_16 K _) rfl rfl rfl (Nat.le_of_ble_eq_true rfl) rfl (Nat.le_of_ble_eq_true rfl) (Nat.le_of_ble_eq_true rfl)) (fun r79 M79 => ?_)
  refine V_iload_n hX (j := 1) (hj := rfl) 31 83 rfl rfl ?_
  refine V_icmp_ne hX 32 86 92 rfl rfl (by decide) (fun c83 => ?_) (fun c83 => ?_)
  · refine V_aload_n hX (j := 0) (hj := rfl) 37 93 rfl rfl ?_
    refine V_iload_n hX (j := 2) (hj := rfl) 38 94 rfl rfl ?_
    refine V_callI hX 97 0 0 rfl rfl rfl (Nat.le_of_ble_eq_true rfl) (Nat.le_of_ble_eq_true rfl) (VR_V hX 39 (ct_In_giveUp (cx_t hX) K v2 M79) my_In_giveUp mi_In_giveUp ms_In_giveUp ml_In_86 (Nat.le_of_ble_eq_true rfl) (Nat.le_of_ble_eq_true rfl) (by decide) (ent_16 K _) rfl rfl rfl (Nat.le_of_ble_eq_true rfl) rfl (Nat.le_of_ble_eq_true rfl) (Nat.le_of_ble_eq_true rfl)) (fun r94 M94 => ?_)
    exact V_iret hX 40 rfl (Nat.le_of_ble_eq_true rfl) (Nat.le_of_ble_eq_true rfl) rfl
  · refine V_iload_n hX (j := 2) (hj := rfl) 33 87 rfl rfl ?_
    refine V_iconst hX (v := 1) (hv := by decide) 34 88 rfl rfl ?_
    refine V_iadd hX 35 89 rfl rfl ?_
    refine V_goto hX 36 97 rfl (by decide) ?_
    exact V_iret hX 40 rfl (Nat.le_of_ble_eq_true rfl) (Nat.le_of_ble_eq_true rfl) rfl
set_option maxRecDepth 20000 in
theorem bt_In_readShape_10 {l : Launch} {K : KT} {X : XT} (hX : Cx l K 7 5 0 0 X prog_6_method_10_code "SeriesArchive$Input" (some .int) [] L_In_readShape) (v1 : Nat) (hv1 : v1 < 9) : ∀ (n : Nat) (v3 : Int32) (v4 : Int32) (M : Mm), VV l K 7 5 0 0 rvI X (fn_In_readShape_10 v1 n v3 v4 M) 0 0 M 10 [(0, .ref (kA K 16)), (1, .ref (kA K (1200 + v1))), (3, .int v3), (4, .int v4)] [] := by
  intro n
  induction n with
  | zero => intro v3 v4 M; exact VV_none
  | succ n ih =>
    intro v3 v4 M
    rw [fn_In_readShape_10]
    refine V_iload hX (j := 3) (hj := rfl) 7 12 rfl rfl ?_
    refine V_aload_n hX (j := 1) (hj := rfl) 8 13 rfl rfl ?_
    refine V_slen hX 9 16 hv1 sl_In_66 (Nat.le_of_ble_eq_true rfl) (Nat.le_of_ble_eq_true rfl) (Nat.le_of_ble_eq_true rfl) (Nat.le_of_ble_eq_true rfl) rfl rfl ?_
    refine V_icmp_ge hX 10 19 44 rfl rfl (by decide) (fun c16 => ?_) (fun c16 => ?_)
    · refine V_iload_n hX (j := 2) (hj := rfl) 25 45 rfl rfl ?_
      exact V_iret hX 26 rfl (Nat.le_of_ble_eq_true rfl) (Nat.le_of_ble_eq_true rfl) rfl
    · refine V_aload_n hX (j := 0) (hj := rfl) 11 20 rfl rfl ?_
      refine V_aload_n hX (j := 1) (hj := rfl) 12 21 rfl rfl ?_
      refine V_iload hX (j := 3) (hj := rfl) 13 23 rfl rfl ?_
      refine V_scha hX 14 26 hv1 sc_In_72 (Nat.le_of_ble_eq_true rfl) (Nat.le_of_ble_eq_true rfl) (Nat.le_of_ble_eq_true rfl) (Nat.le_of_ble_eq_true rfl) rfl rfl (fun g23 => ?_)
      refine V_iload_n hX (j := 2) (hj := rfl) 15 27 rfl rfl ?_
      refine V_callI hX 30 0 0 rfl rfl rfl (Nat.le_of_ble_eq_true rfl) (Nat.le_of_ble_eq_true rfl) (VR_V hX 16 (ct_In_readPart (cx_t hX) K (zz_sch v1 v4.toNatClampNeg) v3 M) my_In_readPart mi_In_readPart ms_In_readPart ml_In_75 (Nat.le_of_ble_eq_true rfl) (Nat.le_of_ble_eq_true rfl) (by decide) (ent_16 K _) rfl rfl rfl (Nat.le_of_ble_eq_true rfl) rfl (Nat.le_of_ble_eq_true rfl) (Nat.le_of_ble_eq_true rfl)) (fun r27 M27 => ?_)
      refine V_istore_n hX 17 31 [(3, .int r27), (0, .ref (kA K 16)), (1, .ref (kA K (1200 + v1))), (4, .int v4)] rfl rfl (Nat.le_of_ble_eq_true rfl) rfl ?_
      refine V_iload_n hX (j := 0) (hj := rfl) 18 32 rfl rfl ?_
      refine V_iconst hX (v := (-1)) (hv := by decide) 19 33 rfl rfl ?_
      refine V_icmp_ne hX 20 36 38 rfl rfl (by decide) (fun c33 => ?_) (fun c33 => ?_)
      · refine V_iincL hX 23 41 3 rfl rfl rfl rfl (Nat.le_of_ble_eq_true rfl) (fun x4_38 hx4_38 => ?_)
        refine VV_lc [(4, .int x4_38), (3, .int r27), (0, .ref (kA K 16)), (1, .ref (kA K (1200 + v1)))] rfl ?_
        refine V_goto hX 24 10 rfl (by decide) ?_
        refine VV_sub [2, 3, 1, 0] rfl ?_
        exact ih r27 x4_38 M27
      · refine V_iconst hX (v := (-1)) (hv := by decide) 21 37 rfl rfl ?_
        exact V_iret hX 22 rfl (Nat.le_of_ble_eq_true rfl) (Nat.le_of_ble_eq_true rfl) rfl
set_option maxRecDepth 20000 in
theorem ct_In_readShape {l : Launch} (hl : l.stackTraces = false) (K : KT) (v1 : Nat) (v2 : Int32) (M : Mm) : CTp l K y_In_readShape (Cond.code y_In_readShape prog_6_method_10_code 5 (some .int)) rvI 7 0 0 [.ref (kA K 16), .ref (kA K (1200 + v1)), .int v2] M (fn_In_readShape v1 v2 M) := by
  refine CTp_of (L := L_In_readShape) (lc := [(0, .ref (kA K 16)), (1, .ref (kA K (1200 + v1))), (2, .int v2)]) (by decide +kernel) dec_In_readShape hl rfl (Nat.le_of_ble_eq_true rfl) (fun X hX => ?_)
  unfold fn_In_readShape
  refine VV_grd (fun hv1 => ?_)
  refine V_aload_n hX (j := 0) (hj := rfl) 0 1 rfl rfl ?_
  refine V_iconst hX (v := 0) (hv := by decide) 1 2 rfl rfl ?_
  refine V_putI hX 2 5 16 fp_In_63 (by decide) rfl rfl (by decide) (ent_16 K _) (Nat.le_of_ble_eq_true rfl) (ent_16 K _) (fun M2 hM2 => ?_)
  refine V_iload_n hX (j := 2) (hj := rfl) 3 6 rfl rfl ?_
  refine V_istore_n hX 4 7 [(3, .int v2), (0, .ref (kA K 16)), (1, .ref (kA K (1200 + v1))), (2, .int v2)] rfl rfl (Nat.le_of_ble_eq_true rfl) rfl ?_
  refine V_iconst hX (v := 0) (hv := by decide) 5 8 rfl rfl ?_
  refine V_istore hX 6 10 [(4, .int 0), (3, .int v2), (0, .ref (kA K 16)), (1, .ref (kA K (1200 + v1))), (2, .int v2)] rfl rfl (Nat.le_of_ble_eq_true rfl) rfl ?_
  refine VV_sub [2, 3, 1, 0] rfl ?_
  exact bt_In_readShape_10 hX v1 hv1 fuel0 v2 0 M2
set_option maxRecDepth 20000 in
theorem bt_In_readCommand_45 {l : Launch} {K : KT} {X : XT} (hX : Cx l K 8 7 0 0 X prog_6_method_9_code "SeriesArchive$Input" (some .int) [] L_In_readCommand) (v5 : Nat) (v6 : Int32) (hv5 : v5 < 9) (M : Mm) : VV l K 8 7 0 0 rvI X (fn_In_readCommand_45 v5 v6 M) 0 0 M 45 [(0, .ref (kA K 16)), (5, .ref (kA K (1000 + v5))), (6, .int v6)] [] := by
  unfold fn_In_readCommand_45
  refine V_aload_n hX (j := 0) (hj := rfl) 26 46 rfl rfl ?_
  refine V_aload hX (j := 1) (hj := rfl) 27 48 rfl rfl ?_
  refine V_putK hX 28 51 fp_In_25 hv5 rfl rfl (fun M48 hM48 => ?_)
  refine V_iload hX (j := 2) (hj := rfl) 29 53 rfl rfl ?_
  exact V_iret hX 30 rfl (Nat.le_of_ble_eq_true rfl) (Nat.le_of_ble_eq_true rfl) rfl
set_option maxRecDepth 20000 in
theorem bt_In_readCommand_15 {l : Launch} {K : KT} {X : XT} (hX : Cx l K 8 7 0 0 X prog_6_method_9_code "SeriesArchive$Input" (some .int) [] L_In_readCommand) (v1 : Int32) (v3 : Int32) : ∀ (n : Nat) (v4 : Int32) (M : Mm), VV l K 8 7 0 0 rvI X (fn_In_readCommand_15 v1 v3 n v4 M) 0 0 M 15 [(0, .ref (kA K 16)), (1, .int v1), (2, .ref (kA K 1300)), (3, .int v3), (4, .int v4)] [] := by
  intro n
  induction n with
  | zero => intro v4 M; exact VV_none
  | succ n ih =>
    intro v4 M
    rw [fn_In_readCommand_15]
    refine V_iload hX (j := 4) (hj := rfl) 10 17 rfl rfl ?_
    refine V_iload_n hX (j := 3) (hj := rfl) 11 18 rfl rfl ?_
    refine V_icmp_ge hX 12 21 60 rfl rfl (by decide) (fun c18 => ?_) (fun c18 => ?_)
    · refine V_iconst hX (v := (-1)) (hv := by decide) 33 61 rfl rfl ?_
      exact V_iret hX 34 rfl (Nat.le_of_ble_eq_true rfl) (Nat.le_of_ble_eq_true rfl) rfl
    · refine V_aload_n hX (j := 2) (hj := rfl) 13 22 rfl rfl ?_
      refine V_iload hX (j := 4) (hj := rfl) 14 24 rfl rfl ?_
      refine V_aald hX 15 25 rfl rfl (fun g24 => ?_)
      refine V_astore hX 16 27 [(5, .ref (kA K (1000 + v4.toNatClampNeg))), (0, .ref (kA K 16)), (1, .int v1), (2, .ref (kA K 1300)), (3, .int v3), (4, .int v4)] rfl rfl (Nat.le_of_ble_eq_true rfl) rfl ?_
      refine V_aload_n hX (j := 1) (hj := rfl) 17 28 rfl rfl ?_
      refine V_aload hX (j := 0) (hj := rfl) 18 30 rfl rfl ?_
      refine V_shape hX 19 33 g24 nf_In_55 rfl rfl ?_
      refine V_iload_n hX (j := 2) (hj := rfl) 20 34 rfl rfl ?_
      refine V_callI hX 37 0 0 rfl rfl rfl (Nat.le_of_ble_eq_true rfl) (Nat.le_of_ble_eq_true rfl) (VR_V hX 21 (ct_In_readShape (cx_t hX) K v4.toNatClampNeg v1 M) my_In_readShape mi_In_readShape ms_In_readShape ml_In_59 (Nat.le_of_ble_eq_true rfl) (Nat.le_of_ble_eq_true rfl) (by decide) (ent_16 K _) rfl rfl rfl (Nat.le_of_ble_eq_true rfl) rfl (Nat.le_of_ble_eq_true rfl) (Nat.le_of_ble_eq_true rfl)) (fun r34 M34 => ?_)
      refine V_istore hX 22 39 [(6, .int r34), (5, .ref (kA K (1000 + v4.toNatClampNeg))), (0, .ref (kA K 16)), (1, .int v1), (2, .ref (kA K 1300)), (3, .int v3), (4, .int v4)] rfl rfl (Nat.le_of_ble_eq_true rfl) rfl ?_
      refine V_iload hX (j := 0) (hj := rfl) 23 41 rfl rfl ?_
      refine V_iconst hX (v := (-1)) (hv := by decide) 24 42 rfl rfl ?_
      refine V_icmp_eq hX 25 45 54 rfl rfl (by decide) (fun c42 => ?_) (fun c42 => ?_)
      · refine V_iincL hX 31 57 6 rfl rfl rfl rfl (Nat.le_of_ble_eq_true rfl) (fun x4_54 hx4_54 => ?_)
        refine VV_lc [(4, .int x4_54), (6, .int r34), (5, .ref (kA K (1000 + v4.toNatClampNeg))), (0, .ref (kA K 16)), (1, .int v1), (2, .ref (kA K 1300)), (3, .int v3)] rfl ?_
        refine V_goto hX 32 15 rfl (by decide) ?_
        refine VV_sub [3, 4, 5, 6, 0] rfl ?_
        exact ih x4_54 M34
      · refine VV_sub [2, 1, 0] rfl ?_
        exact bt_In_readCommand_45 hX v4.toNatClampNeg r34 g24 M34
set_option maxRecDepth 20000 in
theorem ct_In_readCommand {l : Launch} (hl : l.stackTraces = false) (K : KT) (v1 : Int32) (M : Mm) : CTp l K y_In_readCommand (Cond.code y_In_readCommand prog_6_method_9_code 7 (some .int)) rvI 8 0 0 [.ref (kA K 16), .int v1] M (fn_In_readCommand v1 M) := by
  refine CTp_of (L := L_In_readCommand) (lc := [(0, .ref (kA K 16)), (1, .int v1)]) (by decide +kernel) dec_In_readCommand hl rfl (Nat.le_of_ble_eq_true rfl) (fun X hX => ?_)
  unfold fn_In_readCommand
  refine V_aload_n hX (j := 0) (hj := rfl) 0 1 rfl rfl ?_
  refine V_iload_n hX (j := 1) (hj := rfl) 1 2 rfl rfl ?_
  refine V_putI hX 2 5 16 fp_In_40 (by decide) rfl rfl (by decide) (ent_16 K _) (Nat.le_of_ble_eq_true rfl) (ent_16 K _) (fun M2 hM2 => ?_)
  refine V_all hX 3 8 nf_In_51 rfl rfl ?_
  refine V_astore_n hX 4 9 [(2, .ref (kA K 1300)), (0, .ref (kA K 16)), (1, .int v1)] rfl rfl (Nat.le_of_ble_eq_true rfl) rfl ?_
  refine V_aload_n hX (j := 0) (hj := rfl) 5 10 rfl rfl ?_
  refine V_alllen hX 6 11 rfl rfl ?_
  refine V_istore_n hX 7 12 [(3, .int 9), (2, .ref (kA K 1300)), (0, .ref (kA K 16)), (1, .int v1)] rfl rfl (Nat.le_of_ble_eq_true rfl) rfl ?_
  refine V_iconst hX (v := 0) (hv := by decide) 8 13 rfl rfl ?_
  refine V_istore hX 9 15 [(4, .int 0), (3, .int 9), (2, .ref (kA K 1300)), (0, .ref (kA K 16)), (1, .int v1)] rfl rfl (Nat.le_of_ble_eq_true rfl) rfl ?_
  refine VV_sub [3, 4, 2, 1, 0] rfl ?_
  exact bt_In_readCommand_15 hX v1 9 fuel0 0 M2
set_option maxRecDepth 20000 in
theorem bt_In_countCommands_29 {l : Launch} {K : KT} {X : XT} (hX : Cx l K 9 4 0 0 X prog_6_method_8_code "SeriesArchive$Input" (some .int) [] L_In_countCommands) (v2 : Int32) (v3 : Int32) (M : Mm) : VV l K 9 4 0 0 rvI X (fn_In_countCommands_29 v2 v3 M) 0 0 M 29 [(2, .int v2), (3, .int v3)] [] := by
  unfold fn_In_countCommands_29
  refine V_iload_n hX (j := 1) (hj := rfl) 18 30 rfl rfl ?_
  refine V_iconst hX (v := (-1)) (hv := by decide) 19 31 rfl rfl ?_
  refine V_icmp_ne hX 20 34 38 rfl rfl (by decide) (fun c31 => ?_) (fun c31 => ?_)
  · refine V_iload_n hX (j := 0) (hj := rfl) 23 39 rfl rfl ?_
    exact V_iret hX 24 rfl (Nat.le_of_ble_eq_true rfl) (Nat.le_of_ble_eq_true rfl) rfl
  · refine V_iconst hX (v := (-1)) (hv := by decide) 21 35 rfl rfl ?_
    refine V_goto hX 22 39 rfl (by decide) ?_
    exact V_iret hX 24 rfl (Nat.le_of_ble_eq_true rfl) (Nat.le_of_ble_eq_true rfl) rfl
set_option maxRecDepth 20000 in
theorem bt_In_countCommands_50 {l : Launch} {K : KT} {X : XT} (hX : Cx l K 9 4 0 0 X prog_6_method_8_code "SeriesArchive$Input" (some .int) [] L_In_countCommands) (v3 : Int32) (M : Mm) : VV l K 9 4 0 0 rvI X (fn_In_countCommands_50 v3 M) 0 0 M 50 [(0, .ref (kA K 16)), (3, .int v3)] [] := by
  unfold fn_In_countCommands_50
  refine V_aload_n hX (j := 0) (hj := rfl) 30 51 rfl rfl ?_
  refine V_iload_n hX (j := 1) (hj := rfl) 31 52 rfl rfl ?_
  refine V_putI hX 32 55 16 fp_In_40 (by decide) rfl rfl (by decide) (ent_16 K _) (Nat.le_of_ble_eq_true rfl) (ent_16 K _) (fun M52 hM52 => ?_)
  refine V_iconst hX (v := (-1)) (hv := by decide) 33 56 rfl rfl ?_
  exact V_iret hX 34 rfl (Nat.le_of_ble_eq_true rfl) (Nat.le_of_ble_eq_true rfl) rfl
set_option maxRecDepth 20000 in
theorem bt_In_countCommands_4 {l : Launch} {K : KT} {X : XT} (hX : Cx l K 9 4 0 0 X prog_6_method_8_code "SeriesArchive$Input" (some .int) [] L_In_countCommands) : ∀ (n : Nat) (v1 : Int32) (v2 : Int32) (M : Mm), VV l K 9 4 0 0 rvI X (fn_In_countCommands_4 n v1 v2 M) 0 0 M 4 [(0, .ref (kA K 16)), (1, .int v1), (2, .int v2)] [] := by
  intro n
  induction n with
  | zero => intro v1 v2 M; exact VV_none
  | succ n ih =>
    intro v1 v2 M
    rw [fn_In_countCommands_4]
    refine V_iload_n hX (j := 2) (hj := rfl) 4 5 rfl rfl ?_
    refine V_bipush hX (v := 60) (hv := by decide) 5 7 rfl rfl ?_
    refine V_icmp_gt hX 6 10 67 rfl rfl (by decide) (fun c7 => ?_) (fun c7 => ?_)
    · refine V_iconst hX (v := (-1)) (hv := by decide) 41 68 rfl rfl ?_
      exact V_iret hX 42 rfl (Nat.le_of_ble_eq_true rfl) (Nat.le_of_ble_eq_true rfl) rfl
    · refine V_aload_n hX (j := 0) (hj := rfl) 7 11 rfl rfl ?_
      refine V_iload_n hX (j := 1) (hj := rfl) 8 12 rfl rfl ?_
      refine V_callI hX 15 0 0 rfl rfl rfl (Nat.le_of_ble_eq_true rfl) (Nat.le_of_ble_eq_true rfl) (VR_V hX 9 (ct_In_readCommand (cx_t hX) K v1 M) my_In_readCommand mi_In_readCommand ms_In_readCommand ml_In_43 (Nat.le_of_ble_eq_true rfl) (Nat.le_of_ble_eq_true rfl) (by decide) (ent_16 K _) rfl rfl rfl (Nat.le_of_ble_eq_true rfl) rfl (Nat.le_of_ble_eq_true rfl) (Nat.le_of_ble_eq_true rfl)) (fun r12 M12 => ?_)
      refine V_istore_n hX 10 16 [(3, .int r12), (0, .ref (kA K 16)), (1, .int v1), (2, .int v2)] rfl rfl (Nat.le_of_ble_eq_true rfl) rfl ?_
      refine V_iload_n hX (j := 0) (hj := rfl) 11 17 rfl rfl ?_
      refine V_iconst hX (v := (-1)) (hv := by decide) 12 18 rfl rfl ?_
      refine V_icmp_eq hX 13 21 29 rfl rfl (by decide) (fun c18 => ?_) (fun c18 => ?_)
      · refine VV_sub [3, 0] rfl ?_
        exact bt_In_countCommands_29 hX v2 r12 M12
      · refine V_iload_n hX (j := 0) (hj := rfl) 14 22 rfl rfl ?_
        refine V_aload_n hX (j := 1) (hj := rfl) 15 23 rfl rfl ?_
        refine V_get hX 16 26 16 (.int (M12 16 1)) fl_In_28 rfl rfl (by decide) (ent_16 K _) rfl ?_
        refine V_icmp_lt hX 17 29 40 rfl rfl (by decide) (fun c26 => ?_) (fun c26 => ?_)
        · refine V_aload_n hX (j := 1) (hj := rfl) 25 41 rfl rfl ?_
          refine V_iload_n hX (j := 0) (hj := rfl) 26 42 rfl rfl ?_
          refine V_callI hX 45 0 0 rfl rfl rfl (Nat.le_of_ble_eq_true rfl) (Nat.le_of_ble_eq_true rfl) (VR_V hX 27 (ct_In_signAt (cx_t hX) K r12 M12) my_In_signAt mi_In_signAt ms_In_signAt ml_In_47 (Nat.le_of_ble_eq_true rfl) (Nat.le_of_ble_eq_true rfl) (by decide) (ent_16 K _) rfl rfl rfl (Nat.le_of_ble_eq_true rfl) rfl (Nat.le_of_ble_eq_true rfl) (Nat.le_of_ble_eq_true rfl)) (fun r42 M42 => ?_)
          refine V_bipush hX (v := 59) (hv := by decide) 28 47 rfl rfl ?_
          refine V_icmp_eq hX 29 50 57 rfl rfl (by decide) (fun c47 => ?_) (fun c47 => ?_)
          · refine V_iload_n hX (j := 0) (hj := rfl) 35 58 rfl rfl ?_
            refine V_iconst hX (v := 1) (hv := by decide) 36 59 rfl rfl ?_
            refine V_iadd hX 37 60 rfl rfl ?_
            refine VV_li (fun x1_60 hx1_60 => ?_)
            refine V_istore_n hX 38 61 [(1, .int x1_60), (3, .int r12), (0, .ref (kA K 16)), (2, .int v2)] rfl rfl (Nat.le_of_ble_eq_true rfl) rfl ?_
            refine V_iincL hX 39 64 3 rfl rfl rfl rfl (Nat.le_of_ble_eq_true rfl) (fun x2_61 hx2_61 => ?_)
            refine VV_lc [(2, .int x2_61), (1, .int x1_60), (3, .int r12), (0, .ref (kA K 16))] rfl ?_
            refine V_goto hX 40 4 rfl (by decide) ?_
            refine VV_sub [3, 1, 0] rfl ?_
            exact ih x1_60 x2_61 M42
          · refine VV_sub [1, 0] rfl ?_
            exact bt_In_countCommands_50 hX r12 M42
        · refine VV_sub [3, 0] rfl ?_
          exact bt_In_countCommands_29 hX v2 r12 M12
set_option maxRecDepth 20000 in
theorem ct_In_countCommands {l : Launch} (hl : l.stackTraces = false) (K : KT) (M : Mm) : CTp l K y_In_countCommands (Cond.code y_In_countCommands prog_6_method_8_code 4 (some .int)) rvI 9 0 0 [.ref (kA K 16)] M (fn_In_countCommands M) := by
  refine CTp_of (L := L_In_countCommands) (lc := [(0, .ref (kA K 16))]) (by decide +kernel) dec_In_countCommands hl rfl (Nat.le_of_ble_eq_true rfl) (fun X hX => ?_)
  unfold fn_In_countCommands
  refine V_iconst hX (v := 0) (hv := by decide) 0 1 rfl rfl ?_
  refine V_istore_n hX 1 2 [(1, .int 0), (0, .ref (kA K 16))] rfl rfl (Nat.le_of_ble_eq_true rfl) rfl ?_
  refine V_iconst hX (v := 1) (hv := by decide) 2 3 rfl rfl ?_
  refine V_istore_n hX 3 4 [(2, .int 1), (1, .int 0), (0, .ref (kA K 16))] rfl rfl (Nat.le_of_ble_eq_true rfl) rfl ?_
  refine VV_sub [2, 1, 0] rfl ?_
  exact bt_In_countCommands_4 hX fuel0 0 1 M
set_option maxRecDepth 20000 in
theorem bt_Pa_goOn_47 {l : Launch} {K : KT} {X : XT} (hX : Cx l K 2 6 0 0 X prog_8_method_4_code "SeriesArchive$Patterns" (some .int) [] L_Pa_goOn) (v1 : Nat) (v3 : Int32) (v4 : Int32) (hv1 : isSer v1) (M : Mm) : VV l K 2 6 0 0 rvI X (fn_Pa_goOn_47 v1 v3 v4 M) 0 0 M 47 [(1, .ref (kA K v1)), (3, .int v3), (4, .int v4)] [] := by
  unfold fn_Pa_goOn_47
  refine V_aload_n hX (j := 0) (hj := rfl) 23 48 rfl rfl ?_
  refine V_iload hX (j := 2) (hj := rfl) 24 50 rfl rfl ?_
  refine V_callI hX 53 0 0 rfl rfl rfl (Nat.le_of_ble_eq_true rfl) (Nat.le_of_ble_eq_true rfl) (VR_V hX 25 (ct_Se_at (cx_t hX) K v1 v4 M) my_Se_at mi_Se_at ms_Se_at ml_Pa_33 (Nat.le_of_ble_eq_true rfl) (Nat.le_of_ble_eq_true rfl) (loc_ser hv1) (ent_ser K _ hv1) rfl rfl rfl (Nat.le_of_ble_eq_true rfl) rfl (Nat.le_of_ble_eq_true rfl) (Nat.le_of_ble_eq_true rfl)) (fun r50 M50 => ?_)
  refine V_iload_n hX (j := 1) (hj := rfl) 26 54 rfl rfl ?_
  refine V_icmp_ne hX 27 57 64 rfl rfl (by decide) (fun c54 => ?_) (fun c54 => ?_)
  · refine V_iload hX (j := 2) (hj := rfl) 32 66 rfl rfl ?_
    exact V_iret hX 33 rfl (Nat.le_of_ble_eq_true rfl) (Nat.le_of_ble_eq_true rfl) rfl
  · refine V_iload hX (j := 2) (hj := rfl) 28 59 rfl rfl ?_
    refine V_iconst hX (v := 1) (hv := by decide) 29 60 rfl rfl ?_
    refine V_iadd hX 30 61 rfl rfl ?_
    refine V_goto hX 31 66 rfl (by decide) ?_
    exact V_iret hX 33 rfl (Nat.le_of_ble_eq_true rfl) (Nat.le_of_ble_eq_true rfl) rfl
set_option maxRecDepth 20000 in
theorem bt_Pa_goOn_6 {l : Launch} {K : KT} {X : XT} (hX : Cx l K 2 6 0 0 X prog_8_method_4_code "SeriesArchive$Patterns" (some .int) [] L_Pa_goOn) (v1 : Nat) (v3 : Int32) (hv1 : isSer v1) : ∀ (n : Nat) (v4 : Int32) (v5 : Int32) (M : Mm), VV l K 2 6 0 0 rvI X (fn_Pa_goOn_6 v1 v3 n v4 v5 M) 0 0 M 6 [(0, .ref (kA K 26)), (1, .ref (kA K v1)), (3, .int v3), (4, .int v4), (5, .int v5)] [] := by
  intro n
  induction n with
  | zero => intro v4 v5 M; exact VV_none
  | succ n ih =>
    intro v4 v5 M
    rw [fn_Pa_goOn_6]
    refine V_iload hX (j := 4) (hj := rfl) 4 8 rfl rfl ?_
    refine V_bipush hX (v := 20) (hv := by decide) 5 10 rfl rfl ?_
    refine V_icmp_ge hX 6 13 47 rfl rfl (by decide) (fun c10 => ?_) (fun c10 => ?_)
    · refine VV_sub [1, 2, 3] rfl ?_
      exact bt_Pa_goOn_47 hX v1 v3 v4 hv1 M
    · refine V_iload hX (j := 3) (hj := rfl) 7 15 rfl rfl ?_
      refine V_if_le hX 8 18 47 rfl rfl (by decide) (fun c15 => ?_) (fun c15 => ?_)
      · refine VV_sub [1, 2, 3] rfl ?_
        exact bt_Pa_goOn_47 hX v1 v3 v4 hv1 M
      · refine V_aload_n hX (j := 1) (hj := rfl) 9 19 rfl rfl ?_
        refine V_iload hX (j := 3) (hj := rfl) 10 21 rfl rfl ?_
        refine V_callI hX 24 0 0 rfl rfl rfl (Nat.le_of_ble_eq_true rfl) (Nat.le_of_ble_eq_true rfl) (VR_V hX 11 (ct_Se_at (cx_t hX) K v1 v4 M) my_Se_at mi_Se_at ms_Se_at ml_Pa_33 (Nat.le_of_ble_eq_true rfl) (Nat.le_of_ble_eq_true rfl) (loc_ser hv1) (ent_ser K _ hv1) rfl rfl rfl (Nat.le_of_ble_eq_true rfl) rfl (Nat.le_of_ble_eq_true rfl) (Nat.le_of_ble_eq_true rfl)) (fun r21 M21 => ?_)
        refine V_iload_n hX (j := 2) (hj := rfl) 12 25 rfl rfl ?_
        refine V_icmp_eq hX 13 28 47 rfl rfl (by decide) (fun c25 => ?_) (fun c25 => ?_)
        · refine VV_sub [1, 2, 3] rfl ?_
          exact bt_Pa_goOn_47 hX v1 v3 v4 hv1 M21
        · refine V_aload_n hX (j := 0) (hj := rfl) 14 29 rfl rfl ?_
          refine V_get hX 15 32 26 (.ref (kA K 27)) fl_Pa_9 rfl rfl (by decide) (ent_26 K _) rfl ?_
          refine V_iload hX (j := 3) (hj := rfl) 16 34 rfl rfl ?_
          refine V_iconst hX (v := 1) (hv := by decide) 17 35 rfl rfl ?_
          refine V_isub hX 18 36 rfl rfl ?_
          refine V_callI hX 39 0 0 rfl rfl rfl (Nat.le_of_ble_eq_true rfl) (Nat.le_of_ble_eq_true rfl) (VR_SN hX 19 (ct_SA_read (cx_t hX) K 27 (v4 - 1) M21) my_SA_read mt_SA_read mn_Pa_25 (Nat.le_of_ble_eq_true rfl) (Nat.le_of_ble_eq_true rfl) rfl rfl (Nat.le_of_ble_eq_true rfl) rfl (Nat.le_of_ble_eq_true rfl) (Nat.le_of_ble_eq_true rfl)) (fun r36 M36 => ?_)
          refine V_istore hX 20 41 [(4, .int r36), (0, .ref (kA K 26)), (1, .ref (kA K v1)), (3, .int v3), (5, .int v5)] rfl rfl (Nat.le_of_ble_eq_true rfl) rfl ?_
          refine V_iincL hX 21 44 4 rfl rfl rfl rfl (Nat.le_of_ble_eq_true rfl) (fun x5_41 hx5_41 => ?_)
          refine VV_lc [(5, .int x5_41), (4, .int r36), (0, .ref (kA K 26)), (1, .ref (kA K v1)), (3, .int v3)] rfl ?_
          refine V_goto hX 22 6 rfl (by decide) ?_
          refine VV_sub [2, 3, 4, 1, 0] rfl ?_
          exact ih r36 x5_41 M36
set_option maxRecDepth 20000 in
theorem ct_Pa_goOn {l : Launch} (hl : l.stackTraces = false) (K : KT) (v1 : Nat) (v2 : Int32) (v3 : Int32) (M : Mm) : CTp l K y_Pa_goOn (Cond.code y_Pa_goOn prog_8_method_4_code 6 (some .int)) rvI 2 0 0 [.ref (kA K 26), .ref (kA K v1), .int v2, .int v3] M (fn_Pa_goOn v1 v2 v3 M) := by
  refine CTp_of (L := L_Pa_goOn) (lc := [(0, .ref (kA K 26)), (1, .ref (kA K v1)), (2, .int v2), (3, .int v3)]) (by decide +kernel) dec_Pa_goOn hl rfl (Nat.le_of_ble_eq_true rfl) (fun X hX => ?_)
  unfold fn_Pa_goOn
  refine VV_grd (fun hv1 => ?_)
  refine V_iload_n hX (j := 2) (hj := rfl) 0 1 rfl rfl ?_
  refine V_istore hX 1 3 [(4, .int v2), (0, .ref (kA K 26)), (1, .ref (kA K v1)), (2, .int v2), (3, .int v3)] rfl rfl (Nat.le_of_ble_eq_true rfl) rfl ?_
  refine V_iconst hX (v := 0) (hv := by decide) 2 4 rfl rfl ?_
  refine V_istore hX 3 6 [(5, .int 0), (4, .int v2), (0, .ref (kA K 26)), (1, .ref (kA K v1)), (2, .int v2), (3, .int v3)] rfl rfl (Nat.le_of_ble_eq_true rfl) rfl ?_
  refine VV_sub [2, 3, 5, 1, 0] rfl ?_
  exact bt_Pa_goOn_6 hX v1 v3 hv1 fuel0 v2 0 M
set_option maxRecDepth 20000 in
theorem bt_Pa_findBorders_13 {l : Launch} {K : KT} {X : XT} (hX : Cx l K 3 4 0 0 X prog_8_method_3_code "SeriesArchive$Patterns" none [] L_Pa_findBorders) (v1 : Nat) (hv1 : isSer v1) : ∀ (n : Nat) (v2 : Int32) (v3 : Int32) (M : Mm), VV l K 3 4 0 0 rvU X (fn_Pa_findBorders_13 v1 n v2 v3 M) 0 0 M 13 [(0, .ref (kA K 26)), (1, .ref (kA K v1)), (2, .int v2), (3, .int v3)] [] := by
  intro n
  induction n with
  | zero => intro v2 v3 M; exact VV_none
  | succ n ih =>
    intro v2 v3 M
    rw [fn_Pa_findBorders_13]
    refine V_iload_n hX (j := 3) (hj := rfl) 9 14 rfl rfl ?_
    refine V_aload_n hX (j := 1) (hj := rfl) 10 15 rfl rfl ?_
    refine V_callI hX 18 0 0 rfl rfl rfl (Nat.le_of_ble_eq_true rfl) (Nat.le_of_ble_eq_true rfl) (VR_V hX 11 (ct_Se_size (cx_t hX) K v1 M) my_Se_size mi_Se_size ms_Se_size ml_Pa_19 (Nat.le_of_ble_eq_true rfl) (Nat.le_of_ble_eq_true rfl) (loc_ser hv1) (ent_ser K _ hv1) rfl rfl rfl (Nat.le_of_ble_eq_true rfl) rfl (Nat.le_of_ble_eq_true rfl) (Nat.le_of_ble_eq_true rfl)) (fun r15 M15 => ?_)
    refine V_icmp_ge hX 12 21 48 rfl rfl (by decide) (fun c18 => ?_) (fun c18 => ?_)
    · exact V_vret hX 28 rfl (Nat.le_of_ble_eq_true rfl) (Nat.le_of_ble_eq_true rfl) rfl
    · refine V_aload_n hX (j := 0) (hj := rfl) 13 22 rfl rfl ?_
      refine V_aload_n hX (j := 1) (hj := rfl) 14 23 rfl rfl ?_
      refine V_iload_n hX (j := 2) (hj := rfl) 15 24 rfl rfl ?_
      refine V_aload_n hX (j := 1) (hj := rfl) 16 25 rfl rfl ?_
      refine V_iload_n hX (j := 3) (hj := rfl) 17 26 rfl rfl ?_
      refine V_callI hX 29 0 0 rfl rfl rfl (Nat.le_of_ble_eq_true rfl) (Nat.le_of_ble_eq_true rfl) (VR_V hX 18 (ct_Se_at (cx_t hX) K v1 v3 M15) my_Se_at mi_Se_at ms_Se_at ml_Pa_33 (Nat.le_of_ble_eq_true rfl) (Nat.le_of_ble_eq_true rfl) (loc_ser hv1) (ent_ser K _ hv1) rfl rfl rfl (Nat.le_of_ble_eq_true rfl) rfl (Nat.le_of_ble_eq_true rfl) (Nat.le_of_ble_eq_true rfl)) (fun r26 M26 => ?_)
      refine V_callI hX 32 0 0 rfl rfl rfl (Nat.le_of_ble_eq_true rfl) (Nat.le_of_ble_eq_true rfl) (VR_V hX 19 (ct_Pa_goOn (cx_t hX) K v1 v2 r26 M26) my_Pa_goOn mi_Pa_goOn ms_Pa_goOn ml_Pa_37 (Nat.le_of_ble_eq_true rfl) (Nat.le_of_ble_eq_true rfl) (by decide) (ent_26 K _) rfl rfl rfl (Nat.le_of_ble_eq_true rfl) rfl (Nat.le_of_ble_eq_true rfl) (Nat.le_of_ble_eq_true rfl)) (fun r29 M29 => ?_)
      refine V_istore_n hX 20 33 [(2, .int r29), (0, .ref (kA K 26)), (1, .ref (kA K v1)), (3, .int v3)] rfl rfl (Nat.le_of_ble_eq_true rfl) rfl ?_
      refine V_aload_n hX (j := 1) (hj := rfl) 21 34 rfl rfl ?_
      refine V_get hX 22 37 26 (.ref (kA K 27)) fl_Pa_9 rfl rfl (by decide) (ent_26 K _) rfl ?_
      refine V_iload_n hX (j := 3) (hj := rfl) 23 38 rfl rfl ?_
      refine V_iload_n hX (j := 0) (hj := rfl) 24 39 rfl rfl ?_
      refine V_callU hX 42 0 0 rfl rfl rfl (Nat.le_of_ble_eq_true rfl) (Nat.le_of_ble_eq_true rfl) (VR_SN hX 25 (ct_SA_write (cx_t hX) K 27 v3 r29 M29) my_SA_write mt_SA_write mn_Pa_29 (Nat.le_of_ble_eq_true rfl) (Nat.le_of_ble_eq_true rfl) rfl rfl (Nat.le_of_ble_eq_true rfl) rfl (Nat.le_of_ble_eq_true rfl) (Nat.le_of_ble_eq_true rfl)) (fun r39 M39 => ?_)
      refine V_iincL hX 26 45 3 rfl rfl rfl rfl (Nat.le_of_ble_eq_true rfl) (fun x3_42 hx3_42 => ?_)
      refine VV_lc [(3, .int x3_42), (2, .int r29), (0, .ref (kA K 26)), (1, .ref (kA K v1))] rfl ?_
      refine V_goto hX 27 13 rfl (by decide) ?_
      refine VV_sub [2, 3, 1, 0] rfl ?_
      exact ih r29 x3_42 M39
set_option maxRecDepth 20000 in
theorem ct_Pa_findBorders {l : Launch} (hl : l.stackTraces = false) (K : KT) (v1 : Nat) (M : Mm) : CTp l K y_Pa_findBorders (Cond.code y_Pa_findBorders prog_8_method_3_code 4 none) rvU 3 0 0 [.ref (kA K 26), .ref (kA K v1)] M (fn_Pa_findBorders v1 M) := by
  refine CTp_of (L := L_Pa_findBorders) (lc := [(0, .ref (kA K 26)), (1, .ref (kA K v1))]) (by decide +kernel) dec_Pa_findBorders hl rfl (Nat.le_of_ble_eq_true rfl) (fun X hX => ?_)
  unfold fn_Pa_findBorders
  refine VV_grd (fun hv1 => ?_)
  refine V_iconst hX (v := 0) (hv := by decide) 0 1 rfl rfl ?_
  refine V_istore_n hX 1 2 [(2, .int 0), (0, .ref (kA K 26)), (1, .ref (kA K v1))] rfl rfl (Nat.le_of_ble_eq_true rfl) rfl ?_
  refine V_aload_n hX (j := 1) (hj := rfl) 2 3 rfl rfl ?_
  refine V_get hX 3 6 26 (.ref (kA K 27)) fl_Pa_9 rfl rfl (by decide) (ent_26 K _) rfl ?_
  refine V_iconst hX (v := 0) (hv := by decide) 4 7 rfl rfl ?_
  refine V_iconst hX (v := 0) (hv := by decide) 5 8 rfl rfl ?_
  refine V_callU hX 11 0 0 rfl rfl rfl (Nat.le_of_ble_eq_true rfl) (Nat.le_of_ble_eq_true rfl) (VR_SN hX 6 (ct_SA_write (cx_t hX) K 27 0 0 M) my_SA_write mt_SA_write mn_Pa_29 (Nat.le_of_ble_eq_true rfl) (Nat.le_of_ble_eq_true rfl) rfl rfl (Nat.le_of_ble_eq_true rfl) rfl (Nat.le_of_ble_eq_true rfl) (Nat.le_of_ble_eq_true rfl)) (fun r8 M8 => ?_)
  refine V_iconst hX (v := 1) (hv := by decide) 7 12 rfl rfl ?_
  refine V_istore_n hX 8 13 [(3, .int 1), (2, .int 0), (0, .ref (kA K 26)), (1, .ref (kA K v1))] rfl rfl (Nat.le_of_ble_eq_true rfl) rfl ?_
  refine VV_sub [2, 3, 1, 0] rfl ?_
  exact bt_Pa_findBorders_13 hX v1 hv1 fuel0 0 1 M8
set_option maxRecDepth 20000 in
theorem ct_Pa_period {l : Launch} (hl : l.stackTraces = false) (K : KT) (v1 : Nat) (M : Mm) : CTp l K y_Pa_period (Cond.code y_Pa_period prog_8_method_2_code 2 (some .int)) rvI 4 0 0 [.ref (kA K 26), .ref (kA K v1)] M (fn_Pa_period v1 M) := by
  refine CTp_of (L := L_Pa_period) (lc := [(0, .ref (kA K 26)), (1, .ref (kA K v1))]) (by decide +kernel) dec_Pa_period hl rfl (Nat.le_of_ble_eq_true rfl) (fun X hX => ?_)
  unfold fn_Pa_period
  refine VV_grd (fun hv1 => ?_)
  refine V_aload_n hX (j := 0) (hj := rfl) 0 1 rfl rfl ?_
  refine V_aload_n hX (j := 1) (hj := rfl) 1 2 rfl rfl ?_
  refine V_callU hX 5 0 0 rfl rfl rfl (Nat.le_of_ble_eq_true rfl) (Nat.le_of_ble_eq_true rfl) (VR_V hX 2 (ct_Pa_findBorders (cx_t hX) K v1 M) my_Pa_findBorders mi_Pa_findBorders ms_Pa_findBorders ml_Pa_15 (Nat.le_of_ble_eq_true rfl) (Nat.le_of_ble_eq_true rfl) (by decide) (ent_26 K _) rfl rfl rfl (Nat.le_of_ble_eq_true rfl) rfl (Nat.le_of_ble_eq_true rfl) (Nat.le_of_ble_eq_true rfl)) (fun r2 M2 => ?_)
  refine V_aload_n hX (j := 1) (hj := rfl) 3 6 rfl rfl ?_
  refine V_callI hX 9 0 0 rfl rfl rfl (Nat.le_of_ble_eq_true rfl) (Nat.le_of_ble_eq_true rfl) (VR_V hX 4 (ct_Se_size (cx_t hX) K v1 M2) my_Se_size mi_Se_size ms_Se_size ml_Pa_19 (Nat.le_of_ble_eq_true rfl) (Nat.le_of_ble_eq_true rfl) (loc_ser hv1) (ent_ser K _ hv1) rfl rfl rfl (Nat.le_of_ble_eq_true rfl) rfl (Nat.le_of_ble_eq_true rfl) (Nat.le_of_ble_eq_true rfl)) (fun r6 M6 => ?_)
  refine V_aload_n hX (j := 0) (hj := rfl) 5 10 rfl rfl ?_
  refine V_get hX 6 13 26 (.ref (kA K 27)) fl_Pa_9 rfl rfl (by decide) (ent_26 K _) rfl ?_
  refine V_aload_n hX (j := 1) (hj := rfl) 7 14 rfl rfl ?_
  refine V_callI hX 17 0 0 rfl rfl rfl (Nat.le_of_ble_eq_true rfl) (Nat.le_of_ble_eq_true rfl) (VR_V hX 8 (ct_Se_size (cx_t hX) K v1 M6) my_Se_size mi_Se_size ms_Se_size ml_Pa_19 (Nat.le_of_ble_eq_true rfl) (Nat.le_of_ble_eq_true rfl) (loc_ser hv1) (ent_ser K _ hv1) rfl rfl rfl (Nat.le_of_ble_eq_true rfl) rfl (Nat.le_of_ble_eq_true rfl) (Nat.le_of_ble_eq_true rfl)) (fun r14 M14 => ?_)
  refine V_iconst hX (v := 1) (hv := by decide) 9 18 rfl rfl ?_
  refine V_isub hX 10 19 rfl rfl ?_
  refine V_callI hX 22 0 0 rfl rfl rfl (Nat.le_of_ble_eq_true rfl) (Nat.le_of_ble_eq_true rfl) (VR_SN hX 11 (ct_SA_read (cx_t hX) K 27 (r14 - 1) M14) my_SA_read mt_SA_read mn_Pa_25 (Nat.le_of_ble_eq_true rfl) (Nat.le_of_ble_eq_true rfl) rfl rfl (Nat.le_of_ble_eq_true rfl) rfl (Nat.le_of_ble_eq_true rfl) (Nat.le_of_ble_eq_true rfl)) (fun r19 M19 => ?_)
  refine V_isub hX 12 23 rfl rfl ?_
  exact V_iret hX 13 rfl (Nat.le_of_ble_eq_true rfl) (Nat.le_of_ble_eq_true rfl) rfl
