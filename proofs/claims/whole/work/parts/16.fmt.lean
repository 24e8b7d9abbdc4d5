set_option maxRecDepth 20000 in
theorem bt_SA_formatSeries_39 {l : Launch} {K : KT} {X : XT} (hX : Cx l K 16 4 43 5970 X prog_1_method_51_code "SeriesArchive" (some .int) [] L_SA_formatSeries) (M : Mm) : VV l K 16 4 43 5970 rvI X (fn_SA_formatSeries_39 M) 43 5970 M 39 [(0, .ref (kA K 0))] [] := by
  unfold fn_SA_formatSeries_39
  refine V_aload_n hX (j := 0) (hj := rfl) 21 40 rfl rfl ?_
  refine V_get hX 22 43 0 (.ref (kA K 19)) fl_SA_47 rfl rfl (by decide) (ent_0 K _) rfl ?_
  refine V_callI hX 46 43 5970 rfl rfl rfl (Nat.le_of_ble_eq_true rfl) (Nat.le_of_ble_eq_true rfl) (VR_B hX 23 (ct_SB_length (cx_t hX) K M) my_SB_length mi_SB_length ms_SB_length ml_SA_305 (Nat.le_of_ble_eq_true rfl) (Nat.le_of_ble_eq_true rfl) rfl rfl (Nat.le_of_ble_eq_true rfl) rfl (Nat.le_of_ble_eq_true rfl) (Nat.le_of_ble_eq_true rfl)) (fun r43 M43 => ?_)
  exact V_iret hX 24 rfl (Nat.le_of_ble_eq_true rfl) (Nat.le_of_ble_eq_true rfl) rfl
set_option maxRecDepth 20000 in
theorem bt_SA_formatSeries_16 {l : Launch} {K : KT} {X : XT} (hX : Cx l K 16 4 43 5970 X prog_1_method_51_code "SeriesArchive" (some .int) [] L_SA_formatSeries) (v2 : Nat) (hv2 : isSer v2) : ∀ (n : Nat) (c9 s9 : Nat) (hc9 : c9 + n * 2 ≤ 43) (hs9 : s9 + n * 284 ≤ 5970) (v3 : Int32) (M : Mm), VV l K 16 4 43 5970 rvI X (fn_SA_formatSeries_16 v2 n v3 M) c9 s9 M 16 [(0, .ref (kA K 0)), (2, .ref (kA K v2)), (3, .int v3)] [] := by
  intro n
  induction n with
  | zero => intro c9 s9 hc9 hs9 v3 M; exact VV_none
  | succ n ih =>
    intro c9 s9 hc9 hs9 v3 M
    rw [fn_SA_formatSeries_16]
    refine V_iload_n hX (j := 2) (hj := rfl) 10 17 rfl rfl ?_
    refine V_aload_n hX (j := 1) (hj := rfl) 11 18 rfl rfl ?_
    refine V_callI hX 21 (c9 + 0) (s9 + 0) rfl rfl rfl (by omega) (by omega) (VR_V hX 12 (ct_Se_size (cx_t hX) K v2 M) my_Se_size mi_Se_size ms_Se_size ml_SA_117 (Nat.le_of_ble_eq_true rfl) (Nat.le_of_ble_eq_true rfl) (loc_ser hv2) (ent_ser K _ hv2) rfl rfl rfl (Nat.le_of_ble_eq_true rfl) rfl (by omega) (by omega)) (fun r18 M18 => ?_)
    refine V_icmp_ge hX 13 24 39 rfl rfl (by decide) (fun c21 => ?_) (fun c21 => ?_)
    · refine VV_sub [0] rfl ?_
      refine VV_wd 43 5970 (by omega) (by omega) ?_
      exact bt_SA_formatSeries_39 hX M18
    · refine V_aload_n hX (j := 0) (hj := rfl) 14 25 rfl rfl ?_
      refine V_aload_n hX (j := 1) (hj := rfl) 15 26 rfl rfl ?_
      refine V_iload_n hX (j := 2) (hj := rfl) 16 27 rfl rfl ?_
      refine V_callI hX 30 (c9 + 0) (s9 + 0) rfl rfl rfl (by omega) (by omega) (VR_V hX 17 (ct_Se_at (cx_t hX) K v2 v3 M18) my_Se_at mi_Se_at ms_Se_at ml_SA_127 (Nat.le_of_ble_eq_true rfl) (Nat.le_of_ble_eq_true rfl) (loc_ser hv2) (ent_ser K _ hv2) rfl rfl rfl (Nat.le_of_ble_eq_true rfl) rfl (by omega) (by omega)) (fun r27 M27 => ?_)
      refine V_callU hX 33 (c9 + 2) (s9 + 284) rfl rfl rfl (by omega) (by omega) (VR_V hX 18 (ct_SA_writeSeparated (cx_t hX) K r27 M27) my_SA_writeSeparated mi_SA_writeSeparated ms_SA_writeSeparated ml_SA_302 (Nat.le_of_ble_eq_true rfl) (Nat.le_of_ble_eq_true rfl) (by decide) (ent_0 K _) rfl rfl rfl (Nat.le_of_ble_eq_true rfl) rfl (by omega) (by omega)) (fun r30 M30 => ?_)
      refine V_iincL hX 19 36 2 rfl rfl rfl rfl (Nat.le_of_ble_eq_true rfl) (fun x3_33 hx3_33 => ?_)
      refine VV_lc [(3, .int x3_33), (0, .ref (kA K 0)), (2, .ref (kA K v2))] rfl ?_
      refine V_goto hX 20 16 rfl (by decide) ?_
      refine VV_sub [1, 2, 0] rfl ?_
      refine VV_wd (c9 + 2) (s9 + 284) (by omega) (by omega) ?_
      exact (ih (c9 + 2) (s9 + 284) (by omega) (by omega)) x3_33 M30
set_option maxRecDepth 20000 in
theorem ct_SA_formatSeries {l : Launch} (hl : l.stackTraces = false) (K : KT) (v1 : Int32) (M : Mm) : CTp l K y_SA_formatSeries (Cond.code y_SA_formatSeries prog_1_method_51_code 4 (some .int)) rvI 16 43 5970 [.ref (kA K 0), .int v1] M (fn_SA_formatSeries v1 M) := by
  refine CTp_of (L := L_SA_formatSeries) (lc := [(0, .ref (kA K 0)), (1, .int v1)]) (by decide +kernel) dec_SA_formatSeries hl rfl (Nat.le_of_ble_eq_true rfl) (fun X hX => ?_)
  unfold fn_SA_formatSeries
  refine V_aload_n hX (j := 0) (hj := rfl) 0 1 rfl rfl ?_
  refine V_iload_n hX (j := 1) (hj := rfl) 1 2 rfl rfl ?_
  refine V_callL hX 5 1 6 rfl rfl rfl (Nat.le_of_ble_eq_true rfl) (Nat.le_of_ble_eq_true rfl) (VR_V hX 2 (ct_SA_seriesIn (cx_t hX) K v1 M) my_SA_seriesIn mi_SA_seriesIn ms_SA_seriesIn ml_SA_113 (Nat.le_of_ble_eq_true rfl) (Nat.le_of_ble_eq_true rfl) (by decide) (ent_0 K _) rfl rfl rfl (Nat.le_of_ble_eq_true rfl) rfl (Nat.le_of_ble_eq_true rfl) (Nat.le_of_ble_eq_true rfl)) (fun r2 M2 => VV_grd (fun hr2 => ?_))
  refine V_astore_n hX 3 6 [(2, .ref (kA K r2)), (0, .ref (kA K 0)), (1, .int v1)] rfl rfl (Nat.le_of_ble_eq_true rfl) rfl ?_
  refine V_aload_n hX (j := 1) (hj := rfl) 4 7 rfl rfl ?_
  refine V_get hX 5 10 0 (.ref (kA K 19)) fl_SA_47 rfl rfl (by decide) (ent_0 K _) rfl ?_
  refine V_iconst hX (v := 0) (hv := by decide) 6 11 rfl rfl ?_
  refine V_callU hX 14 1 6 rfl rfl rfl (Nat.le_of_ble_eq_true rfl) (Nat.le_of_ble_eq_true rfl) (VR_B hX 7 (ct_SB_setLength (cx_t hX) K 0 M2) my_SB_setLength mi_SB_setLength ms_SB_setLength ml_SA_298 (Nat.le_of_ble_eq_true rfl) (Nat.le_of_ble_eq_true rfl) rfl rfl (Nat.le_of_ble_eq_true rfl) rfl (Nat.le_of_ble_eq_true rfl) (Nat.le_of_ble_eq_true rfl)) (fun r11 M11 => ?_)
  refine V_iconst hX (v := 0) (hv := by decide) 8 15 rfl rfl ?_
  refine V_istore_n hX 9 16 [(3, .int 0), (2, .ref (kA K r2)), (0, .ref (kA K 0)), (1, .int v1)] rfl rfl (Nat.le_of_ble_eq_true rfl) rfl ?_
  refine VV_sub [2, 1, 0] rfl ?_
  exact bt_SA_formatSeries_16 hX r2 hr2 21 1 6 (Nat.le_of_ble_eq_true rfl) (Nat.le_of_ble_eq_true rfl) 0 M11
set_option maxRecDepth 20000 in
theorem bt_SA_formatRuns_90 {l : Launch} {K : KT} {X : XT} (hX : Cx l K 16 5 85 11934 X prog_1_method_52_code "SeriesArchive" (some .int) [] L_SA_formatRuns) (k19 : Int32 → Int32 → Mm → Rs Int32) (v2 : Nat) (v3 : Int32) (v4 : Int32) (c9 s9 : Nat) (hk19 : ∀ (v3 : Int32) (v4 : Int32) M, VV l K 16 5 85 11934 rvI X (k19 v3 v4 M) (c9 + 4) (s9 + 568) M 19 [(0, .ref (kA K 0)), (2, .ref (kA K v2)), (3, .int v3), (4, .int v4)] []) (hc9 : c9 + 4 ≤ 85) (hs9 : s9 + 568 ≤ 11934) (hv2 : isSer v2) (M : Mm) : VV l K 16 5 85 11934 rvI X (fn_SA_formatRuns_90 k19 v2 v3 v4 M) (c9 + 4) (s9 + 568) M 90 [(0, .ref (kA K 0)), (2, .ref (kA K v2)), (3, .int v3), (4, .int v4)] [] := by
  unfold fn_SA_formatRuns_90
  refine V_iincL hX 49 93 3 rfl rfl rfl rfl (Nat.le_of_ble_eq_true rfl) (fun x4_90 hx4_90 => ?_)
  refine VV_lc [(4, .int x4_90), (0, .ref (kA K 0)), (2, .ref (kA K v2)), (3, .int v3)] rfl ?_
  refine V_goto hX 50 19 rfl (by decide) ?_
  refine VV_sub [1, 2, 3, 0] rfl ?_
  refine VV_wd (c9 + 4) (s9 + 568) (by omega) (by omega) ?_
  exact hk19 v3 x4_90 M
set_option maxRecDepth 20000 in
theorem bt_SA_formatRuns_59 {l : Launch} {K : KT} {X : XT} (hX : Cx l K 16 5 85 11934 X prog_1_method_52_code "SeriesArchive" (some .int) [] L_SA_formatRuns) (k19 : Int32 → Int32 → Mm → Rs Int32) (v2 : Nat) (v3 : Int32) (v4 : Int32) (c9 s9 : Nat) (hk19 : ∀ (v3 : Int32) (v4 : Int32) M, VV l K 16 5 85 11934 rvI X (k19 v3 v4 M) (c9 + 4) (s9 + 568) M 19 [(0, .ref (kA K 0)), (2, .ref (kA K v2)), (3, .int v3), (4, .int v4)] []) (hc9 : c9 + 4 ≤ 85) (hs9 : s9 + 568 ≤ 11934) (hv2 : isSer v2) (M : Mm) : VV l K 16 5 85 11934 rvI X (fn_SA_formatRuns_59 k19 v2 v3 v4 M) (c9 + 0) (s9 + 0) M 59 [(0, .ref (kA K 0)), (2, .ref (kA K v2)), (3, .int v3), (4, .int v4)] [] := by
  unfold fn_SA_formatRuns_59
  refine V_aload_n hX (j := 0) (hj := rfl) 32 60 rfl rfl ?_
  refine V_aload_n hX (j := 1) (hj := rfl) 33 61 rfl rfl ?_
  refine V_iload hX (j := 3) (hj := rfl) 34 63 rfl rfl ?_
  refine V_callI hX 66 (c9 + 0) (s9 + 0) rfl rfl rfl (by omega) (by omega) (VR_V hX 35 (ct_Se_at (cx_t hX) K v2 v4 M) my_Se_at mi_Se_at ms_Se_at ml_SA_127 (Nat.le_of_ble_eq_true rfl) (Nat.le_of_ble_eq_true rfl) (loc_ser hv2) (ent_ser K _ hv2) rfl rfl rfl (Nat.le_of_ble_eq_true rfl) rfl (by omega) (by omega)) (fun r63 M63 => ?_)
  refine V_callU hX 69 (c9 + 2) (s9 + 284) rfl rfl rfl (by omega) (by omega) (VR_V hX 36 (ct_SA_writeSeparated (cx_t hX) K r63 M63) my_SA_writeSeparated mi_SA_writeSeparated ms_SA_writeSeparated ml_SA_302 (Nat.le_of_ble_eq_true rfl) (Nat.le_of_ble_eq_true rfl) (by decide) (ent_0 K _) rfl rfl rfl (Nat.le_of_ble_eq_true rfl) rfl (by omega) (by omega)) (fun r66 M66 => ?_)
  refine V_aload_n hX (j := 0) (hj := rfl) 37 70 rfl rfl ?_
  refine V_get hX 38 73 0 (.ref (kA K 19)) fl_SA_47 rfl rfl (by decide) (ent_0 K _) rfl ?_
  refine V_bipush hX (v := 120) (hv := by decide) 39 75 rfl rfl ?_
  refine V_callO hX 78 (c9 + 3) (s9 + 426) rfl rfl rfl (by omega) (by omega) (VR_B hX 40 (ct_SB_appendC (cx_t hX) K 120 M66) my_SB_appendC mi_SB_appendC ms_SB_appendC ml_SA_308 (Nat.le_of_ble_eq_true rfl) (Nat.le_of_ble_eq_true rfl) rfl rfl (Nat.le_of_ble_eq_true rfl) rfl (by omega) (by omega)) (fun r75 M75 => ?_)
  refine V_pop hX (hc := rfl) 41 79 rfl rfl ?_
  refine V_aload_n hX (j := 0) (hj := rfl) 42 80 rfl rfl ?_
  refine V_get hX 43 83 0 (.ref (kA K 19)) fl_SA_47 rfl rfl (by decide) (ent_0 K _) rfl ?_
  refine V_iload_n hX (j := 2) (hj := rfl) 44 84 rfl rfl ?_
  refine V_callO hX 87 (c9 + 4) (s9 + 568) rfl rfl rfl (by omega) (by omega) (VR_B hX 45 (ct_SB_appendI (cx_t hX) K v3 M75) my_SB_appendI mi_SB_appendI ms_SB_appendI ml_SA_312 (Nat.le_of_ble_eq_true rfl) (Nat.le_of_ble_eq_true rfl) rfl rfl (Nat.le_of_ble_eq_true rfl) rfl (by omega) (by omega)) (fun r84 M84 => ?_)
  refine V_pop hX (hc := rfl) 46 88 rfl rfl ?_
  refine V_iconst hX (v := 0) (hv := by decide) 47 89 rfl rfl ?_
  refine V_istore_n hX 48 90 [(3, .int 0), (0, .ref (kA K 0)), (2, .ref (kA K v2)), (4, .int v4)] rfl rfl (Nat.le_of_ble_eq_true rfl) rfl ?_
  refine VV_sub [1, 2, 0, 3] rfl ?_
  exact bt_SA_formatRuns_90 hX k19 v2 0 v4 c9 s9 hk19 (by omega) (by omega) hv2 M84
set_option maxRecDepth 20000 in
theorem bt_SA_formatRuns_96 {l : Launch} {K : KT} {X : XT} (hX : Cx l K 16 5 85 11934 X prog_1_method_52_code "SeriesArchive" (some .int) [] L_SA_formatRuns) (M : Mm) : VV l K 16 5 85 11934 rvI X (fn_SA_formatRuns_96 M) 85 11934 M 96 [(0, .ref (kA K 0))] [] := by
  unfold fn_SA_formatRuns_96
  refine V_aload_n hX (j := 0) (hj := rfl) 51 97 rfl rfl ?_
  refine V_get hX 52 100 0 (.ref (kA K 19)) fl_SA_47 rfl rfl (by decide) (ent_0 K _) rfl ?_
  refine V_callI hX 103 85 11934 rfl rfl rfl (Nat.le_of_ble_eq_true rfl) (Nat.le_of_ble_eq_true rfl) (VR_B hX 53 (ct_SB_length (cx_t hX) K M) my_SB_length mi_SB_length ms_SB_length ml_SA_305 (Nat.le_of_ble_eq_true rfl) (Nat.le_of_ble_eq_true rfl) rfl rfl (Nat.le_of_ble_eq_true rfl) rfl (Nat.le_of_ble_eq_true rfl) (Nat.le_of_ble_eq_true rfl)) (fun r100 M100 => ?_)
  exact V_iret hX 54 rfl (Nat.le_of_ble_eq_true rfl) (Nat.le_of_ble_eq_true rfl) rfl
set_option maxRecDepth 20000 in
theorem bt_SA_formatRuns_19 {l : Launch} {K : KT} {X : XT} (hX : Cx l K 16 5 85 11934 X prog_1_method_52_code "SeriesArchive" (some .int) [] L_SA_formatRuns) (v2 : Nat) (hv2 : isSer v2) : ∀ (n : Nat) (c9 s9 : Nat) (hc9 : c9 + n * 4 ≤ 85) (hs9 : s9 + n * 568 ≤ 11934) (v3 : Int32) (v4 : Int32) (M : Mm), VV l K 16 5 85 11934 rvI X (fn_SA_formatRuns_19 v2 n v3 v4 M) c9 s9 M 19 [(0, .ref (kA K 0)), (2, .ref (kA K v2)), (3, .int v3), (4, .int v4)] [] := by
  intro n
  induction n with
  | zero => intro c9 s9 hc9 hs9 v3 v4 M; exact VV_none
  | succ n ih =>
    intro c9 s9 hc9 hs9 v3 v4 M
    rw [fn_SA_formatRuns_19]
    refine V_iload hX (j := 3) (hj := rfl) 12 21 rfl rfl ?_
    refine V_aload_n hX (j := 1) (hj := rfl) 13 22 rfl rfl ?_
    refine V_callI hX 25 (c9 + 0) (s9 + 0) rfl rfl rfl (by omega) (by omega) (VR_V hX 14 (ct_Se_size (cx_t hX) K v2 M) my_Se_size mi_Se_size ms_Se_size ml_SA_117 (Nat.le_of_ble_eq_true rfl) (Nat.le_of_ble_eq_true rfl) (loc_ser hv2) (ent_ser K _ hv2) rfl rfl rfl (Nat.le_of_ble_eq_true rfl) rfl (by omega) (by omega)) (fun r22 M22 => ?_)
    refine V_icmp_ge hX 15 28 96 rfl rfl (by decide) (fun c25 => ?_) (fun c25 => ?_)
    · refine VV_sub [0] rfl ?_
      refine VV_wd 85 11934 (by omega) (by omega) ?_
      exact bt_SA_formatRuns_96 hX M22
    · refine V_iincL hX 16 31 2 rfl rfl rfl rfl (Nat.le_of_ble_eq_true rfl) (fun x3_28 hx3_28 => ?_)
      refine VV_lc [(3, .int x3_28), (0, .ref (kA K 0)), (2, .ref (kA K v2)), (4, .int v4)] rfl ?_
      refine V_aload_n hX (j := 2) (hj := rfl) 17 32 rfl rfl ?_
      refine V_iload hX (j := 3) (hj := rfl) 18 34 rfl rfl ?_
      refine V_iconst hX (v := 1) (hv := by decide) 19 35 rfl rfl ?_
      refine V_iadd hX 20 36 rfl rfl ?_
      refine V_callI hX 39 (c9 + 0) (s9 + 0) rfl rfl rfl (by omega) (by omega) (VR_V hX 21 (ct_Se_has (cx_t hX) K v2 (v4 + 1) M22) my_Se_has mi_Se_has ms_Se_has ml_SA_152 (Nat.le_of_ble_eq_true rfl) (Nat.le_of_ble_eq_true rfl) (loc_ser hv2) (ent_ser K _ hv2) rfl rfl rfl (Nat.le_of_ble_eq_true rfl) rfl (by omega) (by omega)) (fun r36 M36 => ?_)
      refine V_if_eq hX 22 42 59 rfl rfl (by decide) (fun c39 => ?_) (fun c39 => ?_)
      · refine VV_sub [1, 2, 0, 3] rfl ?_
        exact bt_SA_formatRuns_59 hX (fn_SA_formatRuns_19 v2 n) v2 x3_28 v4 c9 s9 (ih (c9 + 4) (s9 + 568) (by omega) (by omega)) (by omega) (by omega) hv2 M36
      · refine V_aload_n hX (j := 2) (hj := rfl) 23 43 rfl rfl ?_
        refine V_iload hX (j := 3) (hj := rfl) 24 45 rfl rfl ?_
        refine V_iconst hX (v := 1) (hv := by decide) 25 46 rfl rfl ?_
        refine V_iadd hX 26 47 rfl rfl ?_
        refine V_callI hX 50 (c9 + 0) (s9 + 0) rfl rfl rfl (by omega) (by omega) (VR_V hX 27 (ct_Se_at (cx_t hX) K v2 (v4 + 1) M36) my_Se_at mi_Se_at ms_Se_at ml_SA_127 (Nat.le_of_ble_eq_true rfl) (Nat.le_of_ble_eq_true rfl) (loc_ser hv2) (ent_ser K _ hv2) rfl rfl rfl (Nat.le_of_ble_eq_true rfl) rfl (by omega) (by omega)) (fun r47 M47 => ?_)
        refine V_aload_n hX (j := 2) (hj := rfl) 28 51 rfl rfl ?_
        refine V_iload hX (j := 3) (hj := rfl) 29 53 rfl rfl ?_
        refine V_callI hX 56 (c9 + 0) (s9 + 0) rfl rfl rfl (by omega) (by omega) (VR_V hX 30 (ct_Se_at (cx_t hX) K v2 v4 M47) my_Se_at mi_Se_at ms_Se_at ml_SA_127 (Nat.le_of_ble_eq_true rfl) (Nat.le_of_ble_eq_true rfl) (loc_ser hv2) (ent_ser K _ hv2) rfl rfl rfl (Nat.le_of_ble_eq_true rfl) rfl (by omega) (by omega)) (fun r53 M53 => ?_)
        refine V_icmp_eq hX 31 59 90 rfl rfl (by decide) (fun c56 => ?_) (fun c56 => ?_)
        · refine VV_sub [1, 2, 0, 3] rfl ?_
          refine VV_wd (c9 + 4) (s9 + 568) (by omega) (by omega) ?_
          exact bt_SA_formatRuns_90 hX (fn_SA_formatRuns_19 v2 n) v2 x3_28 v4 c9 s9 (ih (c9 + 4) (s9 + 568) (by omega) (by omega)) (by omega) (by omega) hv2 M53
        · refine VV_sub [1, 2, 0, 3] rfl ?_
          exact bt_SA_formatRuns_59 hX (fn_SA_formatRuns_19 v2 n) v2 x3_28 v4 c9 s9 (ih (c9 + 4) (s9 + 568) (by omega) (by omega)) (by omega) (by omega) hv2 M53
set_option maxRecDepth 20000 in
theorem ct_SA_formatRuns {l : Launch} (hl : l.stackTraces = false) (K : KT) (v1 : Int32) (M : Mm) : CTp l K y_SA_formatRuns (Cond.code y_SA_formatRuns prog_1_method_52_code 5 (some .int)) rvI 16 85 11934 [.ref (kA K 0), .int v1] M (fn_SA_formatRuns v1 M) := by
  refine CTp_of (L := L_SA_formatRuns) (lc := [(0, .ref (kA K 0)), (1, .int v1)]) (by decide +kernel) dec_SA_formatRuns hl rfl (Nat.le_of_ble_eq_true rfl) (fun X hX => ?_)
  unfold fn_SA_formatRuns
  refine V_aload_n hX (j := 0) (hj := rfl) 0 1 rfl rfl ?_
  refine V_iload_n hX (j := 1) (hj := rfl) 1 2 rfl rfl ?_
  refine V_callL hX 5 1 6 rfl rfl rfl (Nat.le_of_ble_eq_true rfl) (Nat.le_of_ble_eq_true rfl) (VR_V hX 2 (ct_SA_seriesIn (cx_t hX) K v1 M) my_SA_seriesIn mi_SA_seriesIn ms_SA_seriesIn ml_SA_113 (Nat.le_of_ble_eq_true rfl) (Nat.le_of_ble_eq_true rfl) (by decide) (ent_0 K _) rfl rfl rfl (Nat.le_of_ble_eq_true rfl) rfl (Nat.le_of_ble_eq_true rfl) (Nat.le_of_ble_eq_true rfl)) (fun r2 M2 => VV_grd (fun hr2 => ?_))
  refine V_astore_n hX 3 6 [(2, .ref (kA K r2)), (0, .ref (kA K 0)), (1, .int v1)] rfl rfl (Nat.le_of_ble_eq_true rfl) rfl ?_
  refine V_aload_n hX (j := 1) (hj := rfl) 4 7 rfl rfl ?_
  refine V_get hX 5 10 0 (.ref (kA K 19)) fl_SA_47 rfl rfl (by decide) (ent_0 K _) rfl ?_
  refine V_iconst hX (v := 0) (hv := by decide) 6 11 rfl rfl ?_
  refine V_callU hX 14 1 6 rfl rfl rfl (Nat.le_of_ble_eq_true rfl) (Nat.le_of_ble_eq_true rfl) (VR_B hX 7 (ct_SB_setLength (cx_t hX) K 0 M2) my_SB_setLength mi_SB_setLength ms_SB_setLength ml_SA_298 (Nat.le_of_ble_eq_true rfl) (Nat.le_of_ble_eq_true rfl) rfl rfl (Nat.le_of_ble_eq_true rfl) rfl (Nat.le_of_ble_eq_true rfl) (Nat.le_of_ble_eq_true rfl)) (fun r11 M11 => ?_)
  refine V_iconst hX (v := 0) (hv := by decide) 8 15 rfl rfl ?_
  refine V_istore_n hX 9 16 [(3, .int 0), (2, .ref (kA K r2)), (0, .ref (kA K 0)), (1, .int v1)] rfl rfl (Nat.le_of_ble_eq_true rfl) rfl ?_
  refine V_iconst hX (v := 0) (hv := by decide) 10 17 rfl rfl ?_
  refine V_istore hX 11 19 [(4, .int 0), (3, .int 0), (2, .ref (kA K r2)), (0, .ref (kA K 0)), (1, .int v1)] rfl rfl (Nat.le_of_ble_eq_true rfl) rfl ?_
  refine VV_sub [3, 2, 1, 0] rfl ?_
  exact bt_SA_formatRuns_19 hX r2 hr2 21 1 6 (Nat.le_of_ble_eq_true rfl) (Nat.le_of_ble_eq_true rfl) 0 0 M11
