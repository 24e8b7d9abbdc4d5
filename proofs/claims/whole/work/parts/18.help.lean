theorem ml_La_7 : Cond.methodLink "SeriesArchiveLaw" 7 y_SA_append ∈ zz_good := zz_c2 238 (by decide +kernel) rfl
theorem ml_La_19 : Cond.methodLink "SeriesArchiveLaw" 19 y_SA_setValue ∈ zz_good := zz_c3 179 (by decide +kernel) rfl
theorem ml_La_23 : Cond.methodLink "SeriesArchiveLaw" 23 y_SA_removeFirst ∈ zz_good := zz_c3 188 (by decide +kernel) rfl
theorem ml_La_26 : Cond.methodLink "SeriesArchiveLaw" 26 y_SA_copy ∈ zz_good := zz_c3 197 (by decide +kernel) rfl
theorem ml_La_29 : Cond.methodLink "SeriesArchiveLaw" 29 y_SA_reverse ∈ zz_good := zz_c3 206 (by decide +kernel) rfl
theorem ml_La_33 : Cond.methodLink "SeriesArchiveLaw" 33 y_SA_shift ∈ zz_good := zz_c3 215 (by decide +kernel) rfl
theorem ml_La_36 : Cond.methodLink "SeriesArchiveLaw" 36 y_SA_smooth ∈ zz_good := zz_c3 224 (by decide +kernel) rfl
theorem ml_La_39 : Cond.methodLink "SeriesArchiveLaw" 39 y_SA_toSteps ∈ zz_good := zz_c3 233 (by decide +kernel) rfl
theorem ml_La_42 : Cond.methodLink "SeriesArchiveLaw" 42 y_SA_clip ∈ zz_good := zz_c4 2 (by decide +kernel) rfl
theorem ml_La_45 : Cond.methodLink "SeriesArchiveLaw" 45 y_SA_length ∈ zz_good := zz_c4 11 (by decide +kernel) rfl
theorem ml_La_48 : Cond.methodLink "SeriesArchiveLaw" 48 y_SA_value ∈ zz_good := zz_c4 25 (by decide +kernel) rfl
theorem ml_La_51 : Cond.methodLink "SeriesArchiveLaw" 51 y_SA_sum ∈ zz_good := zz_c4 39 (by decide +kernel) rfl
theorem ml_La_54 : Cond.methodLink "SeriesArchiveLaw" 54 y_SA_sumByTree ∈ zz_good := zz_c4 52 (by decide +kernel) rfl
theorem ml_La_57 : Cond.methodLink "SeriesArchiveLaw" 57 y_SA_minimum ∈ zz_good := zz_c4 60 (by decide +kernel) rfl
theorem ml_La_60 : Cond.methodLink "SeriesArchiveLaw" 60 y_SA_maximum ∈ zz_good := zz_c4 71 (by decide +kernel) rfl
theorem ml_La_63 : Cond.methodLink "SeriesArchiveLaw" 63 y_SA_countAbove ∈ zz_good := zz_c4 82 (by decide +kernel) rfl
theorem ml_La_66 : Cond.methodLink "SeriesArchiveLaw" 66 y_SA_valueByRank ∈ zz_good := zz_c4 94 (by decide +kernel) rfl
theorem ml_La_71 : Cond.methodLink "SeriesArchiveLaw" 71 y_SA_mean ∈ zz_good := zz_c4 139 (by decide +kernel) rfl
theorem ml_La_77 : Cond.methodLink "SeriesArchiveLaw" 77 y_SA_windowMaximum ∈ zz_good := zz_c4 150 (by decide +kernel) rfl
theorem ml_La_80 : Cond.methodLink "SeriesArchiveLaw" 80 y_SA_windowMaximumByScan ∈ zz_good := zz_c4 167 (by decide +kernel) rfl
theorem ml_La_83 : Cond.methodLink "SeriesArchiveLaw" 83 y_SA_nextGreater ∈ zz_good := zz_c4 174 (by decide +kernel) rfl
theorem ml_La_86 : Cond.methodLink "SeriesArchiveLaw" 86 y_SA_nextGreaterByScan ∈ zz_good := zz_c4 186 (by decide +kernel) rfl
theorem ml_La_89 : Cond.methodLink "SeriesArchiveLaw" 89 y_SA_peakCount ∈ zz_good := zz_c4 194 (by decide +kernel) rfl
theorem ml_La_92 : Cond.methodLink "SeriesArchiveLaw" 92 y_SA_isPeak ∈ zz_good := zz_c4 210 (by decide +kernel) rfl
theorem ml_La_96 : Cond.methodLink "SeriesArchiveLaw" 96 y_SA_prominence ∈ zz_good := zz_c4 218 (by decide +kernel) rfl
theorem ml_La_99 : Cond.methodLink "SeriesArchiveLaw" 99 y_SA_prominenceByLevels ∈ zz_good := zz_c4 238 (by decide +kernel) rfl
theorem ml_La_102 : Cond.methodLink "SeriesArchiveLaw" 102 y_SA_peakByProminence ∈ zz_good := zz_c5 11 (by decide +kernel) rfl
theorem ml_La_105 : Cond.methodLink "SeriesArchiveLaw" 105 y_SA_bestSum ∈ zz_good := zz_c5 25 (by decide +kernel) rfl
theorem ml_La_108 : Cond.methodLink "SeriesArchiveLaw" 108 y_SA_bestSumByRanges ∈ zz_good := zz_c5 37 (by decide +kernel) rfl
theorem ml_La_111 : Cond.methodLink "SeriesArchiveLaw" 111 y_SA_bestStart ∈ zz_good := zz_c5 45 (by decide +kernel) rfl
theorem ml_La_114 : Cond.methodLink "SeriesArchiveLaw" 114 y_SA_bestEnd ∈ zz_good := zz_c5 58 (by decide +kernel) rfl
theorem ml_La_117 : Cond.methodLink "SeriesArchiveLaw" 117 y_SA_inversions ∈ zz_good := zz_c5 69 (by decide +kernel) rfl
theorem ml_La_120 : Cond.methodLink "SeriesArchiveLaw" 120 y_SA_inversionsByPairs ∈ zz_good := zz_c5 77 (by decide +kernel) rfl
theorem ml_La_123 : Cond.methodLink "SeriesArchiveLaw" 123 y_SA_leastPeriod ∈ zz_good := zz_c5 85 (by decide +kernel) rfl
theorem ml_La_126 : Cond.methodLink "SeriesArchiveLaw" 126 y_SA_leastPeriodByTrial ∈ zz_good := zz_c5 93 (by decide +kernel) rfl
theorem ml_La_129 : Cond.methodLink "SeriesArchiveLaw" 129 y_SA_occurrences ∈ zz_good := zz_c5 101 (by decide +kernel) rfl
theorem ml_La_132 : Cond.methodLink "SeriesArchiveLaw" 132 y_SA_occurrencesByScan ∈ zz_good := zz_c5 112 (by decide +kernel) rfl
theorem ml_La_135 : Cond.methodLink "SeriesArchiveLaw" 135 y_SA_leastError ∈ zz_good := zz_c5 125 (by decide +kernel) rfl
theorem ml_La_138 : Cond.methodLink "SeriesArchiveLaw" 138 y_SA_leastErrorByCuts ∈ zz_good := zz_c5 156 (by decide +kernel) rfl
theorem ml_La_141 : Cond.methodLink "SeriesArchiveLaw" 141 y_SA_segmentStart ∈ zz_good := zz_c5 169 (by decide +kernel) rfl
theorem ml_La_144 : Cond.methodLink "SeriesArchiveLaw" 144 y_SA_distance ∈ zz_good := zz_c5 193 (by decide +kernel) rfl
theorem ml_La_147 : Cond.methodLink "SeriesArchiveLaw" 147 y_SA_distanceByWalks ∈ zz_good := zz_c5 228 (by decide +kernel) rfl
theorem ml_La_150 : Cond.methodLink "SeriesArchiveLaw" 150 y_SA_areEqual ∈ zz_good := zz_c6 3 (by decide +kernel) rfl
theorem ml_La_153 : Cond.methodLink "SeriesArchiveLaw" 153 y_SA_areParallel ∈ zz_good := zz_c6 18 (by decide +kernel) rfl
theorem ml_La_156 : Cond.methodLink "SeriesArchiveLaw" 156 y_SA_isAscending ∈ zz_good := zz_c6 26 (by decide +kernel) rfl
theorem ml_La_160 : Cond.methodLink "SeriesArchiveLaw" 160 y_SA_positiveShare ∈ zz_good := zz_c6 37 (by decide +kernel) rfl
theorem ml_La_164 : Cond.methodLink "SeriesArchiveLaw" 164 y_SA_formatSeries ∈ zz_good := zz_c6 50 (by decide +kernel) rfl
theorem ml_La_167 : Cond.methodLink "SeriesArchiveLaw" 167 y_SA_formatRuns ∈ zz_good := zz_c7 98 (by decide +kernel) rfl
theorem ml_La_170 : Cond.methodLink "SeriesArchiveLaw" 170 y_SA_lineChar ∈ zz_good := zz_c7 105 (by decide +kernel) rfl
theorem ml_La_174 : Cond.methodLink "SeriesArchiveLaw" 174 y_SA_type ∈ zz_good := zz_c7 123 (by decide +kernel) rfl
theorem ml_La_178 : Cond.methodLink "SeriesArchiveLaw" 178 y_SA_run ∈ zz_good := zz_c7 141 (by decide +kernel) rfl
theorem ml_La_182 : Cond.methodLink "SeriesArchiveLaw" 182 y_SA_errorPosition ∈ zz_good := zz_c8 9 (by decide +kernel) rfl
theorem ml_La_185 : Cond.methodLink "SeriesArchiveLaw" 185 y_SA_failedCommand ∈ zz_good := zz_c8 16 (by decide +kernel) rfl
theorem ml_La_188 : Cond.methodLink "SeriesArchiveLaw" 188 y_SA_undo ∈ zz_good := zz_c8 23 (by decide +kernel) rfl
theorem ml_La_191 : Cond.methodLink "SeriesArchiveLaw" 191 y_SA_restore ∈ zz_good := zz_c8 36 (by decide +kernel) rfl
theorem cl_La_13 : Cond.classLink "SeriesArchiveLaw" 13 (exN 0) ∈ zz_good := zz_c2 157 (by decide +kernel) rfl
theorem cl_La_15 : Cond.classLink "SeriesArchiveLaw" 15 (exN 1) ∈ zz_good := zz_c2 236 (by decide +kernel) rfl
theorem cl_La_17 : Cond.classLink "SeriesArchiveLaw" 17 (exN 2) ∈ zz_good := zz_c2 237 (by decide +kernel) rfl
theorem cl_La_69 : Cond.classLink "SeriesArchiveLaw" 69 (exN 3) ∈ zz_good := zz_c4 93 (by decide +kernel) rfl
theorem cl_La_75 : Cond.classLink "SeriesArchiveLaw" 75 (exN 4) ∈ zz_good := zz_c4 125 (by decide +kernel) rfl
theorem ca_0 : Cond.castable (exN 0) (exN 0) ∈ zz_ex := zz_inx (zz_h3 _ (List.mem_of_getElem? (by decide +kernel : tables_1_3[62]? = some (Cond.castable (exN 0) (exN 0))))) rfl
theorem ca_1 : Cond.castable (exN 1) (exN 1) ∈ zz_ex := zz_inx (zz_h3 _ (List.mem_of_getElem? (by decide +kernel : tables_1_3[76]? = some (Cond.castable (exN 1) (exN 1))))) rfl
theorem ca_2 : Cond.castable (exN 2) (exN 2) ∈ zz_ex := zz_inx (zz_h3 _ (List.mem_of_getElem? (by decide +kernel : tables_1_3[93]? = some (Cond.castable (exN 2) (exN 2))))) rfl
theorem ca_3 : Cond.castable (exN 3) (exN 3) ∈ zz_ex := zz_inx (zz_h4 _ (List.mem_of_getElem? (by decide +kernel : tables_1_4[100]? = some (Cond.castable (exN 3) (exN 3))))) rfl
theorem ca_4 : Cond.castable (exN 4) (exN 4) ∈ zz_ex := zz_inx (zz_h4 _ (List.mem_of_getElem? (by decide +kernel : tables_1_4[137]? = some (Cond.castable (exN 4) (exN 4))))) rfl
def y_La_append : MethodName := ⟨"SeriesArchiveLaw", "append", "(LSeriesArchive;II[J)I"⟩
noncomputable def L_La_append : zz_L := [(0, .aload_n 3, 1), (1, .iconst 0, 1), (2, .aload_n 0, 1), (3, .iload_n 1, 1), (4, .iload_n 2, 1), (5, .invokevirtual 7, 3), (8, .i2l, 1), (9, .lastore, 1), (10, .goto 15, 3), (13, .astore 4, 2), (15, .iconst 1, 1), (16, .ireturn, 1), (17, .astore 4, 2), (19, .iconst 2, 1), (20, .ireturn, 1), (21, .astore 4, 2), (23, .iconst 3, 1), (24, .ireturn, 1), (25, .iconst 0, 1), (26, .ireturn, 1)]
theorem dec_La_append : zz_decAll method_3_code L_La_append = true := by decide +kernel
theorem ho_La_append_0 : HOk "SeriesArchiveLaw" ((0, 10, 13, 13), 0, 1) := ⟨by decide, by decide, cl_La_13, ca_0⟩
theorem ho_La_append_1 : HOk "SeriesArchiveLaw" ((0, 10, 17, 15), 1, 2) := ⟨by decide, by decide, cl_La_15, ca_1⟩
theorem ho_La_append_2 : HOk "SeriesArchiveLaw" ((0, 10, 21, 17), 2, 3) := ⟨by decide, by decide, cl_La_17, ca_2⟩
theorem myw_La_append : MYW y_La_append method_3_code 5 (some .int) [(0, 10, 13, 13), (0, 10, 17, 15), (0, 10, 21, 17)] 4 := ⟨zz_c2 156 (by decide +kernel) rfl, zz_c1 0 (by decide +kernel) rfl, by decide +kernel, by decide +kernel, by decide +kernel⟩
theorem mt_La_append : Cond.static y_La_append ∈ zz_good := zz_c2 155 (by decide +kernel) rfl
set_option maxRecDepth 20000 in
theorem ct_La_append {l : Launch} (hl : l.stackTraces = false) (K : KT) (v1 : Int32) (v2 : Int32) (M : Mm) : CTp l K y_La_append (Cond.codeWith y_La_append method_3_code 5 (some .int) [(0, 10, 13, 13), (0, 10, 17, 15), (0, 10, 21, 17)]) rvI 12 1 6 [.ref (kA K 0), .int v1, .int v2, .ref (kA K 45)] M (fn_La_append v1 v2 M) := by
  refine CTp_ofH (L := L_La_append) (lc := [(0, .ref (kA K 0)), (1, .int v1), (2, .int v2), (3, .ref (kA K 45))]) (by decide +kernel) dec_La_append hl rfl (Nat.le_of_ble_eq_true rfl) (fun X hX => ?_)
  unfold fn_La_append
  refine V_aload_n hX (j := 3) (hj := rfl) 0 1 rfl rfl ?_
  refine V_iconst hX (v := 0) (hv := by decide) 1 2 rfl rfl ?_
  refine V_aload_n hX (j := 0) (hj := rfl) 2 3 rfl rfl ?_
  refine V_iload_n hX (j := 1) (hj := rfl) 3 4 rfl rfl ?_
  refine V_iload_n hX (j := 2) (hj := rfl) 4 5 rfl rfl ?_
  refine V_cat hX [((0, 10, 13, 13), 0, 1), ((0, 10, 17, 15), 1, 2), ((0, 10, 21, 17), 2, 3)] rfl (VR_V hX 5 (ct_SA_append (cx_t hX) K v1 v2 M) my_SA_append mi_SA_append ms_SA_append ml_La_7 (Nat.le_of_ble_eq_true rfl) (Nat.le_of_ble_eq_true rfl) (by decide) (ent_0 K _) rfl rfl rfl (Nat.le_of_ble_eq_true rfl) rfl (Nat.le_of_ble_eq_true rfl) (Nat.le_of_ble_eq_true rfl)) (Nat.le_of_ble_eq_true rfl) (Nat.le_of_ble_eq_true rfl) (hk := List.forall_mem_cons.mpr ⟨ho_La_append_0, List.forall_mem_cons.mpr ⟨ho_La_append_1, List.forall_mem_cons.mpr ⟨ho_La_append_2, fun _ h => nomatch h⟩⟩⟩) (hcv := List.forall_mem_cons.mpr ⟨by decide, List.forall_mem_cons.mpr ⟨by decide, List.forall_mem_cons.mpr ⟨by decide, fun _ h => nomatch h⟩⟩⟩) ?_ (fun r M1 => ?_)
  · refine List.forall_mem_cons.mpr ⟨fun a M1 => ?_, ?_⟩
    · refine V_astore hX 9 15 [(4, .ref a), (0, .ref (kA K 0)), (1, .int v1), (2, .int v2), (3, .ref (kA K 45))] rfl rfl (Nat.le_of_ble_eq_true rfl) rfl ?_
      refine V_iconst hX (v := 1) (hv := by decide) 10 16 rfl rfl ?_
      exact V_iret hX 11 rfl (Nat.le_of_ble_eq_true rfl) (Nat.le_of_ble_eq_true rfl) rfl
    refine List.forall_mem_cons.mpr ⟨fun a M1 => ?_, ?_⟩
    · refine V_astore hX 12 19 [(4, .ref a), (0, .ref (kA K 0)), (1, .int v1), (2, .int v2), (3, .ref (kA K 45))] rfl rfl (Nat.le_of_ble_eq_true rfl) rfl ?_
      refine V_iconst hX (v := 2) (hv := by decide) 13 20 rfl rfl ?_
      exact V_iret hX 14 rfl (Nat.le_of_ble_eq_true rfl) (Nat.le_of_ble_eq_true rfl) rfl
    refine List.forall_mem_cons.mpr ⟨fun a M1 => ?_, ?_⟩
    · refine V_astore hX 15 23 [(4, .ref a), (0, .ref (kA K 0)), (1, .int v1), (2, .int v2), (3, .ref (kA K 45))] rfl rfl (Nat.le_of_ble_eq_true rfl) rfl ?_
      refine V_iconst hX (v := 3) (hv := by decide) 16 24 rfl rfl ?_
      exact V_iret hX 17 rfl (Nat.le_of_ble_eq_true rfl) (Nat.le_of_ble_eq_true rfl) rfl
    exact fun _ h => nomatch h
  · refine V_i2l hX 6 9 rfl rfl ?_
    refine V_last hX 7 10 (v := r) rfl rfl (fun M2 hM2 => ?_)
    refine V_goto hX 8 25 rfl (by decide) ?_
    refine V_iconst hX (v := 0) (hv := by decide) 18 26 rfl rfl ?_
    exact V_iret hX 19 rfl (Nat.le_of_ble_eq_true rfl) (Nat.le_of_ble_eq_true rfl) rfl
def y_La_setValue : MethodName := ⟨"SeriesArchiveLaw", "setValue", "(LSeriesArchive;III[J)I"⟩
noncomputable def L_La_setValue : zz_L := [(0, .aload 4, 2), (2, .iconst 0, 1), (3, .aload_n 0, 1), (4, .iload_n 1, 1), (5, .iload_n 2, 1), (6, .iload_n 3, 1), (7, .invokevirtual 19, 3), (10, .i2l, 1), (11, .lastore, 1), (12, .goto 11, 3), (15, .astore 5, 2), (17, .iconst 1, 1), (18, .ireturn, 1), (19, .astore 5, 2), (21, .iconst 2, 1), (22, .ireturn, 1), (23, .iconst 0, 1), (24, .ireturn, 1)]
theorem dec_La_setValue : zz_decAll method_4_code L_La_setValue = true := by decide +kernel
theorem ho_La_setValue_0 : HOk "SeriesArchiveLaw" ((0, 12, 15, 13), 0, 1) := ⟨by decide, by decide, cl_La_13, ca_0⟩
theorem ho_La_setValue_1 : HOk "SeriesArchiveLaw" ((0, 12, 19, 15), 1, 2) := ⟨by decide, by decide, cl_La_15, ca_1⟩
theorem myw_La_setValue : MYW y_La_setValue method_4_code 6 (some .int) [(0, 12, 15, 13), (0, 12, 19, 15)] 5 := ⟨zz_c3 178 (by decide +kernel) rfl, zz_c1 0 (by decide +kernel) rfl, by decide +kernel, by decide +kernel, by decide +kernel⟩
theorem mt_La_setValue : Cond.static y_La_setValue ∈ zz_good := zz_c3 177 (by decide +kernel) rfl
set_option maxRecDepth 20000 in
theorem ct_La_setValue {l : Launch} (hl : l.stackTraces = false) (K : KT) (v1 : Int32) (v2 : Int32) (v3 : Int32) (M : Mm) : CTp l K y_La_setValue (Cond.codeWith y_La_setValue method_4_code 6 (some .int) [(0, 12, 15, 13), (0, 12, 19, 15)]) rvI 12 1 6 [.ref (kA K 0), .int v1, .int v2, .int v3, .ref (kA K 45)] M (fn_La_setValue v1 v2 v3 M) := by
  refine CTp_ofH (L := L_La_setValue) (lc := [(0, .ref (kA K 0)), (1, .int v1), (2, .int v2), (3, .int v3), (4, .ref (kA K 45))]) (by decide +kernel) dec_La_setValue hl rfl (Nat.le_of_ble_eq_true rfl) (fun X hX => ?_)
  unfold fn_La_setValue
  refine V_aload hX (j := 4) (hj := rfl) 0 2 rfl rfl ?_
  refine V_iconst hX (v := 0) (hv := by decide) 1 3 rfl rfl ?_
  refine V_aload_n hX (j := 0) (hj := rfl) 2 4 rfl rfl ?_
  refine V_iload_n hX (j := 1) (hj := rfl) 3 5 rfl rfl ?_
  refine V_iload_n hX (j := 2) (hj := rfl) 4 6 rfl rfl ?_
  refine V_iload_n hX (j := 3) (hj := rfl) 5 7 rfl rfl ?_
  refine V_cat hX [((0, 12, 15, 13), 0, 1), ((0, 12, 19, 15), 1, 2)] rfl (VR_V hX 6 (ct_SA_setValue (cx_t hX) K v1 v2 v3 M) my_SA_setValue mi_SA_setValue ms_SA_setValue ml_La_19 (Nat.le_of_ble_eq_true rfl) (Nat.le_of_ble_eq_true rfl) (by decide) (ent_0 K _) rfl rfl rfl (Nat.le_of_ble_eq_true rfl) rfl (Nat.le_of_ble_eq_true rfl) (Nat.le_of_ble_eq_true rfl)) (Nat.le_of_ble_eq_true rfl) (Nat.le_of_ble_eq_true rfl) (hk := List.forall_mem_cons.mpr ⟨ho_La_setValue_0, List.forall_mem_cons.mpr ⟨ho_La_setValue_1, fun _ h => nomatch h⟩⟩) (hcv := List.forall_mem_cons.mpr ⟨by decide, List.forall_mem_cons.mpr ⟨by decide, fun _ h => nomatch h⟩⟩) ?_ (fun r M1 => ?_)
  · refine List.forall_mem_cons.mpr ⟨fun a M1 => ?_, ?_⟩
    · refine V_astore hX 10 17 [(5, .ref a), (0, .ref (kA K 0)), (1, .int v1), (2, .int v2), (3, .int v3), (4, .ref (kA K 45))] rfl rfl (Nat.le_of_ble_eq_true rfl) rfl ?_
      refine V_iconst hX (v := 1) (hv := by decide) 11 18 rfl rfl ?_
      exact V_iret hX 12 rfl (Nat.le_of_ble_eq_true rfl) (Nat.le_of_ble_eq_true rfl) rfl
    refine List.forall_mem_cons.mpr ⟨fun a M1 => ?_, ?_⟩
    · refine V_astore hX 13 21 [(5, .ref a), (0, .ref (kA K 0)), (1, .int v1), (2, .int v2), (3, .int v3), (4, .ref (kA K 45))] rfl rfl (Nat.le_of_ble_eq_true rfl) rfl ?_
      refine V_iconst hX (v := 2) (hv := by decide) 14 22 rfl rfl ?_
      exact V_iret hX 15 rfl (Nat.le_of_ble_eq_true rfl) (Nat.le_of_ble_eq_true rfl) rfl
    exact fun _ h => nomatch h
  · refine V_i2l hX 7 11 rfl rfl ?_
    refine V_last hX 8 12 (v := r) rfl rfl (fun M2 hM2 => ?_)
    refine V_goto hX 9 23 rfl (by decide) ?_
    refine V_iconst hX (v := 0) (hv := by decide) 16 24 rfl rfl ?_
    exact V_iret hX 17 rfl (Nat.le_of_ble_eq_true rfl) (Nat.le_of_ble_eq_true rfl) rfl
def y_La_removeFirst : MethodName := ⟨"SeriesArchiveLaw", "removeFirst", "(LSeriesArchive;II[J)I"⟩
noncomputable def L_La_removeFirst : zz_L := [(0, .aload_n 3, 1), (1, .iconst 0, 1), (2, .aload_n 0, 1), (3, .iload_n 1, 1), (4, .iload_n 2, 1), (5, .invokevirtual 23, 3), (8, .i2l, 1), (9, .lastore, 1), (10, .goto 11, 3), (13, .astore 4, 2), (15, .iconst 1, 1), (16, .ireturn, 1), (17, .astore 4, 2), (19, .iconst 2, 1), (20, .ireturn, 1), (21, .iconst 0, 1), (22, .ireturn, 1)]
theorem dec_La_removeFirst : zz_decAll method_5_code L_La_removeFirst = true := by decide +kernel
theorem ho_La_removeFirst_0 : HOk "SeriesArchiveLaw" ((0, 10, 13, 13), 0, 1) := ⟨by decide, by decide, cl_La_13, ca_0⟩
theorem ho_La_removeFirst_1 : HOk "SeriesArchiveLaw" ((0, 10, 17, 15), 1, 2) := ⟨by decide, by decide, cl_La_15, ca_1⟩
theorem myw_La_removeFirst : MYW y_La_removeFirst method_5_code 5 (some .int) [(0, 10, 13, 13), (0, 10, 17, 15)] 4 := ⟨zz_c3 187 (by decide +kernel) rfl, zz_c1 0 (by decide +kernel) rfl, by decide +kernel, by decide +kernel, by decide +kernel⟩
theorem mt_La_removeFirst : Cond.static y_La_removeFirst ∈ zz_good := zz_c3 186 (by decide +kernel) rfl
set_option maxRecDepth 20000 in
theorem ct_La_removeFirst {l : Launch} (hl : l.stackTraces = false) (K : KT) (v1 : Int32) (v2 : Int32) (M : Mm) : CTp l K y_La_removeFirst (Cond.codeWith y_La_removeFirst method_5_code 5 (some .int) [(0, 10, 13, 13), (0, 10, 17, 15)]) rvI 12 1 6 [.ref (kA K 0), .int v1, .int v2, .ref (kA K 45)] M (fn_La_removeFirst v1 v2 M) := by
  refine CTp_ofH (L := L_La_removeFirst) (lc := [(0, .ref (kA K 0)), (1, .int v1), (2, .int v2), (3, .ref (kA K 45))]) (by decide +kernel) dec_La_removeFirst hl rfl (Nat.le_of_ble_eq_true rfl) (fun X hX => ?_)
  unfold fn_La_removeFirst
  refine V_aload_n hX (j := 3) (hj := rfl) 0 1 rfl rfl ?_
  refine V_iconst hX (v := 0) (hv := by decide) 1 2 rfl rfl ?_
  refine V_aload_n hX (j := 0) (hj := rfl) 2 3 rfl rfl ?_
  refine V_iload_n hX (j := 1) (hj := rfl) 3 4 rfl rfl ?_
  refine V_iload_n hX (j := 2) (hj := rfl) 4 5 rfl rfl ?_
  refine V_cat hX [((0, 10, 13, 13), 0, 1), ((0, 10, 17, 15), 1, 2)] rfl (VR_V hX 5 (ct_SA_removeFirst (cx_t hX) K v1 v2 M) my_SA_removeFirst mi_SA_removeFirst ms_SA_removeFirst ml_La_23 (Nat.le_of_ble_eq_true rfl) (Nat.le_of_ble_eq_true rfl) (by decide) (ent_0 K _) rfl rfl rfl (Nat.le_of_ble_eq_true rfl) rfl (Nat.le_of_ble_eq_true rfl) (Nat.le_of_ble_eq_true rfl)) (Nat.le_of_ble_eq_true rfl) (Nat.le_of_ble_eq_true rfl) (hk := List.forall_mem_cons.mpr ⟨ho_La_removeFirst_0, List.forall_mem_cons.mpr ⟨ho_La_removeFirst_1, fun _ h => nomatch h⟩⟩) (hcv := List.forall_mem_cons.mpr ⟨by decide, List.forall_mem_cons.mpr ⟨by decide, fun _ h => nomatch h⟩⟩) ?_ (fun r M1 => ?_)
  · refine List.forall_mem_cons.mpr ⟨fun a M1 => ?_, ?_⟩
    · refine V_astore hX 9 15 [(4, .ref a), (0, .ref (kA K 0)), (1, .int v1), (2, .int v2), (3, .ref (kA K 45))] rfl rfl (Nat.le_of_ble_eq_true rfl) rfl ?_
      refine V_iconst hX (v := 1) (hv := by decide) 10 16 rfl rfl ?_
      exact V_iret hX 11 rfl (Nat.le_of_ble_eq_true rfl) (Nat.le_of_ble_eq_true rfl) rfl
    refine List.forall_mem_cons.mpr ⟨fun a M1 => ?_, ?_⟩
    · refine V_astore hX 12 19 [(4, .ref a), (0, .ref (kA K 0)), (1, .int v1), (2, .int v2), (3, .ref (kA K 45))] rfl rfl (Nat.le_of_ble_eq_true rfl) rfl ?_
      refine V_iconst hX (v := 2) (hv := by decide) 13 20 rfl rfl ?_
      exact V_iret hX 14 rfl (Nat.le_of_ble_eq_true rfl) (Nat.le_of_ble_eq_true rfl) rfl
    exact fun _ h => nomatch h
  · refine V_i2l hX 6 9 rfl rfl ?_
    refine V_last hX 7 10 (v := r) rfl rfl (fun M2 hM2 => ?_)
    refine V_goto hX 8 21 rfl (by decide) ?_
    refine V_iconst hX (v := 0) (hv := by decide) 15 22 rfl rfl ?_
    exact V_iret hX 16 rfl (Nat.le_of_ble_eq_true rfl) (Nat.le_of_ble_eq_true rfl) rfl
def y_La_copy : MethodName := ⟨"SeriesArchiveLaw", "copy", "(LSeriesArchive;II[J)I"⟩
noncomputable def L_La_copy : zz_L := [(0, .aload_n 3, 1), (1, .iconst 0, 1), (2, .aload_n 0, 1), (3, .iload_n 1, 1), (4, .iload_n 2, 1), (5, .invokevirtual 26, 3), (8, .i2l, 1), (9, .lastore, 1), (10, .goto 7, 3), (13, .astore 4, 2), (15, .iconst 1, 1), (16, .ireturn, 1), (17, .iconst 0, 1), (18, .ireturn, 1)]
theorem dec_La_copy : zz_decAll method_6_code L_La_copy = true := by decide +kernel
theorem ho_La_copy_0 : HOk "SeriesArchiveLaw" ((0, 10, 13, 13), 0, 1) := ⟨by decide, by decide, cl_La_13, ca_0⟩
theorem myw_La_copy : MYW y_La_copy method_6_code 5 (some .int) [(0, 10, 13, 13)] 4 := ⟨zz_c3 196 (by decide +kernel) rfl, zz_c1 0 (by decide +kernel) rfl, by decide +kernel, by decide +kernel, by decide +kernel⟩
theorem mt_La_copy : Cond.static y_La_copy ∈ zz_good := zz_c3 195 (by decide +kernel) rfl
set_option maxRecDepth 20000 in
theorem ct_La_copy {l : Launch} (hl : l.stackTraces = false) (K : KT) (v1 : Int32) (v2 : Int32) (M : Mm) : CTp l K y_La_copy (Cond.codeWith y_La_copy method_6_code 5 (some .int) [(0, 10, 13, 13)]) rvI 12 1 6 [.ref (kA K 0), .int v1, .int v2, .ref (kA K 45)] M (fn_La_copy v1 v2 M) := by
  refine CTp_ofH (L := L_La_copy) (lc := [(0, .ref (kA K 0)), (1, .int v1), (2, .int v2), (3, .ref (kA K 45))]) (by decide +kernel) dec_La_copy hl rfl (Nat.le_of_ble_eq_true rfl) (fun X hX => ?_)
  unfold fn_La_copy
  refine V_aload_n hX (j := 3) (hj := rfl) 0 1 rfl rfl ?_
  refine V_iconst hX (v := 0) (hv := by decide) 1 2 rfl rfl ?_
  refine V_aload_n hX (j := 0) (hj := rfl) 2 3 rfl rfl ?_
  refine V_iload_n hX (j := 1) (hj := rfl) 3 4 rfl rfl ?_
  refine V_iload_n hX (j := 2) (hj := rfl) 4 5 rfl rfl ?_
  refine V_cat hX [((0, 10, 13, 13), 0, 1)] rfl (VR_V hX 5 (ct_SA_copy (cx_t hX) K v1 v2 M) my_SA_copy mi_SA_copy ms_SA_copy ml_La_26 (Nat.le_of_ble_eq_true rfl) (Nat.le_of_ble_eq_true rfl) (by decide) (ent_0 K _) rfl rfl rfl (Nat.le_of_ble_eq_true rfl) rfl (Nat.le_of_ble_eq_true rfl) (Nat.le_of_ble_eq_true rfl)) (Nat.le_of_ble_eq_true rfl) (Nat.le_of_ble_eq_true rfl) (hk := List.forall_mem_cons.mpr ⟨ho_La_copy_0, fun _ h => nomatch h⟩) (hcv := List.forall_mem_cons.mpr ⟨by decide, fun _ h => nomatch h⟩) ?_ (fun r M1 => ?_)
  · refine List.forall_mem_cons.mpr ⟨fun a M1 => ?_, ?_⟩
    · refine V_astore hX 9 15 [(4, .ref a), (0, .ref (kA K 0)), (1, .int v1), (2, .int v2), (3, .ref (kA K 45))] rfl rfl (Nat.le_of_ble_eq_true rfl) rfl ?_
      refine V_iconst hX (v := 1) (hv := by decide) 10 16 rfl rfl ?_
      exact V_iret hX 11 rfl (Nat.le_of_ble_eq_true rfl) (Nat.le_of_ble_eq_true rfl) rfl
    exact fun _ h => nomatch h
  · refine V_i2l hX 6 9 rfl rfl ?_
    refine V_last hX 7 10 (v := r) rfl rfl (fun M2 hM2 => ?_)
    refine V_goto hX 8 17 rfl (by decide) ?_
    refine V_iconst hX (v := 0) (hv := by decide) 12 18 rfl rfl ?_
    exact V_iret hX 13 rfl (Nat.le_of_ble_eq_true rfl) (Nat.le_of_ble_eq_true rfl) rfl
def y_La_reverse : MethodName := ⟨"SeriesArchiveLaw", "reverse", "(LSeriesArchive;I[J)I"⟩
noncomputable def L_La_reverse : zz_L := [(0, .aload_n 2, 1), (1, .iconst 0, 1), (2, .aload_n 0, 1), (3, .iload_n 1, 1), (4, .invokevirtual 29, 3), (7, .i2l, 1), (8, .lastore, 1), (9, .goto 6, 3), (12, .astore_n 3, 1), (13, .iconst 1, 1), (14, .ireturn, 1), (15, .iconst 0, 1), (16, .ireturn, 1)]
theorem dec_La_reverse : zz_decAll method_7_code L_La_reverse = true := by decide +kernel
theorem ho_La_reverse_0 : HOk "SeriesArchiveLaw" ((0, 9, 12, 13), 0, 1) := ⟨by decide, by decide, cl_La_13, ca_0⟩
theorem myw_La_reverse : MYW y_La_reverse method_7_code 4 (some .int) [(0, 9, 12, 13)] 3 := ⟨zz_c3 205 (by decide +kernel) rfl, zz_c1 0 (by decide +kernel) rfl, by decide +kernel, by decide +kernel, by decide +kernel⟩
theorem mt_La_reverse : Cond.static y_La_reverse ∈ zz_good := zz_c3 204 (by decide +kernel) rfl
set_option maxRecDepth 20000 in
theorem ct_La_reverse {l : Launch} (hl : l.stackTraces = false) (K : KT) (v1 : Int32) (M : Mm) : CTp l K y_La_reverse (Cond.codeWith y_La_reverse method_7_code 4 (some .int) [(0, 9, 12, 13)]) rvI 12 1 6 [.ref (kA K 0), .int v1, .ref (kA K 45)] M (fn_La_reverse v1 M) := by
  refine CTp_ofH (L := L_La_reverse) (lc := [(0, .ref (kA K 0)), (1, .int v1), (2, .ref (kA K 45))]) (by decide +kernel) dec_La_reverse hl rfl (Nat.le_of_ble_eq_true rfl) (fun X hX => ?_)
  unfold fn_La_reverse
  refine V_aload_n hX (j := 2) (hj := rfl) 0 1 rfl rfl ?_
  refine V_iconst hX (v := 0) (hv := by decide) 1 2 rfl rfl ?_
  refine V_aload_n hX (j := 0) (hj := rfl) 2 3 rfl rfl ?_
  refine V_iload_n hX (j := 1) (hj := rfl) 3 4 rfl rfl ?_
  refine V_cat hX [((0, 9, 12, 13), 0, 1)] rfl (VR_V hX 4 (ct_SA_reverse (cx_t hX) K v1 M) my_SA_reverse mi_SA_reverse ms_SA_reverse ml_La_29 (Nat.le_of_ble_eq_true rfl) (Nat.le_of_ble_eq_true rfl) (by decide) (ent_0 K _) rfl rfl rfl (Nat.le_of_ble_eq_true rfl) rfl (Nat.le_of_ble_eq_true rfl) (Nat.le_of_ble_eq_true rfl)) (Nat.le_of_ble_eq_true rfl) (Nat.le_of_ble_eq_true rfl) (hk := List.forall_mem_cons.mpr ⟨ho_La_reverse_0, fun _ h => nomatch h⟩) (hcv := List.forall_mem_cons.mpr ⟨by decide, fun _ h => nomatch h⟩) ?_ (fun r M1 => ?_)
  · refine List.forall_mem_cons.mpr ⟨fun a M1 => ?_, ?_⟩
    · refine V_astore_n hX 8 13 [(3, .ref a), (0, .ref (kA K 0)), (1, .int v1), (2, .ref (kA K 45))] rfl rfl (Nat.le_of_ble_eq_true rfl) rfl ?_
      refine V_iconst hX (v := 1) (hv := by decide) 9 14 rfl rfl ?_
      exact V_iret hX 10 rfl (Nat.le_of_ble_eq_true rfl) (Nat.le_of_ble_eq_true rfl) rfl
    exact fun _ h => nomatch h
  · refine V_i2l hX 5 8 rfl rfl ?_
    refine V_last hX 6 9 (v := r) rfl rfl (fun M2 hM2 => ?_)
    refine V_goto hX 7 15 rfl (by decide) ?_
    refine V_iconst hX (v := 0) (hv := by decide) 11 16 rfl rfl ?_
    exact V_iret hX 12 rfl (Nat.le_of_ble_eq_true rfl) (Nat.le_of_ble_eq_true rfl) rfl
def y_La_shift : MethodName := ⟨"SeriesArchiveLaw", "shift", "(LSeriesArchive;II[J)I"⟩
noncomputable def L_La_shift : zz_L := [(0, .aload_n 3, 1), (1, .iconst 0, 1), (2, .aload_n 0, 1), (3, .iload_n 1, 1), (4, .iload_n 2, 1), (5, .invokevirtual 33, 3), (8, .i2l, 1), (9, .lastore, 1), (10, .goto 15, 3), (13, .astore 4, 2), (15, .iconst 1, 1), (16, .ireturn, 1), (17, .astore 4, 2), (19, .iconst 2, 1), (20, .ireturn, 1), (21, .astore 4, 2), (23, .iconst 3, 1), (24, .ireturn, 1), (25, .iconst 0, 1), (26, .ireturn, 1)]
theorem dec_La_shift : zz_decAll method_8_code L_La_shift = true := by decide +kernel
theorem ho_La_shift_0 : HOk "SeriesArchiveLaw" ((0, 10, 13, 13), 0, 1) := ⟨by decide, by decide, cl_La_13, ca_0⟩
theorem ho_La_shift_1 : HOk "SeriesArchiveLaw" ((0, 10, 17, 15), 1, 2) := ⟨by decide, by decide, cl_La_15, ca_1⟩
theorem ho_La_shift_2 : HOk "SeriesArchiveLaw" ((0, 10, 21, 17), 2, 3) := ⟨by decide, by decide, cl_La_17, ca_2⟩
theorem myw_La_shift : MYW y_La_shift method_8_code 5 (some .int) [(0, 10, 13, 13), (0, 10, 17, 15), (0, 10, 21, 17)] 4 := ⟨zz_c3 214 (by decide +kernel) rfl, zz_c1 0 (by decide +kernel) rfl, by decide +kernel, by decide +kernel, by decide +kernel⟩
theorem mt_La_shift : Cond.static y_La_shift ∈ zz_good := zz_c3 213 (by decide +kernel) rfl
set_option maxRecDepth 20000 in
theorem ct_La_shift {l : Launch} (hl : l.stackTraces = false) (K : KT) (v1 : Int32) (v2 : Int32) (M : Mm) : CTp l K y_La_shift (Cond.codeWith y_La_shift method_8_code 5 (some .int) [(0, 10, 13, 13), (0, 10, 17, 15), (0, 10, 21, 17)]) rvI 12 1 6 [.ref (kA K 0), .int v1, .int v2, .ref (kA K 45)] M (fn_La_shift v1 v2 M) := by
  refine CTp_ofH (L := L_La_shift) (lc := [(0, .ref (kA K 0)), (1, .int v1), (2, .int v2), (3, .ref (kA K 45))]) (by decide +kernel) dec_La_shift hl rfl (Nat.le_of_ble_eq_true rfl) (fun X hX => ?_)
  unfold fn_La_shift
  refine V_aload_n hX (j := 3) (hj := rfl) 0 1 rfl rfl ?_
  refine V_iconst hX (v := 0) (hv := by decide) 1 2 rfl rfl ?_
  refine V_aload_n hX (j := 0) (hj := rfl) 2 3 rfl rfl ?_
  refine V_iload_n hX (j := 1) (hj := rfl) 3 4 rfl rfl ?_
  refine V_iload_n hX (j := 2) (hj := rfl) 4 5 rfl rfl ?_
  refine V_cat hX [((0, 10, 13, 13), 0, 1), ((0, 10, 17, 15), 1, 2), ((0, 10, 21, 17), 2, 3)] rfl (VR_V hX 5 (ct_SA_shift (cx_t hX) K v1 v2 M) my_SA_shift mi_SA_shift ms_SA_shift ml_La_33 (Nat.le_of_ble_eq_true rfl) (Nat.le_of_ble_eq_true rfl) (by decide) (ent_0 K _) rfl rfl rfl (Nat.le_of_ble_eq_true rfl) rfl (Nat.le_of_ble_eq_true rfl) (Nat.le_of_ble_eq_true rfl)) (Nat.le_of_ble_eq_true rfl) (Nat.le_of_ble_eq_true rfl) (hk := List.forall_mem_cons.mpr ⟨ho_La_shift_0, List.forall_mem_cons.mpr ⟨ho_La_shift_1, List.forall_mem_cons.mpr ⟨ho_La_shift_2, fun _ h => nomatch h⟩⟩⟩) (hcv := List.forall_mem_cons.mpr ⟨by decide, List.forall_mem_cons.mpr ⟨by decide, List.forall_mem_cons.mpr ⟨by decide, fun _ h => nomatch h⟩⟩⟩) ?_ (fun r M1 => ?_)
  · refine List.forall_mem_cons.mpr ⟨fun a M1 => ?_, ?_⟩
    · refine V_astore hX 9 15 [(4, .ref a), (0, .ref (kA K 0)), (1, .int v1), (2, .int v2), (3, .ref (kA K 45))] rfl rfl (Nat.le_of_ble_eq_true rfl) rfl ?_
      refine V_iconst hX (v := 1) (hv := by decide) 10 16 rfl rfl ?_
      exact V_iret hX 11 rfl (Nat.le_of_ble_eq_true rfl) (Nat.le_of_ble_eq_true rfl) rfl
    refine List.forall_mem_cons.mpr ⟨fun a M1 => ?_, ?_⟩
    · refine V_astore hX 12 19 [(4, .ref a), (0, .ref (kA K 0)), (1, .int v1), (2, .int v2), (3, .ref (kA K 45))] rfl rfl (Nat.le_of_ble_eq_true rfl) rfl ?_
      refine V_iconst hX (v := 2) (hv := by decide) 13 20 rfl rfl ?_
      exact V_iret hX 14 rfl (Nat.le_of_ble_eq_true rfl) (Nat.le_of_ble_eq_true rfl) rfl
    refine List.forall_mem_cons.mpr ⟨fun a M1 => ?_, ?_⟩
    · refine V_astore hX 15 23 [(4, .ref a), (0, .ref (kA K 0)), (1, .int v1), (2, .int v2), (3, .ref (kA K 45))] rfl rfl (Nat.le_of_ble_eq_true rfl) rfl ?_
      refine V_iconst hX (v := 3) (hv := by decide) 16 24 rfl rfl ?_
      exact V_iret hX 17 rfl (Nat.le_of_ble_eq_true rfl) (Nat.le_of_ble_eq_true rfl) rfl
    exact fun _ h => nomatch h
  · refine V_i2l hX 6 9 rfl rfl ?_
    refine V_last hX 7 10 (v := r) rfl rfl (fun M2 hM2 => ?_)
    refine V_goto hX 8 25 rfl (by decide) ?_
    refine V_iconst hX (v := 0) (hv := by decide) 18 26 rfl rfl ?_
    exact V_iret hX 19 rfl (Nat.le_of_ble_eq_true rfl) (Nat.le_of_ble_eq_true rfl) rfl
def y_La_smooth : MethodName := ⟨"SeriesArchiveLaw", "smooth", "(LSeriesArchive;II[J)I"⟩
noncomputable def L_La_smooth : zz_L := [(0, .aload_n 3, 1), (1, .iconst 0, 1), (2, .aload_n 0, 1), (3, .iload_n 1, 1), (4, .iload_n 2, 1), (5, .invokevirtual 36, 3), (8, .i2l, 1), (9, .lastore, 1), (10, .goto 11, 3), (13, .astore 4, 2), (15, .iconst 1, 1), (16, .ireturn, 1), (17, .astore 4, 2), (19, .iconst 2, 1), (20, .ireturn, 1), (21, .iconst 0, 1), (22, .ireturn, 1)]
theorem dec_La_smooth : zz_decAll method_9_code L_La_smooth = true := by decide +kernel
theorem ho_La_smooth_0 : HOk "SeriesArchiveLaw" ((0, 10, 13, 13), 0, 1) := ⟨by decide, by decide, cl_La_13, ca_0⟩
theorem ho_La_smooth_1 : HOk "SeriesArchiveLaw" ((0, 10, 17, 15), 1, 2) := ⟨by decide, by decide, cl_La_15, ca_1⟩
theorem myw_La_smooth : MYW y_La_smooth method_9_code 5 (some .int) [(0, 10, 13, 13), (0, 10, 17, 15)] 4 := ⟨zz_c3 223 (by decide +kernel) rfl, zz_c1 0 (by decide +kernel) rfl, by decide +kernel, by decide +kernel, by decide +kernel⟩
theorem mt_La_smooth : Cond.static y_La_smooth ∈ zz_good := zz_c3 222 (by decide +kernel) rfl
set_option maxRecDepth 20000 in
theorem ct_La_smooth {l : Launch} (hl : l.stackTraces = false) (K : KT) (v1 : Int32) (v2 : Int32) (M : Mm) : CTp l K y_La_smooth (Cond.codeWith y_La_smooth method_9_code 5 (some .int) [(0, 10, 13, 13), (0, 10, 17, 15)]) rvI 12 1 6 [.ref (kA K 0), .int v1, .int v2, .ref (kA K 45)] M (fn_La_smooth v1 v2 M) := by
  refine CTp_ofH (L := L_La_smooth) (lc := [(0, .ref (kA K 0)), (1, .int v1), (2, .int v2), (3, .ref (kA K 45))]) (by decide +kernel) dec_La_smooth hl rfl (Nat.le_of_ble_eq_true rfl) (fun X hX => ?_)
  unfold fn_La_smooth
  refine V_aload_n hX (j := 3) (hj := rfl) 0 1 rfl rfl ?_
  refine V_iconst hX (v := 0) (hv := by decide) 1 2 rfl rfl ?_
  refine V_aload_n hX (j := 0) (hj := rfl) 2 3 rfl rfl ?_
  refine V_iload_n hX (j := 1) (hj := rfl) 3 4 rfl rfl ?_
  refine V_iload_n hX (j := 2) (hj := rfl) 4 5 rfl rfl ?_
  refine V_cat hX [((0, 10, 13, 13), 0, 1), ((0, 10, 17, 15), 1, 2)] rfl (VR_V hX 5 (ct_SA_smooth (cx_t hX) K v1 v2 M) my_SA_smooth mi_SA_smooth ms_SA_smooth ml_La_36 (Nat.le_of_ble_eq_true rfl) (Nat.le_of_ble_eq_true rfl) (by decide) (ent_0 K _) rfl rfl rfl (Nat.le_of_ble_eq_true rfl) rfl (Nat.le_of_ble_eq_true rfl) (Nat.le_of_ble_eq_true rfl)) (Nat.le_of_ble_eq_true rfl) (Nat.le_of_ble_eq_true rfl) (hk := List.forall_mem_cons.mpr ⟨ho_La_smooth_0, List.forall_mem_cons.mpr ⟨ho_La_smooth_1, fun _ h => nomatch h⟩⟩) (hcv := List.forall_mem_cons.mpr ⟨by decide, List.forall_mem_cons.mpr ⟨by decide, fun _ h => nomatch h⟩⟩) ?_ (fun r M1 => ?_)
  · refine List.forall_mem_cons.mpr ⟨fun a M1 => ?_, ?_⟩
    · refine V_astore hX 9 15 [(4, .ref a), (0, .ref (kA K 0)), (1, .int v1), (2, .int v2), (3, .ref (kA K 45))] rfl rfl (Nat.le_of_ble_eq_true rfl) rfl ?_
      refine V_iconst hX (v := 1) (hv := by decide) 10 16 rfl rfl ?_
      exact V_iret hX 11 rfl (Nat.le_of_ble_eq_true rfl) (Nat.le_of_ble_eq_true rfl) rfl
    refine List.forall_mem_cons.mpr ⟨fun a M1 => ?_, ?_⟩
    · refine V_astore hX 12 19 [(4, .ref a), (0, .ref (kA K 0)), (1, .int v1), (2, .int v2), (3, .ref (kA K 45))] rfl rfl (Nat.le_of_ble_eq_true rfl) rfl ?_
      refine V_iconst hX (v := 2) (hv := by decide) 13 20 rfl rfl ?_
      exact V_iret hX 14 rfl (Nat.le_of_ble_eq_true rfl) (Nat.le_of_ble_eq_true rfl) rfl
    exact fun _ h => nomatch h
  · refine V_i2l hX 6 9 rfl rfl ?_
    refine V_last hX 7 10 (v := r) rfl rfl (fun M2 hM2 => ?_)
    refine V_goto hX 8 21 rfl (by decide) ?_
    refine V_iconst hX (v := 0) (hv := by decide) 15 22 rfl rfl ?_
    exact V_iret hX 16 rfl (Nat.le_of_ble_eq_true rfl) (Nat.le_of_ble_eq_true rfl) rfl
def y_La_toSteps : MethodName := ⟨"SeriesArchiveLaw", "toSteps", "(LSeriesArchive;I[J)I"⟩
noncomputable def L_La_toSteps : zz_L := [(0, .aload_n 2, 1), (1, .iconst 0, 1), (2, .aload_n 0, 1), (3, .iload_n 1, 1), (4, .invokevirtual 39, 3), (7, .i2l, 1), (8, .lastore, 1), (9, .goto 9, 3), (12, .astore_n 3, 1), (13, .iconst 1, 1), (14, .ireturn, 1), (15, .astore_n 3, 1), (16, .iconst 2, 1), (17, .ireturn, 1), (18, .iconst 0, 1), (19, .ireturn, 1)]
theorem dec_La_toSteps : zz_decAll method_10_code L_La_toSteps = true := by decide +kernel
theorem ho_La_toSteps_0 : HOk "SeriesArchiveLaw" ((0, 9, 12, 13), 0, 1) := ⟨by decide, by decide, cl_La_13, ca_0⟩
theorem ho_La_toSteps_1 : HOk "SeriesArchiveLaw" ((0, 9, 15, 17), 2, 2) := ⟨by decide, by decide, cl_La_17, ca_2⟩
theorem myw_La_toSteps : MYW y_La_toSteps method_10_code 4 (some .int) [(0, 9, 12, 13), (0, 9, 15, 17)] 3 := ⟨zz_c3 232 (by decide +kernel) rfl, zz_c1 0 (by decide +kernel) rfl, by decide +kernel, by decide +kernel, by decide +kernel⟩
theorem mt_La_toSteps : Cond.static y_La_toSteps ∈ zz_good := zz_c3 231 (by decide +kernel) rfl
set_option maxRecDepth 20000 in
theorem ct_La_toSteps {l : Launch} (hl : l.stackTraces = false) (K : KT) (v1 : Int32) (M : Mm) : CTp l K y_La_toSteps (Cond.codeWith y_La_toSteps method_10_code 4 (some .int) [(0, 9, 12, 13), (0, 9, 15, 17)]) rvI 12 1 6 [.ref (kA K 0), .int v1, .ref (kA K 45)] M (fn_La_toSteps v1 M) := by
  refine CTp_ofH (L := L_La_toSteps) (lc := [(0, .ref (kA K 0)), (1, .int v1), (2, .ref (kA K 45))]) (by decide +kernel) dec_La_toSteps hl rfl (Nat.le_of_ble_eq_true rfl) (fun X hX => ?_)
  unfold fn_La_toSteps
  refine V_aload_n hX (j := 2) (hj := rfl) 0 1 rfl rfl ?_
  refine V_iconst hX (v := 0) (hv := by decide) 1 2 rfl rfl ?_
  refine V_aload_n hX (j := 0) (hj := rfl) 2 3 rfl rfl ?_
  refine V_iload_n hX (j := 1) (hj := rfl) 3 4 rfl rfl ?_
  refine V_cat hX [((0, 9, 12, 13), 0, 1), ((0, 9, 15, 17), 2, 2)] rfl (VR_V hX 4 (ct_SA_toSteps (cx_t hX) K v1 M) my_SA_toSteps mi_SA_toSteps ms_SA_toSteps ml_La_39 (Nat.le_of_ble_eq_true rfl) (Nat.le_of_ble_eq_true rfl) (by decide) (ent_0 K _) rfl rfl rfl (Nat.le_of_ble_eq_true rfl) rfl (Nat.le_of_ble_eq_true rfl) (Nat.le_of_ble_eq_true rfl)) (Nat.le_of_ble_eq_true rfl) (Nat.le_of_ble_eq_true rfl) (hk := List.forall_mem_cons.mpr ⟨ho_La_toSteps_0, List.forall_mem_cons.mpr ⟨ho_La_toSteps_1, fun _ h => nomatch h⟩⟩) (hcv := List.forall_mem_cons.mpr ⟨by decide, List.forall_mem_cons.mpr ⟨by decide, fun _ h => nomatch h⟩⟩) ?_ (fun r M1 => ?_)
  · refine List.forall_mem_cons.mpr ⟨fun a M1 => ?_, ?_⟩
    · refine V_astore_n hX 8 13 [(3, .ref a), (0, .ref (kA K 0)), (1, .int v1), (2, .ref (kA K 45))] rfl rfl (Nat.le_of_ble_eq_true rfl) rfl ?_
      refine V_iconst hX (v := 1) (hv := by decide) 9 14 rfl rfl ?_
      exact V_iret hX 10 rfl (Nat.le_of_ble_eq_true rfl) (Nat.le_of_ble_eq_true rfl) rfl
    refine List.forall_mem_cons.mpr ⟨fun a M1 => ?_, ?_⟩
    · refine V_astore_n hX 11 16 [(3, .ref a), (0, .ref (kA K 0)), (1, .int v1), (2, .ref (kA K 45))] rfl rfl (Nat.le_of_ble_eq_true rfl) rfl ?_
      refine V_iconst hX (v := 2) (hv := by decide) 12 17 rfl rfl ?_
      exact V_iret hX 13 rfl (Nat.le_of_ble_eq_true rfl) (Nat.le_of_ble_eq_true rfl) rfl
    exact fun _ h => nomatch h
  · refine V_i2l hX 5 8 rfl rfl ?_
    refine V_last hX 6 9 (v := r) rfl rfl (fun M2 hM2 => ?_)
    refine V_goto hX 7 18 rfl (by decide) ?_
    refine V_iconst hX (v := 0) (hv := by decide) 14 19 rfl rfl ?_
    exact V_iret hX 15 rfl (Nat.le_of_ble_eq_true rfl) (Nat.le_of_ble_eq_true rfl) rfl
def y_La_clip : MethodName := ⟨"SeriesArchiveLaw", "clip", "(LSeriesArchive;III[J)I"⟩
noncomputable def L_La_clip : zz_L := [(0, .aload 4, 2), (2, .iconst 0, 1), (3, .aload_n 0, 1), (4, .iload_n 1, 1), (5, .iload_n 2, 1), (6, .iload_n 3, 1), (7, .invokevirtual 42, 3), (10, .i2l, 1), (11, .lastore, 1), (12, .goto 11, 3), (15, .astore 5, 2), (17, .iconst 1, 1), (18, .ireturn, 1), (19, .astore 5, 2), (21, .iconst 2, 1), (22, .ireturn, 1), (23, .iconst 0, 1), (24, .ireturn, 1)]
theorem dec_La_clip : zz_decAll method_11_code L_La_clip = true := by decide +kernel
theorem ho_La_clip_0 : HOk "SeriesArchiveLaw" ((0, 12, 15, 13), 0, 1) := ⟨by decide, by decide, cl_La_13, ca_0⟩
theorem ho_La_clip_1 : HOk "SeriesArchiveLaw" ((0, 12, 19, 15), 1, 2) := ⟨by decide, by decide, cl_La_15, ca_1⟩
theorem myw_La_clip : MYW y_La_clip method_11_code 6 (some .int) [(0, 12, 15, 13), (0, 12, 19, 15)] 5 := ⟨zz_c4 1 (by decide +kernel) rfl, zz_c1 0 (by decide +kernel) rfl, by decide +kernel, by decide +kernel, by decide +kernel⟩
theorem mt_La_clip : Cond.static y_La_clip ∈ zz_good := zz_c4 0 (by decide +kernel) rfl
set_option maxRecDepth 20000 in
theorem ct_La_clip {l : Launch} (hl : l.stackTraces = false) (K : KT) (v1 : Int32) (v2 : Int32) (v3 : Int32) (M : Mm) : CTp l K y_La_clip (Cond.codeWith y_La_clip method_11_code 6 (some .int) [(0, 12, 15, 13), (0, 12, 19, 15)]) rvI 12 1 6 [.ref (kA K 0), .int v1, .int v2, .int v3, .ref (kA K 45)] M (fn_La_clip v1 v2 v3 M) := by
  refine CTp_ofH (L := L_La_clip) (lc := [(0, .ref (kA K 0)), (1, .int v1), (2, .int v2), (3, .int v3), (4, .ref (kA K 45))]) (by decide +kernel) dec_La_clip hl rfl (Nat.le_of_ble_eq_true rfl) (fun X hX => ?_)
  unfold fn_La_clip
  refine V_aload hX (j := 4) (hj := rfl) 0 2 rfl rfl ?_
  refine V_iconst hX (v := 0) (hv := by decide) 1 3 rfl rfl ?_
  refine V_aload_n hX (j := 0) (hj := rfl) 2 4 rfl rfl ?_
  refine V_iload_n hX (j := 1) (hj := rfl) 3 5 rfl rfl ?_
  refine V_iload_n hX (j := 2) (hj := rfl) 4 6 rfl rfl ?_
  refine V_iload_n hX (j := 3) (hj := rfl) 5 7 rfl rfl ?_
  refine V_cat hX [((0, 12, 15, 13), 0, 1), ((0, 12, 19, 15), 1, 2)] rfl (VR_V hX 6 (ct_SA_clip (cx_t hX) K v1 v2 v3 M) my_SA_clip mi_SA_clip ms_SA_clip ml_La_42 (Nat.le_of_ble_eq_true rfl) (Nat.le_of_ble_eq_true rfl) (by decide) (ent_0 K _) rfl rfl rfl (Nat.le_of_ble_eq_true rfl) rfl (Nat.le_of_ble_eq_true rfl) (Nat.le_of_ble_eq_true rfl)) (Nat.le_of_ble_eq_true rfl) (Nat.le_of_ble_eq_true rfl) (hk := List.forall_mem_cons.mpr ⟨ho_La_clip_0, List.forall_mem_cons.mpr ⟨ho_La_clip_1, fun _ h => nomatch h⟩⟩) (hcv := List.forall_mem_cons.mpr ⟨by decide, List.forall_mem_cons.mpr ⟨by decide, fun _ h => nomatch h⟩⟩) ?_ (fun r M1 => ?_)
  · refine List.forall_mem_cons.mpr ⟨fun a M1 => ?_, ?_⟩
    · refine V_astore hX 10 17 [(5, .ref a), (0, .ref (kA K 0)), (1, .int v1), (2, .int v2), (3, .int v3), (4, .ref (kA K 45))] rfl rfl (Nat.le_of_ble_eq_true rfl) rfl ?_
      refine V_iconst hX (v := 1) (hv := by decide) 11 18 rfl rfl ?_
      exact V_iret hX 12 rfl (Nat.le_of_ble_eq_true rfl) (Nat.le_of_ble_eq_true rfl) rfl
    refine List.forall_mem_cons.mpr ⟨fun a M1 => ?_, ?_⟩
    · refine V_astore hX 13 21 [(5, .ref a), (0, .ref (kA K 0)), (1, .int v1), (2, .int v2), (3, .int v3), (4, .ref (kA K 45))] rfl rfl (Nat.le_of_ble_eq_true rfl) rfl ?_
      refine V_iconst hX (v := 2) (hv := by decide) 14 22 rfl rfl ?_
      exact V_iret hX 15 rfl (Nat.le_of_ble_eq_true rfl) (Nat.le_of_ble_eq_true rfl) rfl
    exact fun _ h => nomatch h
  · refine V_i2l hX 7 11 rfl rfl ?_
    refine V_last hX 8 12 (v := r) rfl rfl (fun M2 hM2 => ?_)
    refine V_goto hX 9 23 rfl (by decide) ?_
    refine V_iconst hX (v := 0) (hv := by decide) 16 24 rfl rfl ?_
    exact V_iret hX 17 rfl (Nat.le_of_ble_eq_true rfl) (Nat.le_of_ble_eq_true rfl) rfl
def y_La_length : MethodName := ⟨"SeriesArchiveLaw", "length", "(LSeriesArchive;I[J)I"⟩
noncomputable def L_La_length : zz_L := [(0, .aload_n 2, 1), (1, .iconst 0, 1), (2, .aload_n 0, 1), (3, .iload_n 1, 1), (4, .invokevirtual 45, 3), (7, .i2l, 1), (8, .lastore, 1), (9, .goto 6, 3), (12, .astore_n 3, 1), (13, .iconst 1, 1), (14, .ireturn, 1), (15, .iconst 0, 1), (16, .ireturn, 1)]
theorem dec_La_length : zz_decAll method_12_code L_La_length = true := by decide +kernel
theorem ho_La_length_0 : HOk "SeriesArchiveLaw" ((0, 9, 12, 13), 0, 1) := ⟨by decide, by decide, cl_La_13, ca_0⟩
theorem myw_La_length : MYW y_La_length method_12_code 4 (some .int) [(0, 9, 12, 13)] 3 := ⟨zz_c4 10 (by decide +kernel) rfl, zz_c1 0 (by decide +kernel) rfl, by decide +kernel, by decide +kernel, by decide +kernel⟩
theorem mt_La_length : Cond.static y_La_length ∈ zz_good := zz_c4 9 (by decide +kernel) rfl
set_option maxRecDepth 20000 in
theorem ct_La_length {l : Launch} (hl : l.stackTraces = false) (K : KT) (v1 : Int32) (M : Mm) : CTp l K y_La_length (Cond.codeWith y_La_length method_12_code 4 (some .int) [(0, 9, 12, 13)]) rvI 11 1 6 [.ref (kA K 0), .int v1, .ref (kA K 45)] M (fn_La_length v1 M) := by
  refine CTp_ofH (L := L_La_length) (lc := [(0, .ref (kA K 0)), (1, .int v1), (2, .ref (kA K 45))]) (by decide +kernel) dec_La_length hl rfl (Nat.le_of_ble_eq_true rfl) (fun X hX => ?_)
  unfold fn_La_length
  refine V_aload_n hX (j := 2) (hj := rfl) 0 1 rfl rfl ?_
  refine V_iconst hX (v := 0) (hv := by decide) 1 2 rfl rfl ?_
  refine V_aload_n hX (j := 0) (hj := rfl) 2 3 rfl rfl ?_
  refine V_iload_n hX (j := 1) (hj := rfl) 3 4 rfl rfl ?_
  refine V_cat hX [((0, 9, 12, 13), 0, 1)] rfl (VR_V hX 4 (ct_SA_length (cx_t hX) K v1 M) my_SA_length mi_SA_length ms_SA_length ml_La_45 (Nat.le_of_ble_eq_true rfl) (Nat.le_of_ble_eq_true rfl) (by decide) (ent_0 K _) rfl rfl rfl (Nat.le_of_ble_eq_true rfl) rfl (Nat.le_of_ble_eq_true rfl) (Nat.le_of_ble_eq_true rfl)) (Nat.le_of_ble_eq_true rfl) (Nat.le_of_ble_eq_true rfl) (hk := List.forall_mem_cons.mpr ⟨ho_La_length_0, fun _ h => nomatch h⟩) (hcv := List.forall_mem_cons.mpr ⟨by decide, fun _ h => nomatch h⟩) ?_ (fun r M1 => ?_)
  · refine List.forall_mem_cons.mpr ⟨fun a M1 => ?_, ?_⟩
    · refine V_astore_n hX 8 13 [(3, .ref a), (0, .ref (kA K 0)), (1, .int v1), (2, .ref (kA K 45))] rfl rfl (Nat.le_of_ble_eq_true rfl) rfl ?_
      refine V_iconst hX (v := 1) (hv := by decide) 9 14 rfl rfl ?_
      exact V_iret hX 10 rfl (Nat.le_of_ble_eq_true rfl) (Nat.le_of_ble_eq_true rfl) rfl
    exact fun _ h => nomatch h
  · refine V_i2l hX 5 8 rfl rfl ?_
    refine V_last hX 6 9 (v := r) rfl rfl (fun M2 hM2 => ?_)
    refine V_goto hX 7 15 rfl (by decide) ?_
    refine V_iconst hX (v := 0) (hv := by decide) 11 16 rfl rfl ?_
    exact V_iret hX 12 rfl (Nat.le_of_ble_eq_true rfl) (Nat.le_of_ble_eq_true rfl) rfl
def y_La_value : MethodName := ⟨"SeriesArchiveLaw", "value", "(LSeriesArchive;II[J)I"⟩
noncomputable def L_La_value : zz_L := [(0, .aload_n 3, 1), (1, .iconst 0, 1), (2, .aload_n 0, 1), (3, .iload_n 1, 1), (4, .iload_n 2, 1), (5, .invokevirtual 48, 3), (8, .i2l, 1), (9, .lastore, 1), (10, .goto 7, 3), (13, .astore 4, 2), (15, .iconst 1, 1), (16, .ireturn, 1), (17, .iconst 0, 1), (18, .ireturn, 1)]
theorem dec_La_value : zz_decAll method_13_code L_La_value = true := by decide +kernel
theorem ho_La_value_0 : HOk "SeriesArchiveLaw" ((0, 10, 13, 13), 0, 1) := ⟨by decide, by decide, cl_La_13, ca_0⟩
theorem myw_La_value : MYW y_La_value method_13_code 5 (some .int) [(0, 10, 13, 13)] 4 := ⟨zz_c4 24 (by decide +kernel) rfl, zz_c1 0 (by decide +kernel) rfl, by decide +kernel, by decide +kernel, by decide +kernel⟩
theorem mt_La_value : Cond.static y_La_value ∈ zz_good := zz_c4 23 (by decide +kernel) rfl
set_option maxRecDepth 20000 in
theorem ct_La_value {l : Launch} (hl : l.stackTraces = false) (K : KT) (v1 : Int32) (v2 : Int32) (M : Mm) : CTp l K y_La_value (Cond.codeWith y_La_value method_13_code 5 (some .int) [(0, 10, 13, 13)]) rvI 12 2 12 [.ref (kA K 0), .int v1, .int v2, .ref (kA K 45)] M (fn_La_value v1 v2 M) := by
  refine CTp_ofH (L := L_La_value) (lc := [(0, .ref (kA K 0)), (1, .int v1), (2, .int v2), (3, .ref (kA K 45))]) (by decide +kernel) dec_La_value hl rfl (Nat.le_of_ble_eq_true rfl) (fun X hX => ?_)
  unfold fn_La_value
  refine V_aload_n hX (j := 3) (hj := rfl) 0 1 rfl rfl ?_
  refine V_iconst hX (v := 0) (hv := by decide) 1 2 rfl rfl ?_
  refine V_aload_n hX (j := 0) (hj := rfl) 2 3 rfl rfl ?_
  refine V_iload_n hX (j := 1) (hj := rfl) 3 4 rfl rfl ?_
  refine V_iload_n hX (j := 2) (hj := rfl) 4 5 rfl rfl ?_
  refine V_cat hX [((0, 10, 13, 13), 0, 1)] rfl (VR_V hX 5 (ct_SA_value (cx_t hX) K v1 v2 M) my_SA_value mi_SA_value ms_SA_value ml_La_48 (Nat.le_of_ble_eq_true rfl) (Nat.le_of_ble_eq_true rfl) (by decide) (ent_0 K _) rfl rfl rfl (Nat.le_of_ble_eq_true rfl) rfl (Nat.le_of_ble_eq_true rfl) (Nat.le_of_ble_eq_true rfl)) (Nat.le_of_ble_eq_true rfl) (Nat.le_of_ble_eq_true rfl) (hk := List.forall_mem_cons.mpr ⟨ho_La_value_0, fun _ h => nomatch h⟩) (hcv := List.forall_mem_cons.mpr ⟨by decide, fun _ h => nomatch h⟩) ?_ (fun r M1 => ?_)
  · refine List.forall_mem_cons.mpr ⟨fun a M1 => ?_, ?_⟩
    · refine V_astore hX 9 15 [(4, .ref a), (0, .ref (kA K 0)), (1, .int v1), (2, .int v2), (3, .ref (kA K 45))] rfl rfl (Nat.le_of_ble_eq_true rfl) rfl ?_
      refine V_iconst hX (v := 1) (hv := by decide) 10 16 rfl rfl ?_
      exact V_iret hX 11 rfl (Nat.le_of_ble_eq_true rfl) (Nat.le_of_ble_eq_true rfl) rfl
    exact fun _ h => nomatch h
  · refine V_i2l hX 6 9 rfl rfl ?_
    refine V_last hX 7 10 (v := r) rfl rfl (fun M2 hM2 => ?_)
    refine V_goto hX 8 17 rfl (by decide) ?_
    refine V_iconst hX (v := 0) (hv := by decide) 12 18 rfl rfl ?_
    exact V_iret hX 13 rfl (Nat.le_of_ble_eq_true rfl) (Nat.le_of_ble_eq_true rfl) rfl
def y_La_sum : MethodName := ⟨"SeriesArchiveLaw", "sum", "(LSeriesArchive;III[J)I"⟩
noncomputable def L_La_sum : zz_L := [(0, .aload 4, 2), (2, .iconst 0, 1), (3, .aload_n 0, 1), (4, .iload_n 1, 1), (5, .iload_n 2, 1), (6, .iload_n 3, 1), (7, .invokevirtual 51, 3), (10, .i2l, 1), (11, .lastore, 1), (12, .goto 7, 3), (15, .astore 5, 2), (17, .iconst 1, 1), (18, .ireturn, 1), (19, .iconst 0, 1), (20, .ireturn, 1)]
theorem dec_La_sum : zz_decAll method_14_code L_La_sum = true := by decide +kernel
theorem ho_La_sum_0 : HOk "SeriesArchiveLaw" ((0, 12, 15, 13), 0, 1) := ⟨by decide, by decide, cl_La_13, ca_0⟩
theorem myw_La_sum : MYW y_La_sum method_14_code 6 (some .int) [(0, 12, 15, 13)] 5 := ⟨zz_c4 38 (by decide +kernel) rfl, zz_c1 0 (by decide +kernel) rfl, by decide +kernel, by decide +kernel, by decide +kernel⟩
theorem mt_La_sum : Cond.static y_La_sum ∈ zz_good := zz_c4 37 (by decide +kernel) rfl
set_option maxRecDepth 20000 in
theorem ct_La_sum {l : Launch} (hl : l.stackTraces = false) (K : KT) (v1 : Int32) (v2 : Int32) (v3 : Int32) (M : Mm) : CTp l K y_La_sum (Cond.codeWith y_La_sum method_14_code 6 (some .int) [(0, 12, 15, 13)]) rvI 12 2 12 [.ref (kA K 0), .int v1, .int v2, .int v3, .ref (kA K 45)] M (fn_La_sum v1 v2 v3 M) := by
  refine CTp_ofH (L := L_La_sum) (lc := [(0, .ref (kA K 0)), (1, .int v1), (2, .int v2), (3, .int v3), (4, .ref (kA K 45))]) (by decide +kernel) dec_La_sum hl rfl (Nat.le_of_ble_eq_true rfl) (fun X hX => ?_)
  unfold fn_La_sum
  refine V_aload hX (j := 4) (hj := rfl) 0 2 rfl rfl ?_
  refine V_iconst hX (v := 0) (hv := by decide) 1 3 rfl rfl ?_
  refine V_aload_n hX (j := 0) (hj := rfl) 2 4 rfl rfl ?_
  refine V_iload_n hX (j := 1) (hj := rfl) 3 5 rfl rfl ?_
  refine V_iload_n hX (j := 2) (hj := rfl) 4 6 rfl rfl ?_
  refine V_iload_n hX (j := 3) (hj := rfl) 5 7 rfl rfl ?_
  refine V_cat hX [((0, 12, 15, 13), 0, 1)] rfl (VR_V hX 6 (ct_SA_sum (cx_t hX) K v1 v2 v3 M) my_SA_sum mi_SA_sum ms_SA_sum ml_La_51 (Nat.le_of_ble_eq_true rfl) (Nat.le_of_ble_eq_true rfl) (by decide) (ent_0 K _) rfl rfl rfl (Nat.le_of_ble_eq_true rfl) rfl (Nat.le_of_ble_eq_true rfl) (Nat.le_of_ble_eq_true rfl)) (Nat.le_of_ble_eq_true rfl) (Nat.le_of_ble_eq_true rfl) (hk := List.forall_mem_cons.mpr ⟨ho_La_sum_0, fun _ h => nomatch h⟩) (hcv := List.forall_mem_cons.mpr ⟨by decide, fun _ h => nomatch h⟩) ?_ (fun r M1 => ?_)
  · refine List.forall_mem_cons.mpr ⟨fun a M1 => ?_, ?_⟩
    · refine V_astore hX 10 17 [(5, .ref a), (0, .ref (kA K 0)), (1, .int v1), (2, .int v2), (3, .int v3), (4, .ref (kA K 45))] rfl rfl (Nat.le_of_ble_eq_true rfl) rfl ?_
      refine V_iconst hX (v := 1) (hv := by decide) 11 18 rfl rfl ?_
      exact V_iret hX 12 rfl (Nat.le_of_ble_eq_true rfl) (Nat.le_of_ble_eq_true rfl) rfl
    exact fun _ h => nomatch h
  · refine V_i2l hX 7 11 rfl rfl ?_
    refine V_last hX 8 12 (v := r) rfl rfl (fun M2 hM2 => ?_)
    refine V_goto hX 9 19 rfl (by decide) ?_
    refine V_iconst hX (v := 0) (hv := by decide) 13 20 rfl rfl ?_
    exact V_iret hX 14 rfl (Nat.le_of_ble_eq_true rfl) (Nat.le_of_ble_eq_true rfl) rfl
def y_La_sumByTree : MethodName := ⟨"SeriesArchiveLaw", "sumByTree", "(LSeriesArchive;III[J)I"⟩
noncomputable def L_La_sumByTree : zz_L := [(0, .aload 4, 2), (2, .iconst 0, 1), (3, .aload_n 0, 1), (4, .iload_n 1, 1), (5, .iload_n 2, 1), (6, .iload_n 3, 1), (7, .invokevirtual 54, 3), (10, .i2l, 1), (11, .lastore, 1), (12, .goto 7, 3), (15, .astore 5, 2), (17, .iconst 1, 1), (18, .ireturn, 1), (19, .iconst 0, 1), (20, .ireturn, 1)]
theorem dec_La_sumByTree : zz_decAll method_15_code L_La_sumByTree = true := by decide +kernel
theorem ho_La_sumByTree_0 : HOk "SeriesArchiveLaw" ((0, 12, 15, 13), 0, 1) := ⟨by decide, by decide, cl_La_13, ca_0⟩
theorem myw_La_sumByTree : MYW y_La_sumByTree method_15_code 6 (some .int) [(0, 12, 15, 13)] 5 := ⟨zz_c4 51 (by decide +kernel) rfl, zz_c1 0 (by decide +kernel) rfl, by decide +kernel, by decide +kernel, by decide +kernel⟩
theorem mt_La_sumByTree : Cond.static y_La_sumByTree ∈ zz_good := zz_c4 50 (by decide +kernel) rfl
set_option maxRecDepth 20000 in
theorem ct_La_sumByTree {l : Launch} (hl : l.stackTraces = false) (K : KT) (v1 : Int32) (v2 : Int32) (v3 : Int32) (M : Mm) : CTp l K y_La_sumByTree (Cond.codeWith y_La_sumByTree method_15_code 6 (some .int) [(0, 12, 15, 13)]) rvI 12 2 12 [.ref (kA K 0), .int v1, .int v2, .int v3, .ref (kA K 45)] M (fn_La_sumByTree v1 v2 v3 M) := by
  refine CTp_ofH (L := L_La_sumByTree) (lc := [(0, .ref (kA K 0)), (1, .int v1), (2, .int v2), (3, .int v3), (4, .ref (kA K 45))]) (by decide +kernel) dec_La_sumByTree hl rfl (Nat.le_of_ble_eq_true rfl) (fun X hX => ?_)
  unfold fn_La_sumByTree
  refine V_aload hX (j := 4) (hj := rfl) 0 2 rfl rfl ?_
  refine V_iconst hX (v := 0) (hv := by decide) 1 3 rfl rfl ?_
  refine V_aload_n hX (j := 0) (hj := rfl) 2 4 rfl rfl ?_
  refine V_iload_n hX (j := 1) (hj := rfl) 3 5 rfl rfl ?_
  refine V_iload_n hX (j := 2) (hj := rfl) 4 6 rfl rfl ?_
  refine V_iload_n hX (j := 3) (hj := rfl) 5 7 rfl rfl ?_
  refine V_cat hX [((0, 12, 15, 13), 0, 1)] rfl (VR_V hX 6 (ct_SA_sumByTree (cx_t hX) K v1 v2 v3 M) my_SA_sumByTree mi_SA_sumByTree ms_SA_sumByTree ml_La_54 (Nat.le_of_ble_eq_true rfl) (Nat.le_of_ble_eq_true rfl) (by decide) (ent_0 K _) rfl rfl rfl (Nat.le_of_ble_eq_true rfl) rfl (Nat.le_of_ble_eq_true rfl) (Nat.le_of_ble_eq_true rfl)) (Nat.le_of_ble_eq_true rfl) (Nat.le_of_ble_eq_true rfl) (hk := List.forall_mem_cons.mpr ⟨ho_La_sumByTree_0, fun _ h => nomatch h⟩) (hcv := List.forall_mem_cons.mpr ⟨by decide, fun _ h => nomatch h⟩) ?_ (fun r M1 => ?_)
  · refine List.forall_mem_cons.mpr ⟨fun a M1 => ?_, ?_⟩
    · refine V_astore hX 10 17 [(5, .ref a), (0, .ref (kA K 0)), (1, .int v1), (2, .int v2), (3, .int v3), (4, .ref (kA K 45))] rfl rfl (Nat.le_of_ble_eq_true rfl) rfl ?_
      refine V_iconst hX (v := 1) (hv := by decide) 11 18 rfl rfl ?_
      exact V_iret hX 12 rfl (Nat.le_of_ble_eq_true rfl) (Nat.le_of_ble_eq_true rfl) rfl
    exact fun _ h => nomatch h
  · refine V_i2l hX 7 11 rfl rfl ?_
    refine V_last hX 8 12 (v := r) rfl rfl (fun M2 hM2 => ?_)
    refine V_goto hX 9 19 rfl (by decide) ?_
    refine V_iconst hX (v := 0) (hv := by decide) 13 20 rfl rfl ?_
    exact V_iret hX 14 rfl (Nat.le_of_ble_eq_true rfl) (Nat.le_of_ble_eq_true rfl) rfl
def y_La_minimum : MethodName := ⟨"SeriesArchiveLaw", "minimum", "(LSeriesArchive;III[J)I"⟩
noncomputable def L_La_minimum : zz_L := [(0, .aload 4, 2), (2, .iconst 0, 1), (3, .aload_n 0, 1), (4, .iload_n 1, 1), (5, .iload_n 2, 1), (6, .iload_n 3, 1), (7, .invokevirtual 57, 3), (10, .i2l, 1), (11, .lastore, 1), (12, .goto 7, 3), (15, .astore 5, 2), (17, .iconst 1, 1), (18, .ireturn, 1), (19, .iconst 0, 1), (20, .ireturn, 1)]
theorem dec_La_minimum : zz_decAll method_16_code L_La_minimum = true := by decide +kernel
theorem ho_La_minimum_0 : HOk "SeriesArchiveLaw" ((0, 12, 15, 13), 0, 1) := ⟨by decide, by decide, cl_La_13, ca_0⟩
theorem myw_La_minimum : MYW y_La_minimum method_16_code 6 (some .int) [(0, 12, 15, 13)] 5 := ⟨zz_c4 59 (by decide +kernel) rfl, zz_c1 0 (by decide +kernel) rfl, by decide +kernel, by decide +kernel, by decide +kernel⟩
theorem mt_La_minimum : Cond.static y_La_minimum ∈ zz_good := zz_c4 58 (by decide +kernel) rfl
set_option maxRecDepth 20000 in
theorem ct_La_minimum {l : Launch} (hl : l.stackTraces = false) (K : KT) (v1 : Int32) (v2 : Int32) (v3 : Int32) (M : Mm) : CTp l K y_La_minimum (Cond.codeWith y_La_minimum method_16_code 6 (some .int) [(0, 12, 15, 13)]) rvI 12 2 12 [.ref (kA K 0), .int v1, .int v2, .int v3, .ref (kA K 45)] M (fn_La_minimum v1 v2 v3 M) := by
  refine CTp_ofH (L := L_La_minimum) (lc := [(0, .ref (kA K 0)), (1, .int v1), (2, .int v2), (3, .int v3), (4, .ref (kA K 45))]) (by decide +kernel) dec_La_minimum hl rfl (Nat.le_of_ble_eq_true rfl) (fun X hX => ?_)
  unfold fn_La_minimum
  refine V_aload hX (j := 4) (hj := rfl) 0 2 rfl rfl ?_
  refine V_iconst hX (v := 0) (hv := by decide) 1 3 rfl rfl ?_
  refine V_aload_n hX (j := 0) (hj := rfl) 2 4 rfl rfl ?_
  refine V_iload_n hX (j := 1) (hj := rfl) 3 5 rfl rfl ?_
  refine V_iload_n hX (j := 2) (hj := rfl) 4 6 rfl rfl ?_
  refine V_iload_n hX (j := 3) (hj := rfl) 5 7 rfl rfl ?_
  refine V_cat hX [((0, 12, 15, 13), 0, 1)] rfl (VR_V hX 6 (ct_SA_minimum (cx_t hX) K v1 v2 v3 M) my_SA_minimum mi_SA_minimum ms_SA_minimum ml_La_57 (Nat.le_of_ble_eq_true rfl) (Nat.le_of_ble_eq_true rfl) (by decide) (ent_0 K _) rfl rfl rfl (Nat.le_of_ble_eq_true rfl) rfl (Nat.le_of_ble_eq_true rfl) (Nat.le_of_ble_eq_true rfl)) (Nat.le_of_ble_eq_true rfl) (Nat.le_of_ble_eq_true rfl) (hk := List.forall_mem_cons.mpr ⟨ho_La_minimum_0, fun _ h => nomatch h⟩) (hcv := List.forall_mem_cons.mpr ⟨by decide, fun _ h => nomatch h⟩) ?_ (fun r M1 => ?_)
  · refine List.forall_mem_cons.mpr ⟨fun a M1 => ?_, ?_⟩
    · refine V_astore hX 10 17 [(5, .ref a), (0, .ref (kA K 0)), (1, .int v1), (2, .int v2), (3, .int v3), (4, .ref (kA K 45))] rfl rfl (Nat.le_of_ble_eq_true rfl) rfl ?_
      refine V_iconst hX (v := 1) (hv := by decide) 11 18 rfl rfl ?_
      exact V_iret hX 12 rfl (Nat.le_of_ble_eq_true rfl) (Nat.le_of_ble_eq_true rfl) rfl
    exact fun _ h => nomatch h
  · refine V_i2l hX 7 11 rfl rfl ?_
    refine V_last hX 8 12 (v := r) rfl rfl (fun M2 hM2 => ?_)
    refine V_goto hX 9 19 rfl (by decide) ?_
    refine V_iconst hX (v := 0) (hv := by decide) 13 20 rfl rfl ?_
    exact V_iret hX 14 rfl (Nat.le_of_ble_eq_true rfl) (Nat.le_of_ble_eq_true rfl) rfl
def y_La_maximum : MethodName := ⟨"SeriesArchiveLaw", "maximum", "(LSeriesArchive;III[J)I"⟩
noncomputable def L_La_maximum : zz_L := [(0, .aload 4, 2), (2, .iconst 0, 1), (3, .aload_n 0, 1), (4, .iload_n 1, 1), (5, .iload_n 2, 1), (6, .iload_n 3, 1), (7, .invokevirtual 60, 3), (10, .i2l, 1), (11, .lastore, 1), (12, .goto 7, 3), (15, .astore 5, 2), (17, .iconst 1, 1), (18, .ireturn, 1), (19, .iconst 0, 1), (20, .ireturn, 1)]
theorem dec_La_maximum : zz_decAll method_17_code L_La_maximum = true := by decide +kernel
theorem ho_La_maximum_0 : HOk "SeriesArchiveLaw" ((0, 12, 15, 13), 0, 1) := ⟨by decide, by decide, cl_La_13, ca_0⟩
theorem myw_La_maximum : MYW y_La_maximum method_17_code 6 (some .int) [(0, 12, 15, 13)] 5 := ⟨zz_c4 70 (by decide +kernel) rfl, zz_c1 0 (by decide +kernel) rfl, by decide +kernel, by decide +kernel, by decide +kernel⟩
theorem mt_La_maximum : Cond.static y_La_maximum ∈ zz_good := zz_c4 69 (by decide +kernel) rfl
set_option maxRecDepth 20000 in
theorem ct_La_maximum {l : Launch} (hl : l.stackTraces = false) (K : KT) (v1 : Int32) (v2 : Int32) (v3 : Int32) (M : Mm) : CTp l K y_La_maximum (Cond.codeWith y_La_maximum method_17_code 6 (some .int) [(0, 12, 15, 13)]) rvI 12 2 12 [.ref (kA K 0), .int v1, .int v2, .int v3, .ref (kA K 45)] M (fn_La_maximum v1 v2 v3 M) := by
  refine CTp_ofH (L := L_La_maximum) (lc := [(0, .ref (kA K 0)), (1, .int v1), (2, .int v2), (3, .int v3), (4, .ref (kA K 45))]) (by decide +kernel) dec_La_maximum hl rfl (Nat.le_of_ble_eq_true rfl) (fun X hX => ?_)
  unfold fn_La_maximum
  refine V_aload hX (j := 4) (hj := rfl) 0 2 rfl rfl ?_
  refine V_iconst hX (v := 0) (hv := by decide) 1 3 rfl rfl ?_
  refine V_aload_n hX (j := 0) (hj := rfl) 2 4 rfl rfl ?_
  refine V_iload_n hX (j := 1) (hj := rfl) 3 5 rfl rfl ?_
  refine V_iload_n hX (j := 2) (hj := rfl) 4 6 rfl rfl ?_
  refine V_iload_n hX (j := 3) (hj := rfl) 5 7 rfl rfl ?_
  refine V_cat hX [((0, 12, 15, 13), 0, 1)] rfl (VR_V hX 6 (ct_SA_maximum (cx_t hX) K v1 v2 v3 M) my_SA_maximum mi_SA_maximum ms_SA_maximum ml_La_60 (Nat.le_of_ble_eq_true rfl) (Nat.le_of_ble_eq_true rfl) (by decide) (ent_0 K _) rfl rfl rfl (Nat.le_of_ble_eq_true rfl) rfl (Nat.le_of_ble_eq_true rfl) (Nat.le_of_ble_eq_true rfl)) (Nat.le_of_ble_eq_true rfl) (Nat.le_of_ble_eq_true rfl) (hk := List.forall_mem_cons.mpr ⟨ho_La_maximum_0, fun _ h => nomatch h⟩) (hcv := List.forall_mem_cons.mpr ⟨by decide, fun _ h => nomatch h⟩) ?_ (fun r M1 => ?_)
  · refine List.forall_mem_cons.mpr ⟨fun a M1 => ?_, ?_⟩
    · refine V_astore hX 10 17 [(5, .ref a), (0, .ref (kA K 0)), (1, .int v1), (2, .int v2), (3, .int v3), (4, .ref (kA K 45))] rfl rfl (Nat.le_of_ble_eq_true rfl) rfl ?_
      refine V_iconst hX (v := 1) (hv := by decide) 11 18 rfl rfl ?_
      exact V_iret hX 12 rfl (Nat.le_of_ble_eq_true rfl) (Nat.le_of_ble_eq_true rfl) rfl
    exact fun _ h => nomatch h
  · refine V_i2l hX 7 11 rfl rfl ?_
    refine V_last hX 8 12 (v := r) rfl rfl (fun M2 hM2 => ?_)
    refine V_goto hX 9 19 rfl (by decide) ?_
    refine V_iconst hX (v := 0) (hv := by decide) 13 20 rfl rfl ?_
    exact V_iret hX 14 rfl (Nat.le_of_ble_eq_true rfl) (Nat.le_of_ble_eq_true rfl) rfl
def y_La_countAbove : MethodName := ⟨"SeriesArchiveLaw", "countAbove", "(LSeriesArchive;II[J)I"⟩
noncomputable def L_La_countAbove : zz_L := [(0, .aload_n 3, 1), (1, .iconst 0, 1), (2, .aload_n 0, 1), (3, .iload_n 1, 1), (4, .iload_n 2, 1), (5, .invokevirtual 63, 3), (8, .i2l, 1), (9, .lastore, 1), (10, .goto 7, 3), (13, .astore 4, 2), (15, .iconst 1, 1), (16, .ireturn, 1), (17, .iconst 0, 1), (18, .ireturn, 1)]
theorem dec_La_countAbove : zz_decAll method_18_code L_La_countAbove = true := by decide +kernel
theorem ho_La_countAbove_0 : HOk "SeriesArchiveLaw" ((0, 10, 13, 13), 0, 1) := ⟨by decide, by decide, cl_La_13, ca_0⟩
theorem myw_La_countAbove : MYW y_La_countAbove method_18_code 5 (some .int) [(0, 10, 13, 13)] 4 := ⟨zz_c4 81 (by decide +kernel) rfl, zz_c1 0 (by decide +kernel) rfl, by decide +kernel, by decide +kernel, by decide +kernel⟩
theorem mt_La_countAbove : Cond.static y_La_countAbove ∈ zz_good := zz_c4 80 (by decide +kernel) rfl
set_option maxRecDepth 20000 in
theorem ct_La_countAbove {l : Launch} (hl : l.stackTraces = false) (K : KT) (v1 : Int32) (v2 : Int32) (M : Mm) : CTp l K y_La_countAbove (Cond.codeWith y_La_countAbove method_18_code 5 (some .int) [(0, 10, 13, 13)]) rvI 11 1 6 [.ref (kA K 0), .int v1, .int v2, .ref (kA K 45)] M (fn_La_countAbove v1 v2 M) := by
  refine CTp_ofH (L := L_La_countAbove) (lc := [(0, .ref (kA K 0)), (1, .int v1), (2, .int v2), (3, .ref (kA K 45))]) (by decide +kernel) dec_La_countAbove hl rfl (Nat.le_of_ble_eq_true rfl) (fun X hX => ?_)
  unfold fn_La_countAbove
  refine V_aload_n hX (j := 3) (hj := rfl) 0 1 rfl rfl ?_
  refine V_iconst hX (v := 0) (hv := by decide) 1 2 rfl rfl ?_
  refine V_aload_n hX (j := 0) (hj := rfl) 2 3 rfl rfl ?_
  refine V_iload_n hX (j := 1) (hj := rfl) 3 4 rfl rfl ?_
  refine V_iload_n hX (j := 2) (hj := rfl) 4 5 rfl rfl ?_
  refine V_cat hX [((0, 10, 13, 13), 0, 1)] rfl (VR_V hX 5 (ct_SA_countAbove (cx_t hX) K v1 v2 M) my_SA_countAbove mi_SA_countAbove ms_SA_countAbove ml_La_63 (Nat.le_of_ble_eq_true rfl) (Nat.le_of_ble_eq_true rfl) (by decide) (ent_0 K _) rfl rfl rfl (Nat.le_of_ble_eq_true rfl) rfl (Nat.le_of_ble_eq_true rfl) (Nat.le_of_ble_eq_true rfl)) (Nat.le_of_ble_eq_true rfl) (Nat.le_of_ble_eq_true rfl) (hk := List.forall_mem_cons.mpr ⟨ho_La_countAbove_0, fun _ h => nomatch h⟩) (hcv := List.forall_mem_cons.mpr ⟨by decide, fun _ h => nomatch h⟩) ?_ (fun r M1 => ?_)
  · refine List.forall_mem_cons.mpr ⟨fun a M1 => ?_, ?_⟩
    · refine V_astore hX 9 15 [(4, .ref a), (0, .ref (kA K 0)), (1, .int v1), (2, .int v2), (3, .ref (kA K 45))] rfl rfl (Nat.le_of_ble_eq_true rfl) rfl ?_
      refine V_iconst hX (v := 1) (hv := by decide) 10 16 rfl rfl ?_
      exact V_iret hX 11 rfl (Nat.le_of_ble_eq_true rfl) (Nat.le_of_ble_eq_true rfl) rfl
    exact fun _ h => nomatch h
  · refine V_i2l hX 6 9 rfl rfl ?_
    refine V_last hX 7 10 (v := r) rfl rfl (fun M2 hM2 => ?_)
    refine V_goto hX 8 17 rfl (by decide) ?_
    refine V_iconst hX (v := 0) (hv := by decide) 12 18 rfl rfl ?_
    exact V_iret hX 13 rfl (Nat.le_of_ble_eq_true rfl) (Nat.le_of_ble_eq_true rfl) rfl
def y_La_valueByRank : MethodName := ⟨"SeriesArchiveLaw", "valueByRank", "(LSeriesArchive;II[J)I"⟩
noncomputable def L_La_valueByRank : zz_L := [(0, .aload_n 3, 1), (1, .iconst 0, 1), (2, .aload_n 0, 1), (3, .iload_n 1, 1), (4, .iload_n 2, 1), (5, .invokevirtual 66, 3), (8, .i2l, 1), (9, .lastore, 1), (10, .goto 11, 3), (13, .astore 4, 2), (15, .iconst 1, 1), (16, .ireturn, 1), (17, .astore 4, 2), (19, .iconst 2, 1), (20, .ireturn, 1), (21, .iconst 0, 1), (22, .ireturn, 1)]
theorem dec_La_valueByRank : zz_decAll method_19_code L_La_valueByRank = true := by decide +kernel
theorem ho_La_valueByRank_0 : HOk "SeriesArchiveLaw" ((0, 10, 13, 13), 0, 1) := ⟨by decide, by decide, cl_La_13, ca_0⟩
theorem ho_La_valueByRank_1 : HOk "SeriesArchiveLaw" ((0, 10, 17, 69), 3, 2) := ⟨by decide, by decide, cl_La_69, ca_3⟩
theorem myw_La_valueByRank : MYW y_La_valueByRank method_19_code 5 (some .int) [(0, 10, 13, 13), (0, 10, 17, 69)] 4 := ⟨zz_c4 92 (by decide +kernel) rfl, zz_c1 0 (by decide +kernel) rfl, by decide +kernel, by decide +kernel, by decide +kernel⟩
theorem mt_La_valueByRank : Cond.static y_La_valueByRank ∈ zz_good := zz_c4 91 (by decide +kernel) rfl
set_option maxRecDepth 20000 in
theorem ct_La_valueByRank {l : Launch} (hl : l.stackTraces = false) (K : KT) (v1 : Int32) (v2 : Int32) (M : Mm) : CTp l K y_La_valueByRank (Cond.codeWith y_La_valueByRank method_19_code 5 (some .int) [(0, 10, 13, 13), (0, 10, 17, 69)]) rvI 11 2 12 [.ref (kA K 0), .int v1, .int v2, .ref (kA K 45)] M (fn_La_valueByRank v1 v2 M) := by
  refine CTp_ofH (L := L_La_valueByRank) (lc := [(0, .ref (kA K 0)), (1, .int v1), (2, .int v2), (3, .ref (kA K 45))]) (by decide +kernel) dec_La_valueByRank hl rfl (Nat.le_of_ble_eq_true rfl) (fun X hX => ?_)
  unfold fn_La_valueByRank
  refine V_aload_n hX (j := 3) (hj := rfl) 0 1 rfl rfl ?_
  refine V_iconst hX (v := 0) (hv := by decide) 1 2 rfl rfl ?_
  refine V_aload_n hX (j := 0) (hj := rfl) 2 3 rfl rfl ?_
  refine V_iload_n hX (j := 1) (hj := rfl) 3 4 rfl rfl ?_
  refine V_iload_n hX (j := 2) (hj := rfl) 4 5 rfl rfl ?_
  refine V_cat hX [((0, 10, 13, 13), 0, 1), ((0, 10, 17, 69), 3, 2)] rfl (VR_V hX 5 (ct_SA_valueByRank (cx_t hX) K v1 v2 M) my_SA_valueByRank mi_SA_valueByRank ms_SA_valueByRank ml_La_66 (Nat.le_of_ble_eq_true rfl) (Nat.le_of_ble_eq_true rfl) (by decide) (ent_0 K _) rfl rfl rfl (Nat.le_of_ble_eq_true rfl) rfl (Nat.le_of_ble_eq_true rfl) (Nat.le_of_ble_eq_true rfl)) (Nat.le_of_ble_eq_true rfl) (Nat.le_of_ble_eq_true rfl) (hk := List.forall_mem_cons.mpr ⟨ho_La_valueByRank_0, List.forall_mem_cons.mpr ⟨ho_La_valueByRank_1, fun _ h => nomatch h⟩⟩) (hcv := List.forall_mem_cons.mpr ⟨by decide, List.forall_mem_cons.mpr ⟨by decide, fun _ h => nomatch h⟩⟩) ?_ (fun r M1 => ?_)
  · refine List.forall_mem_cons.mpr ⟨fun a M1 => ?_, ?_⟩
    · refine V_astore hX 9 15 [(4, .ref a), (0, .ref (kA K 0)), (1, .int v1), (2, .int v2), (3, .ref (kA K 45))] rfl rfl (Nat.le_of_ble_eq_true rfl) rfl ?_
      refine V_iconst hX (v := 1) (hv := by decide) 10 16 rfl rfl ?_
      exact V_iret hX 11 rfl (Nat.le_of_ble_eq_true rfl) (Nat.le_of_ble_eq_true rfl) rfl
    refine List.forall_mem_cons.mpr ⟨fun a M1 => ?_, ?_⟩
    · refine V_astore hX 12 19 [(4, .ref a), (0, .ref (kA K 0)), (1, .int v1), (2, .int v2), (3, .ref (kA K 45))] rfl rfl (Nat.le_of_ble_eq_true rfl) rfl ?_
      refine V_iconst hX (v := 2) (hv := by decide) 13 20 rfl rfl ?_
      exact V_iret hX 14 rfl (Nat.le_of_ble_eq_true rfl) (Nat.le_of_ble_eq_true rfl) rfl
    exact fun _ h => nomatch h
  · refine V_i2l hX 6 9 rfl rfl ?_
    refine V_last hX 7 10 (v := r) rfl rfl (fun M2 hM2 => ?_)
    refine V_goto hX 8 21 rfl (by decide) ?_
    refine V_iconst hX (v := 0) (hv := by decide) 15 22 rfl rfl ?_
    exact V_iret hX 16 rfl (Nat.le_of_ble_eq_true rfl) (Nat.le_of_ble_eq_true rfl) rfl
def y_La_mean : MethodName := ⟨"SeriesArchiveLaw", "mean", "(LSeriesArchive;I[D)I"⟩
noncomputable def L_La_mean : zz_L := [(0, .aload_n 2, 1), (1, .iconst 0, 1), (2, .aload_n 0, 1), (3, .iload_n 1, 1), (4, .invokevirtual 71, 3), (7, .dastore, 1), (8, .goto 9, 3), (11, .astore_n 3, 1), (12, .iconst 1, 1), (13, .ireturn, 1), (14, .astore_n 3, 1), (15, .iconst 2, 1), (16, .ireturn, 1), (17, .iconst 0, 1), (18, .ireturn, 1)]
theorem dec_La_mean : zz_decAll method_20_code L_La_mean = true := by decide +kernel
theorem ho_La_mean_0 : HOk "SeriesArchiveLaw" ((0, 8, 11, 13), 0, 1) := ⟨by decide, by decide, cl_La_13, ca_0⟩
theorem ho_La_mean_1 : HOk "SeriesArchiveLaw" ((0, 8, 14, 75), 4, 2) := ⟨by decide, by decide, cl_La_75, ca_4⟩
theorem myw_La_mean : MYW y_La_mean method_20_code 4 (some .int) [(0, 8, 11, 13), (0, 8, 14, 75)] 3 := ⟨zz_c4 124 (by decide +kernel) rfl, zz_c1 0 (by decide +kernel) rfl, by decide +kernel, by decide +kernel, by decide +kernel⟩
theorem mt_La_mean : Cond.static y_La_mean ∈ zz_good := zz_c4 123 (by decide +kernel) rfl
set_option maxRecDepth 20000 in
theorem ct_La_mean {l : Launch} (hl : l.stackTraces = false) (K : KT) (v1 : Int32) (M : Mm) : CTp l K y_La_mean (Cond.codeWith y_La_mean method_20_code 4 (some .int) [(0, 8, 11, 13), (0, 8, 14, 75)]) rvI 11 2 12 [.ref (kA K 0), .int v1, .ref (kA K 46)] M (fn_La_mean v1 M) := by
  refine CTp_ofH (L := L_La_mean) (lc := [(0, .ref (kA K 0)), (1, .int v1), (2, .ref (kA K 46))]) (by decide +kernel) dec_La_mean hl rfl (Nat.le_of_ble_eq_true rfl) (fun X hX => ?_)
  unfold fn_La_mean
  refine V_aload_n hX (j := 2) (hj := rfl) 0 1 rfl rfl ?_
  refine V_iconst hX (v := 0) (hv := by decide) 1 2 rfl rfl ?_
  refine V_aload_n hX (j := 0) (hj := rfl) 2 3 rfl rfl ?_
  refine V_iload_n hX (j := 1) (hj := rfl) 3 4 rfl rfl ?_
  refine V_cat hX [((0, 8, 11, 13), 0, 1), ((0, 8, 14, 75), 4, 2)] rfl (VR_V hX 4 (ct_SA_mean (cx_t hX) K v1 M) my_SA_mean mi_SA_mean ms_SA_mean ml_La_71 (Nat.le_of_ble_eq_true rfl) (Nat.le_of_ble_eq_true rfl) (by decide) (ent_0 K _) rfl rfl rfl (Nat.le_of_ble_eq_true rfl) rfl (Nat.le_of_ble_eq_true rfl) (Nat.le_of_ble_eq_true rfl)) (Nat.le_of_ble_eq_true rfl) (Nat.le_of_ble_eq_true rfl) (hk := List.forall_mem_cons.mpr ⟨ho_La_mean_0, List.forall_mem_cons.mpr ⟨ho_La_mean_1, fun _ h => nomatch h⟩⟩) (hcv := List.forall_mem_cons.mpr ⟨by decide, List.forall_mem_cons.mpr ⟨by decide, fun _ h => nomatch h⟩⟩) ?_ (fun r M1 => ?_)
  · refine List.forall_mem_cons.mpr ⟨fun a M1 => ?_, ?_⟩
    · refine V_astore_n hX 7 12 [(3, .ref a), (0, .ref (kA K 0)), (1, .int v1), (2, .ref (kA K 46))] rfl rfl (Nat.le_of_ble_eq_true rfl) rfl ?_
      refine V_iconst hX (v := 1) (hv := by decide) 8 13 rfl rfl ?_
      exact V_iret hX 9 rfl (Nat.le_of_ble_eq_true rfl) (Nat.le_of_ble_eq_true rfl) rfl
    refine List.forall_mem_cons.mpr ⟨fun a M1 => ?_, ?_⟩
    · refine V_astore_n hX 10 15 [(3, .ref a), (0, .ref (kA K 0)), (1, .int v1), (2, .ref (kA K 46))] rfl rfl (Nat.le_of_ble_eq_true rfl) rfl ?_
      refine V_iconst hX (v := 2) (hv := by decide) 11 16 rfl rfl ?_
      exact V_iret hX 12 rfl (Nat.le_of_ble_eq_true rfl) (Nat.le_of_ble_eq_true rfl) rfl
    exact fun _ h => nomatch h
  · refine V_dast hX 5 8 rfl rfl (fun M2 hM2 => ?_)
    refine V_goto hX 6 17 rfl (by decide) ?_
    refine V_iconst hX (v := 0) (hv := by decide) 13 18 rfl rfl ?_
    exact V_iret hX 14 rfl (Nat.le_of_ble_eq_true rfl) (Nat.le_of_ble_eq_true rfl) rfl
def y_La_windowMaximum : MethodName := ⟨"SeriesArchiveLaw", "windowMaximum", "(LSeriesArchive;III[J)I"⟩
noncomputable def L_La_windowMaximum : zz_L := [(0, .aload 4, 2), (2, .iconst 0, 1), (3, .aload_n 0, 1), (4, .iload_n 1, 1), (5, .iload_n 2, 1), (6, .iload_n 3, 1), (7, .invokevirtual 77, 3), (10, .i2l, 1), (11, .lastore, 1), (12, .goto 15, 3), (15, .astore 5, 2), (17, .iconst 1, 1), (18, .ireturn, 1), (19, .astore 5, 2), (21, .iconst 2, 1), (22, .ireturn, 1), (23, .astore 5, 2), (25, .iconst 3, 1), (26, .ireturn, 1), (27, .iconst 0, 1), (28, .ireturn, 1)]
theorem dec_La_windowMaximum : zz_decAll method_21_code L_La_windowMaximum = true := by decide +kernel
theorem ho_La_windowMaximum_0 : HOk "SeriesArchiveLaw" ((0, 12, 15, 13), 0, 1) := ⟨by decide, by decide, cl_La_13, ca_0⟩
theorem ho_La_windowMaximum_1 : HOk "SeriesArchiveLaw" ((0, 12, 19, 15), 1, 2) := ⟨by decide, by decide, cl_La_15, ca_1⟩
theorem ho_La_windowMaximum_2 : HOk "SeriesArchiveLaw" ((0, 12, 23, 69), 3, 3) := ⟨by decide, by decide, cl_La_69, ca_3⟩
theorem myw_La_windowMaximum : MYW y_La_windowMaximum method_21_code 6 (some .int) [(0, 12, 15, 13), (0, 12, 19, 15), (0, 12, 23, 69)] 5 := ⟨zz_c4 149 (by decide +kernel) rfl, zz_c1 0 (by decide +kernel) rfl, by decide +kernel, by decide +kernel, by decide +kernel⟩
theorem mt_La_windowMaximum : Cond.static y_La_windowMaximum ∈ zz_good := zz_c4 148 (by decide +kernel) rfl
set_option maxRecDepth 20000 in
theorem ct_La_windowMaximum {l : Launch} (hl : l.stackTraces = false) (K : KT) (v1 : Int32) (v2 : Int32) (v3 : Int32) (M : Mm) : CTp l K y_La_windowMaximum (Cond.codeWith y_La_windowMaximum method_21_code 6 (some .int) [(0, 12, 15, 13), (0, 12, 19, 15), (0, 12, 23, 69)]) rvI 13 3 18 [.ref (kA K 0), .int v1, .int v2, .int v3, .ref (kA K 45)] M (fn_La_windowMaximum v1 v2 v3 M) := by
  refine CTp_ofH (L := L_La_windowMaximum) (lc := [(0, .ref (kA K 0)), (1, .int v1), (2, .int v2), (3, .int v3), (4, .ref (kA K 45))]) (by decide +kernel) dec_La_windowMaximum hl rfl (Nat.le_of_ble_eq_true rfl) (fun X hX => ?_)
  unfold fn_La_windowMaximum
  refine V_aload hX (j := 4) (hj := rfl) 0 2 rfl rfl ?_
  refine V_iconst hX (v := 0) (hv := by decide) 1 3 rfl rfl ?_
  refine V_aload_n hX (j := 0) (hj := rfl) 2 4 rfl rfl ?_
  refine V_iload_n hX (j := 1) (hj := rfl) 3 5 rfl rfl ?_
  refine V_iload_n hX (j := 2) (hj := rfl) 4 6 rfl rfl ?_
  refine V_iload_n hX (j := 3) (hj := rfl) 5 7 rfl rfl ?_
  refine V_cat hX [((0, 12, 15, 13), 0, 1), ((0, 12, 19, 15), 1, 2), ((0, 12, 23, 69), 3, 3)] rfl (VR_V hX 6 (ct_SA_windowMaximum (cx_t hX) K v1 v2 v3 M) my_SA_windowMaximum mi_SA_windowMaximum ms_SA_windowMaximum ml_La_77 (Nat.le_of_ble_eq_true rfl) (Nat.le_of_ble_eq_true rfl) (by decide) (ent_0 K _) rfl rfl rfl (Nat.le_of_ble_eq_true rfl) rfl (Nat.le_of_ble_eq_true rfl) (Nat.le_of_ble_eq_true rfl)) (Nat.le_of_ble_eq_true rfl) (Nat.le_of_ble_eq_true rfl) (hk := List.forall_mem_cons.mpr ⟨ho_La_windowMaximum_0, List.forall_mem_cons.mpr ⟨ho_La_windowMaximum_1, List.forall_mem_cons.mpr ⟨ho_La_windowMaximum_2, fun _ h => nomatch h⟩⟩⟩) (hcv := List.forall_mem_cons.mpr ⟨by decide, List.forall_mem_cons.mpr ⟨by decide, List.forall_mem_cons.mpr ⟨by decide, fun _ h => nomatch h⟩⟩⟩) ?_ (fun r M1 => ?_)
  · refine List.forall_mem_cons.mpr ⟨fun a M1 => ?_, ?_⟩
    · refine V_astore hX 10 17 [(5, .ref a), (0, .ref (kA K 0)), (1, .int v1), (2, .int v2), (3, .int v3), (4, .ref (kA K 45))] rfl rfl (Nat.le_of_ble_eq_true rfl) rfl ?_
      refine V_iconst hX (v := 1) (hv := by decide) 11 18 rfl rfl ?_
      exact V_iret hX 12 rfl (Nat.le_of_ble_eq_true rfl) (Nat.le_of_ble_eq_true rfl) rfl
    refine List.forall_mem_cons.mpr ⟨fun a M1 => ?_, ?_⟩
    · refine V_astore hX 13 21 [(5, .ref a), (0, .ref (kA K 0)), (1, .int v1), (2, .int v2), (3, .int v3), (4, .ref (kA K 45))] rfl rfl (Nat.le_of_ble_eq_true rfl) rfl ?_
      refine V_iconst hX (v := 2) (hv := by decide) 14 22 rfl rfl ?_
      exact V_iret hX 15 rfl (Nat.le_of_ble_eq_true rfl) (Nat.le_of_ble_eq_true rfl) rfl
    refine List.forall_mem_cons.mpr ⟨fun a M1 => ?_, ?_⟩
    · refine V_astore hX 16 25 [(5, .ref a), (0, .ref (kA K 0)), (1, .int v1), (2, .int v2), (3, .int v3), (4, .ref (kA K 45))] rfl rfl (Nat.le_of_ble_eq_true rfl) rfl ?_
      refine V_iconst hX (v := 3) (hv := by decide) 17 26 rfl rfl ?_
      exact V_iret hX 18 rfl (Nat.le_of_ble_eq_true rfl) (Nat.le_of_ble_eq_true rfl) rfl
    exact fun _ h => nomatch h
  · refine V_i2l hX 7 11 rfl rfl ?_
    refine V_last hX 8 12 (v := r) rfl rfl (fun M2 hM2 => ?_)
    refine V_goto hX 9 27 rfl (by decide) ?_
    refine V_iconst hX (v := 0) (hv := by decide) 19 28 rfl rfl ?_
    exact V_iret hX 20 rfl (Nat.le_of_ble_eq_true rfl) (Nat.le_of_ble_eq_true rfl) rfl
def y_La_windowMaximumByScan : MethodName := ⟨"SeriesArchiveLaw", "windowMaximumByScan", "(LSeriesArchive;III[J)I"⟩
noncomputable def L_La_windowMaximumByScan : zz_L := [(0, .aload 4, 2), (2, .iconst 0, 1), (3, .aload_n 0, 1), (4, .iload_n 1, 1), (5, .iload_n 2, 1), (6, .iload_n 3, 1), (7, .invokevirtual 80, 3), (10, .i2l, 1), (11, .lastore, 1), (12, .goto 15, 3), (15, .astore 5, 2), (17, .iconst 1, 1), (18, .ireturn, 1), (19, .astore 5, 2), (21, .iconst 2, 1), (22, .ireturn, 1), (23, .astore 5, 2), (25, .iconst 3, 1), (26, .ireturn, 1), (27, .iconst 0, 1), (28, .ireturn, 1)]
theorem dec_La_windowMaximumByScan : zz_decAll method_22_code L_La_windowMaximumByScan = true := by decide +kernel
theorem ho_La_windowMaximumByScan_0 : HOk "SeriesArchiveLaw" ((0, 12, 15, 13), 0, 1) := ⟨by decide, by decide, cl_La_13, ca_0⟩
theorem ho_La_windowMaximumByScan_1 : HOk "SeriesArchiveLaw" ((0, 12, 19, 15), 1, 2) := ⟨by decide, by decide, cl_La_15, ca_1⟩
theorem ho_La_windowMaximumByScan_2 : HOk "SeriesArchiveLaw" ((0, 12, 23, 69), 3, 3) := ⟨by decide, by decide, cl_La_69, ca_3⟩
theorem myw_La_windowMaximumByScan : MYW y_La_windowMaximumByScan method_22_code 6 (some .int) [(0, 12, 15, 13), (0, 12, 19, 15), (0, 12, 23, 69)] 5 := ⟨zz_c4 166 (by decide +kernel) rfl, zz_c1 0 (by decide +kernel) rfl, by decide +kernel, by decide +kernel, by decide +kernel⟩
theorem mt_La_windowMaximumByScan : Cond.static y_La_windowMaximumByScan ∈ zz_good := zz_c4 165 (by decide +kernel) rfl
set_option maxRecDepth 20000 in
theorem ct_La_windowMaximumByScan {l : Launch} (hl : l.stackTraces = false) (K : KT) (v1 : Int32) (v2 : Int32) (v3 : Int32) (M : Mm) : CTp l K y_La_windowMaximumByScan (Cond.codeWith y_La_windowMaximumByScan method_22_code 6 (some .int) [(0, 12, 15, 13), (0, 12, 19, 15), (0, 12, 23, 69)]) rvI 13 3 18 [.ref (kA K 0), .int v1, .int v2, .int v3, .ref (kA K 45)] M (fn_La_windowMaximumByScan v1 v2 v3 M) := by
  refine CTp_ofH (L := L_La_windowMaximumByScan) (lc := [(0, .ref (kA K 0)), (1, .int v1), (2, .int v2), (3, .int v3), (4, .ref (kA K 45))]) (by decide +kernel) dec_La_windowMaximumByScan hl rfl (Nat.le_of_ble_eq_true rfl) (fun X hX => ?_)
  unfold fn_La_windowMaximumByScan
  refine V_aload hX (j := 4) (hj := rfl) 0 2 rfl rfl ?_
  refine V_iconst hX (v := 0) (hv := by decide) 1 3 rfl rfl ?_
  refine V_aload_n hX (j := 0) (hj := rfl) 2 4 rfl rfl ?_
  refine V_iload_n hX (j := 1) (hj := rfl) 3 5 rfl rfl ?_
  refine V_iload_n hX (j := 2) (hj := rfl) 4 6 rfl rfl ?_
  refine V_iload_n hX (j := 3) (hj := rfl) 5 7 rfl rfl ?_
  refine V_cat hX [((0, 12, 15, 13), 0, 1), ((0, 12, 19, 15), 1, 2), ((0, 12, 23, 69), 3, 3)] rfl (VR_V hX 6 (ct_SA_windowMaximumByScan (cx_t hX) K v1 v2 v3 M) my_SA_windowMaximumByScan mi_SA_windowMaximumByScan ms_SA_windowMaximumByScan ml_La_80 (Nat.le_of_ble_eq_true rfl) (Nat.le_of_ble_eq_true rfl) (by decide) (ent_0 K _) rfl rfl rfl (Nat.le_of_ble_eq_true rfl) rfl (Nat.le_of_ble_eq_true rfl) (Nat.le_of_ble_eq_true rfl)) (Nat.le_of_ble_eq_true rfl) (Nat.le_of_ble_eq_true rfl) (hk := List.forall_mem_cons.mpr ⟨ho_La_windowMaximumByScan_0, List.forall_mem_cons.mpr ⟨ho_La_windowMaximumByScan_1, List.forall_mem_cons.mpr ⟨ho_La_windowMaximumByScan_2, fun _ h => nomatch h⟩⟩⟩) (hcv := List.forall_mem_cons.mpr ⟨by decide, List.forall_mem_cons.mpr ⟨by decide, List.forall_mem_cons.mpr ⟨by decide, fun _ h => nomatch h⟩⟩⟩) ?_ (fun r M1 => ?_)
  · refine List.forall_mem_cons.mpr ⟨fun a M1 => ?_, ?_⟩
    · refine V_astore hX 10 17 [(5, .ref a), (0, .ref (kA K 0)), (1, .int v1), (2, .int v2), (3, .int v3), (4, .ref (kA K 45))] rfl rfl (Nat.le_of_ble_eq_true rfl) rfl ?_
      refine V_iconst hX (v := 1) (hv := by decide) 11 18 rfl rfl ?_
      exact V_iret hX 12 rfl (Nat.le_of_ble_eq_true rfl) (Nat.le_of_ble_eq_true rfl) rfl
    refine List.forall_mem_cons.mpr ⟨fun a M1 => ?_, ?_⟩
    · refine V_astore hX 13 21 [(5, .ref a), (0, .ref (kA K 0)), (1, .int v1), (2, .int v2), (3, .int v3), (4, .ref (kA K 45))] rfl rfl (Nat.le_of_ble_eq_true rfl) rfl ?_
      refine V_iconst hX (v := 2) (hv := by decide) 14 22 rfl rfl ?_
      exact V_iret hX 15 rfl (Nat.le_of_ble_eq_true rfl) (Nat.le_of_ble_eq_true rfl) rfl
    refine List.forall_mem_cons.mpr ⟨fun a M1 => ?_, ?_⟩
    · refine V_astore hX 16 25 [(5, .ref a), (0, .ref (kA K 0)), (1, .int v1), (2, .int v2), (3, .int v3), (4, .ref (kA K 45))] rfl rfl (Nat.le_of_ble_eq_true rfl) rfl ?_
      refine V_iconst hX (v := 3) (hv := by decide) 17 26 rfl rfl ?_
      exact V_iret hX 18 rfl (Nat.le_of_ble_eq_true rfl) (Nat.le_of_ble_eq_true rfl) rfl
    exact fun _ h => nomatch h
  · refine V_i2l hX 7 11 rfl rfl ?_
    refine V_last hX 8 12 (v := r) rfl rfl (fun M2 hM2 => ?_)
    refine V_goto hX 9 27 rfl (by decide) ?_
    refine V_iconst hX (v := 0) (hv := by decide) 19 28 rfl rfl ?_
    exact V_iret hX 20 rfl (Nat.le_of_ble_eq_true rfl) (Nat.le_of_ble_eq_true rfl) rfl
def y_La_nextGreater : MethodName := ⟨"SeriesArchiveLaw", "nextGreater", "(LSeriesArchive;II[J)I"⟩
noncomputable def L_La_nextGreater : zz_L := [(0, .aload_n 3, 1), (1, .iconst 0, 1), (2, .aload_n 0, 1), (3, .iload_n 1, 1), (4, .iload_n 2, 1), (5, .invokevirtual 83, 3), (8, .i2l, 1), (9, .lastore, 1), (10, .goto 11, 3), (13, .astore 4, 2), (15, .iconst 1, 1), (16, .ireturn, 1), (17, .astore 4, 2), (19, .iconst 2, 1), (20, .ireturn, 1), (21, .iconst 0, 1), (22, .ireturn, 1)]
theorem dec_La_nextGreater : zz_decAll method_23_code L_La_nextGreater = true := by decide +kernel
theorem ho_La_nextGreater_0 : HOk "SeriesArchiveLaw" ((0, 10, 13, 13), 0, 1) := ⟨by decide, by decide, cl_La_13, ca_0⟩
theorem ho_La_nextGreater_1 : HOk "SeriesArchiveLaw" ((0, 10, 17, 69), 3, 2) := ⟨by decide, by decide, cl_La_69, ca_3⟩
theorem myw_La_nextGreater : MYW y_La_nextGreater method_23_code 5 (some .int) [(0, 10, 13, 13), (0, 10, 17, 69)] 4 := ⟨zz_c4 173 (by decide +kernel) rfl, zz_c1 0 (by decide +kernel) rfl, by decide +kernel, by decide +kernel, by decide +kernel⟩
theorem mt_La_nextGreater : Cond.static y_La_nextGreater ∈ zz_good := zz_c4 172 (by decide +kernel) rfl
set_option maxRecDepth 20000 in
theorem ct_La_nextGreater {l : Launch} (hl : l.stackTraces = false) (K : KT) (v1 : Int32) (v2 : Int32) (M : Mm) : CTp l K y_La_nextGreater (Cond.codeWith y_La_nextGreater method_23_code 5 (some .int) [(0, 10, 13, 13), (0, 10, 17, 69)]) rvI 12 3 18 [.ref (kA K 0), .int v1, .int v2, .ref (kA K 45)] M (fn_La_nextGreater v1 v2 M) := by
  refine CTp_ofH (L := L_La_nextGreater) (lc := [(0, .ref (kA K 0)), (1, .int v1), (2, .int v2), (3, .ref (kA K 45))]) (by decide +kernel) dec_La_nextGreater hl rfl (Nat.le_of_ble_eq_true rfl) (fun X hX => ?_)
  unfold fn_La_nextGreater
  refine V_aload_n hX (j := 3) (hj := rfl) 0 1 rfl rfl ?_
  refine V_iconst hX (v := 0) (hv := by decide) 1 2 rfl rfl ?_
  refine V_aload_n hX (j := 0) (hj := rfl) 2 3 rfl rfl ?_
  refine V_iload_n hX (j := 1) (hj := rfl) 3 4 rfl rfl ?_
  refine V_iload_n hX (j := 2) (hj := rfl) 4 5 rfl rfl ?_
  refine V_cat hX [((0, 10, 13, 13), 0, 1), ((0, 10, 17, 69), 3, 2)] rfl (VR_V hX 5 (ct_SA_nextGreater (cx_t hX) K v1 v2 M) my_SA_nextGreater mi_SA_nextGreater ms_SA_nextGreater ml_La_83 (Nat.le_of_ble_eq_true rfl) (Nat.le_of_ble_eq_true rfl) (by decide) (ent_0 K _) rfl rfl rfl (Nat.le_of_ble_eq_true rfl) rfl (Nat.le_of_ble_eq_true rfl) (Nat.le_of_ble_eq_true rfl)) (Nat.le_of_ble_eq_true rfl) (Nat.le_of_ble_eq_true rfl) (hk := List.forall_mem_cons.mpr ⟨ho_La_nextGreater_0, List.forall_mem_cons.mpr ⟨ho_La_nextGreater_1, fun _ h => nomatch h⟩⟩) (hcv := List.forall_mem_cons.mpr ⟨by decide, List.forall_mem_cons.mpr ⟨by decide, fun _ h => nomatch h⟩⟩) ?_ (fun r M1 => ?_)
  · refine List.forall_mem_cons.mpr ⟨fun a M1 => ?_, ?_⟩
    · refine V_astore hX 9 15 [(4, .ref a), (0, .ref (kA K 0)), (1, .int v1), (2, .int v2), (3, .ref (kA K 45))] rfl rfl (Nat.le_of_ble_eq_true rfl) rfl ?_
      refine V_iconst hX (v := 1) (hv := by decide) 10 16 rfl rfl ?_
      exact V_iret hX 11 rfl (Nat.le_of_ble_eq_true rfl) (Nat.le_of_ble_eq_true rfl) rfl
    refine List.forall_mem_cons.mpr ⟨fun a M1 => ?_, ?_⟩
    · refine V_astore hX 12 19 [(4, .ref a), (0, .ref (kA K 0)), (1, .int v1), (2, .int v2), (3, .ref (kA K 45))] rfl rfl (Nat.le_of_ble_eq_true rfl) rfl ?_
      refine V_iconst hX (v := 2) (hv := by decide) 13 20 rfl rfl ?_
      exact V_iret hX 14 rfl (Nat.le_of_ble_eq_true rfl) (Nat.le_of_ble_eq_true rfl) rfl
    exact fun _ h => nomatch h
  · refine V_i2l hX 6 9 rfl rfl ?_
    refine V_last hX 7 10 (v := r) rfl rfl (fun M2 hM2 => ?_)
    refine V_goto hX 8 21 rfl (by decide) ?_
    refine V_iconst hX (v := 0) (hv := by decide) 15 22 rfl rfl ?_
    exact V_iret hX 16 rfl (Nat.le_of_ble_eq_true rfl) (Nat.le_of_ble_eq_true rfl) rfl
def y_La_nextGreaterByScan : MethodName := ⟨"SeriesArchiveLaw", "nextGreaterByScan", "(LSeriesArchive;II[J)I"⟩
noncomputable def L_La_nextGreaterByScan : zz_L := [(0, .aload_n 3, 1), (1, .iconst 0, 1), (2, .aload_n 0, 1), (3, .iload_n 1, 1), (4, .iload_n 2, 1), (5, .invokevirtual 86, 3), (8, .i2l, 1), (9, .lastore, 1), (10, .goto 11, 3), (13, .astore 4, 2), (15, .iconst 1, 1), (16, .ireturn, 1), (17, .astore 4, 2), (19, .iconst 2, 1), (20, .ireturn, 1), (21, .iconst 0, 1), (22, .ireturn, 1)]
theorem dec_La_nextGreaterByScan : zz_decAll method_24_code L_La_nextGreaterByScan = true := by decide +kernel
theorem ho_La_nextGreaterByScan_0 : HOk "SeriesArchiveLaw" ((0, 10, 13, 13), 0, 1) := ⟨by decide, by decide, cl_La_13, ca_0⟩
theorem ho_La_nextGreaterByScan_1 : HOk "SeriesArchiveLaw" ((0, 10, 17, 69), 3, 2) := ⟨by decide, by decide, cl_La_69, ca_3⟩
theorem myw_La_nextGreaterByScan : MYW y_La_nextGreaterByScan method_24_code 5 (some .int) [(0, 10, 13, 13), (0, 10, 17, 69)] 4 := ⟨zz_c4 185 (by decide +kernel) rfl, zz_c1 0 (by decide +kernel) rfl, by decide +kernel, by decide +kernel, by decide +kernel⟩
theorem mt_La_nextGreaterByScan : Cond.static y_La_nextGreaterByScan ∈ zz_good := zz_c4 184 (by decide +kernel) rfl
set_option maxRecDepth 20000 in
theorem ct_La_nextGreaterByScan {l : Launch} (hl : l.stackTraces = false) (K : KT) (v1 : Int32) (v2 : Int32) (M : Mm) : CTp l K y_La_nextGreaterByScan (Cond.codeWith y_La_nextGreaterByScan method_24_code 5 (some .int) [(0, 10, 13, 13), (0, 10, 17, 69)]) rvI 12 3 18 [.ref (kA K 0), .int v1, .int v2, .ref (kA K 45)] M (fn_La_nextGreaterByScan v1 v2 M) := by
  refine CTp_ofH (L := L_La_nextGreaterByScan) (lc := [(0, .ref (kA K 0)), (1, .int v1), (2, .int v2), (3, .ref (kA K 45))]) (by decide +kernel) dec_La_nextGreaterByScan hl rfl (Nat.le_of_ble_eq_true rfl) (fun X hX => ?_)
  unfold fn_La_nextGreaterByScan
  refine V_aload_n hX (j := 3) (hj := rfl) 0 1 rfl rfl ?_
  refine V_iconst hX (v := 0) (hv := by decide) 1 2 rfl rfl ?_
  refine V_aload_n hX (j := 0) (hj := rfl) 2 3 rfl rfl ?_
  refine V_iload_n hX (j := 1) (hj := rfl) 3 4 rfl rfl ?_
  refine V_iload_n hX (j := 2) (hj := rfl) 4 5 rfl rfl ?_
  refine V_cat hX [((0, 10, 13, 13), 0, 1), ((0, 10, 17, 69), 3, 2)] rfl (VR_V hX 5 (ct_SA_nextGreaterByScan (cx_t hX) K v1 v2 M) my_SA_nextGreaterByScan mi_SA_nextGreaterByScan ms_SA_nextGreaterByScan ml_La_86 (Nat.le_of_ble_eq_true rfl) (Nat.le_of_ble_eq_true rfl) (by decide) (ent_0 K _) rfl rfl rfl (Nat.le_of_ble_eq_true rfl) rfl (Nat.le_of_ble_eq_true rfl) (Nat.le_of_ble_eq_true rfl)) (Nat.le_of_ble_eq_true rfl) (Nat.le_of_ble_eq_true rfl) (hk := List.forall_mem_cons.mpr ⟨ho_La_nextGreaterByScan_0, List.forall_mem_cons.mpr ⟨ho_La_nextGreaterByScan_1, fun _ h => nomatch h⟩⟩) (hcv := List.forall_mem_cons.mpr ⟨by decide, List.forall_mem_cons.mpr ⟨by decide, fun _ h => nomatch h⟩⟩) ?_ (fun r M1 => ?_)
  · refine List.forall_mem_cons.mpr ⟨fun a M1 => ?_, ?_⟩
    · refine V_astore hX 9 15 [(4, .ref a), (0, .ref (kA K 0)), (1, .int v1), (2, .int v2), (3, .ref (kA K 45))] rfl rfl (Nat.le_of_ble_eq_true rfl) rfl ?_
      refine V_iconst hX (v := 1) (hv := by decide) 10 16 rfl rfl ?_
      exact V_iret hX 11 rfl (Nat.le_of_ble_eq_true rfl) (Nat.le_of_ble_eq_true rfl) rfl
    refine List.forall_mem_cons.mpr ⟨fun a M1 => ?_, ?_⟩
    · refine V_astore hX 12 19 [(4, .ref a), (0, .ref (kA K 0)), (1, .int v1), (2, .int v2), (3, .ref (kA K 45))] rfl rfl (Nat.le_of_ble_eq_true rfl) rfl ?_
      refine V_iconst hX (v := 2) (hv := by decide) 13 20 rfl rfl ?_
      exact V_iret hX 14 rfl (Nat.le_of_ble_eq_true rfl) (Nat.le_of_ble_eq_true rfl) rfl
    exact fun _ h => nomatch h
  · refine V_i2l hX 6 9 rfl rfl ?_
    refine V_last hX 7 10 (v := r) rfl rfl (fun M2 hM2 => ?_)
    refine V_goto hX 8 21 rfl (by decide) ?_
    refine V_iconst hX (v := 0) (hv := by decide) 15 22 rfl rfl ?_
    exact V_iret hX 16 rfl (Nat.le_of_ble_eq_true rfl) (Nat.le_of_ble_eq_true rfl) rfl
def y_La_peakCount : MethodName := ⟨"SeriesArchiveLaw", "peakCount", "(LSeriesArchive;I[J)I"⟩
noncomputable def L_La_peakCount : zz_L := [(0, .aload_n 2, 1), (1, .iconst 0, 1), (2, .aload_n 0, 1), (3, .iload_n 1, 1), (4, .invokevirtual 89, 3), (7, .i2l, 1), (8, .lastore, 1), (9, .goto 6, 3), (12, .astore_n 3, 1), (13, .iconst 1, 1), (14, .ireturn, 1), (15, .iconst 0, 1), (16, .ireturn, 1)]
theorem dec_La_peakCount : zz_decAll method_25_code L_La_peakCount = true := by decide +kernel
theorem ho_La_peakCount_0 : HOk "SeriesArchiveLaw" ((0, 9, 12, 13), 0, 1) := ⟨by decide, by decide, cl_La_13, ca_0⟩
theorem myw_La_peakCount : MYW y_La_peakCount method_25_code 4 (some .int) [(0, 9, 12, 13)] 3 := ⟨zz_c4 193 (by decide +kernel) rfl, zz_c1 0 (by decide +kernel) rfl, by decide +kernel, by decide +kernel, by decide +kernel⟩
theorem mt_La_peakCount : Cond.static y_La_peakCount ∈ zz_good := zz_c4 192 (by decide +kernel) rfl
set_option maxRecDepth 20000 in
theorem ct_La_peakCount {l : Launch} (hl : l.stackTraces = false) (K : KT) (v1 : Int32) (M : Mm) : CTp l K y_La_peakCount (Cond.codeWith y_La_peakCount method_25_code 4 (some .int) [(0, 9, 12, 13)]) rvI 11 1 6 [.ref (kA K 0), .int v1, .ref (kA K 45)] M (fn_La_peakCount v1 M) := by
  refine CTp_ofH (L := L_La_peakCount) (lc := [(0, .ref (kA K 0)), (1, .int v1), (2, .ref (kA K 45))]) (by decide +kernel) dec_La_peakCount hl rfl (Nat.le_of_ble_eq_true rfl) (fun X hX => ?_)
  unfold fn_La_peakCount
  refine V_aload_n hX (j := 2) (hj := rfl) 0 1 rfl rfl ?_
  refine V_iconst hX (v := 0) (hv := by decide) 1 2 rfl rfl ?_
  refine V_aload_n hX (j := 0) (hj := rfl) 2 3 rfl rfl ?_
  refine V_iload_n hX (j := 1) (hj := rfl) 3 4 rfl rfl ?_
  refine V_cat hX [((0, 9, 12, 13), 0, 1)] rfl (VR_V hX 4 (ct_SA_peakCount (cx_t hX) K v1 M) my_SA_peakCount mi_SA_peakCount ms_SA_peakCount ml_La_89 (Nat.le_of_ble_eq_true rfl) (Nat.le_of_ble_eq_true rfl) (by decide) (ent_0 K _) rfl rfl rfl (Nat.le_of_ble_eq_true rfl) rfl (Nat.le_of_ble_eq_true rfl) (Nat.le_of_ble_eq_true rfl)) (Nat.le_of_ble_eq_true rfl) (Nat.le_of_ble_eq_true rfl) (hk := List.forall_mem_cons.mpr ⟨ho_La_peakCount_0, fun _ h => nomatch h⟩) (hcv := List.forall_mem_cons.mpr ⟨by decide, fun _ h => nomatch h⟩) ?_ (fun r M1 => ?_)
  · refine List.forall_mem_cons.mpr ⟨fun a M1 => ?_, ?_⟩
    · refine V_astore_n hX 8 13 [(3, .ref a), (0, .ref (kA K 0)), (1, .int v1), (2, .ref (kA K 45))] rfl rfl (Nat.le_of_ble_eq_true rfl) rfl ?_
      refine V_iconst hX (v := 1) (hv := by decide) 9 14 rfl rfl ?_
      exact V_iret hX 10 rfl (Nat.le_of_ble_eq_true rfl) (Nat.le_of_ble_eq_true rfl) rfl
    exact fun _ h => nomatch h
  · refine V_i2l hX 5 8 rfl rfl ?_
    refine V_last hX 6 9 (v := r) rfl rfl (fun M2 hM2 => ?_)
    refine V_goto hX 7 15 rfl (by decide) ?_
    refine V_iconst hX (v := 0) (hv := by decide) 11 16 rfl rfl ?_
    exact V_iret hX 12 rfl (Nat.le_of_ble_eq_true rfl) (Nat.le_of_ble_eq_true rfl) rfl
def y_La_isPeak : MethodName := ⟨"SeriesArchiveLaw", "isPeak", "(LSeriesArchive;II[J)I"⟩
noncomputable def L_La_isPeak : zz_L := [(0, .aload_n 3, 1), (1, .iconst 0, 1), (2, .aload_n 0, 1), (3, .iload_n 1, 1), (4, .iload_n 2, 1), (5, .invokevirtual 92, 3), (8, .ifCond .eq 7, 3), (11, .lconst 1, 1), (12, .goto 4, 3), (15, .lconst 0, 1), (16, .lastore, 1), (17, .goto 7, 3), (20, .astore 4, 2), (22, .iconst 1, 1), (23, .ireturn, 1), (24, .iconst 0, 1), (25, .ireturn, 1)]
theorem dec_La_isPeak : zz_decAll method_26_code L_La_isPeak = true := by decide +kernel
theorem ho_La_isPeak_0 : HOk "SeriesArchiveLaw" ((0, 17, 20, 13), 0, 1) := ⟨by decide, by decide, cl_La_13, ca_0⟩
theorem myw_La_isPeak : MYW y_La_isPeak method_26_code 5 (some .int) [(0, 17, 20, 13)] 4 := ⟨zz_c4 209 (by decide +kernel) rfl, zz_c1 0 (by decide +kernel) rfl, by decide +kernel, by decide +kernel, by decide +kernel⟩
theorem mt_La_isPeak : Cond.static y_La_isPeak ∈ zz_good := zz_c4 208 (by decide +kernel) rfl
set_option maxRecDepth 20000 in
theorem ct_La_isPeak {l : Launch} (hl : l.stackTraces = false) (K : KT) (v1 : Int32) (v2 : Int32) (M : Mm) : CTp l K y_La_isPeak (Cond.codeWith y_La_isPeak method_26_code 5 (some .int) [(0, 17, 20, 13)]) rvI 12 2 12 [.ref (kA K 0), .int v1, .int v2, .ref (kA K 45)] M (fn_La_isPeak v1 v2 M) := by
  refine CTp_ofH (L := L_La_isPeak) (lc := [(0, .ref (kA K 0)), (1, .int v1), (2, .int v2), (3, .ref (kA K 45))]) (by decide +kernel) dec_La_isPeak hl rfl (Nat.le_of_ble_eq_true rfl) (fun X hX => ?_)
  unfold fn_La_isPeak
  refine V_aload_n hX (j := 3) (hj := rfl) 0 1 rfl rfl ?_
  refine V_iconst hX (v := 0) (hv := by decide) 1 2 rfl rfl ?_
  refine V_aload_n hX (j := 0) (hj := rfl) 2 3 rfl rfl ?_
  refine V_iload_n hX (j := 1) (hj := rfl) 3 4 rfl rfl ?_
  refine V_iload_n hX (j := 2) (hj := rfl) 4 5 rfl rfl ?_
  refine V_cat hX [((0, 17, 20, 13), 0, 1)] rfl (VR_V hX 5 (ct_SA_isPeak (cx_t hX) K v1 v2 M) my_SA_isPeak mi_SA_isPeak ms_SA_isPeak ml_La_92 (Nat.le_of_ble_eq_true rfl) (Nat.le_of_ble_eq_true rfl) (by decide) (ent_0 K _) rfl rfl rfl (Nat.le_of_ble_eq_true rfl) rfl (Nat.le_of_ble_eq_true rfl) (Nat.le_of_ble_eq_true rfl)) (Nat.le_of_ble_eq_true rfl) (Nat.le_of_ble_eq_true rfl) (hk := List.forall_mem_cons.mpr ⟨ho_La_isPeak_0, fun _ h => nomatch h⟩) (hcv := List.forall_mem_cons.mpr ⟨by decide, fun _ h => nomatch h⟩) ?_ (fun r M1 => ?_)
  · refine List.forall_mem_cons.mpr ⟨fun a M1 => ?_, ?_⟩
    · refine V_astore hX 12 22 [(4, .ref a), (0, .ref (kA K 0)), (1, .int v1), (2, .int v2), (3, .ref (kA K 45))] rfl rfl (Nat.le_of_ble_eq_true rfl) rfl ?_
      refine V_iconst hX (v := 1) (hv := by decide) 13 23 rfl rfl ?_
      exact V_iret hX 14 rfl (Nat.le_of_ble_eq_true rfl) (Nat.le_of_ble_eq_true rfl) rfl
    exact fun _ h => nomatch h
  · refine V_if_eq hX 6 11 15 rfl rfl (by decide) (fun _ => ?_) (fun _ => ?_)
    · refine V_lconst hX 9 16 rfl rfl (Int32.toInt64 0) (by decide) ?_
      refine V_last hX 10 17 (v := 0) rfl rfl (fun M2 hM2 => ?_)
      refine V_goto hX 11 24 rfl (by decide) ?_
      refine V_iconst hX (v := 0) (hv := by decide) 15 25 rfl rfl ?_
      exact V_iret hX 16 rfl (Nat.le_of_ble_eq_true rfl) (Nat.le_of_ble_eq_true rfl) rfl
    · refine V_lconst hX 7 12 rfl rfl (Int32.toInt64 1) (by decide) ?_
      refine V_goto hX 8 16 rfl (by decide) ?_
      refine V_last hX 10 17 (v := 1) rfl rfl (fun M2 hM2 => ?_)
      refine V_goto hX 11 24 rfl (by decide) ?_
      refine V_iconst hX (v := 0) (hv := by decide) 15 25 rfl rfl ?_
      exact V_iret hX 16 rfl (Nat.le_of_ble_eq_true rfl) (Nat.le_of_ble_eq_true rfl) rfl
def y_La_prominence : MethodName := ⟨"SeriesArchiveLaw", "prominence", "(LSeriesArchive;II[J)I"⟩
noncomputable def L_La_prominence : zz_L := [(0, .aload_n 3, 1), (1, .iconst 0, 1), (2, .aload_n 0, 1), (3, .iload_n 1, 1), (4, .iload_n 2, 1), (5, .invokevirtual 96, 3), (8, .i2l, 1), (9, .lastore, 1), (10, .goto 11, 3), (13, .astore 4, 2), (15, .iconst 1, 1), (16, .ireturn, 1), (17, .astore 4, 2), (19, .iconst 2, 1), (20, .ireturn, 1), (21, .iconst 0, 1), (22, .ireturn, 1)]
theorem dec_La_prominence : zz_decAll method_27_code L_La_prominence = true := by decide +kernel
theorem ho_La_prominence_0 : HOk "SeriesArchiveLaw" ((0, 10, 13, 13), 0, 1) := ⟨by decide, by decide, cl_La_13, ca_0⟩
theorem ho_La_prominence_1 : HOk "SeriesArchiveLaw" ((0, 10, 17, 69), 3, 2) := ⟨by decide, by decide, cl_La_69, ca_3⟩
theorem myw_La_prominence : MYW y_La_prominence method_27_code 5 (some .int) [(0, 10, 13, 13), (0, 10, 17, 69)] 4 := ⟨zz_c4 217 (by decide +kernel) rfl, zz_c1 0 (by decide +kernel) rfl, by decide +kernel, by decide +kernel, by decide +kernel⟩
theorem mt_La_prominence : Cond.static y_La_prominence ∈ zz_good := zz_c4 216 (by decide +kernel) rfl
set_option maxRecDepth 20000 in
theorem ct_La_prominence {l : Launch} (hl : l.stackTraces = false) (K : KT) (v1 : Int32) (v2 : Int32) (M : Mm) : CTp l K y_La_prominence (Cond.codeWith y_La_prominence method_27_code 5 (some .int) [(0, 10, 13, 13), (0, 10, 17, 69)]) rvI 13 3 18 [.ref (kA K 0), .int v1, .int v2, .ref (kA K 45)] M (fn_La_prominence v1 v2 M) := by
  refine CTp_ofH (L := L_La_prominence) (lc := [(0, .ref (kA K 0)), (1, .int v1), (2, .int v2), (3, .ref (kA K 45))]) (by decide +kernel) dec_La_prominence hl rfl (Nat.le_of_ble_eq_true rfl) (fun X hX => ?_)
  unfold fn_La_prominence
  refine V_aload_n hX (j := 3) (hj := rfl) 0 1 rfl rfl ?_
  refine V_iconst hX (v := 0) (hv := by decide) 1 2 rfl rfl ?_
  refine V_aload_n hX (j := 0) (hj := rfl) 2 3 rfl rfl ?_
  refine V_iload_n hX (j := 1) (hj := rfl) 3 4 rfl rfl ?_
  refine V_iload_n hX (j := 2) (hj := rfl) 4 5 rfl rfl ?_
  refine V_cat hX [((0, 10, 13, 13), 0, 1), ((0, 10, 17, 69), 3, 2)] rfl (VR_V hX 5 (ct_SA_prominence (cx_t hX) K v1 v2 M) my_SA_prominence mi_SA_prominence ms_SA_prominence ml_La_96 (Nat.le_of_ble_eq_true rfl) (Nat.le_of_ble_eq_true rfl) (by decide) (ent_0 K _) rfl rfl rfl (Nat.le_of_ble_eq_true rfl) rfl (Nat.le_of_ble_eq_true rfl) (Nat.le_of_ble_eq_true rfl)) (Nat.le_of_ble_eq_true rfl) (Nat.le_of_ble_eq_true rfl) (hk := List.forall_mem_cons.mpr ⟨ho_La_prominence_0, List.forall_mem_cons.mpr ⟨ho_La_prominence_1, fun _ h => nomatch h⟩⟩) (hcv := List.forall_mem_cons.mpr ⟨by decide, List.forall_mem_cons.mpr ⟨by decide, fun _ h => nomatch h⟩⟩) ?_ (fun r M1 => ?_)
  · refine List.forall_mem_cons.mpr ⟨fun a M1 => ?_, ?_⟩
    · refine V_astore hX 9 15 [(4, .ref a), (0, .ref (kA K 0)), (1, .int v1), (2, .int v2), (3, .ref (kA K 45))] rfl rfl (Nat.le_of_ble_eq_true rfl) rfl ?_
      refine V_iconst hX (v := 1) (hv := by decide) 10 16 rfl rfl ?_
      exact V_iret hX 11 rfl (Nat.le_of_ble_eq_true rfl) (Nat.le_of_ble_eq_true rfl) rfl
    refine List.forall_mem_cons.mpr ⟨fun a M1 => ?_, ?_⟩
    · refine V_astore hX 12 19 [(4, .ref a), (0, .ref (kA K 0)), (1, .int v1), (2, .int v2), (3, .ref (kA K 45))] rfl rfl (Nat.le_of_ble_eq_true rfl) rfl ?_
      refine V_iconst hX (v := 2) (hv := by decide) 13 20 rfl rfl ?_
      exact V_iret hX 14 rfl (Nat.le_of_ble_eq_true rfl) (Nat.le_of_ble_eq_true rfl) rfl
    exact fun _ h => nomatch h
  · refine V_i2l hX 6 9 rfl rfl ?_
    refine V_last hX 7 10 (v := r) rfl rfl (fun M2 hM2 => ?_)
    refine V_goto hX 8 21 rfl (by decide) ?_
    refine V_iconst hX (v := 0) (hv := by decide) 15 22 rfl rfl ?_
    exact V_iret hX 16 rfl (Nat.le_of_ble_eq_true rfl) (Nat.le_of_ble_eq_true rfl) rfl
def y_La_prominenceByLevels : MethodName := ⟨"SeriesArchiveLaw", "prominenceByLevels", "(LSeriesArchive;II[J)I"⟩
noncomputable def L_La_prominenceByLevels : zz_L := [(0, .aload_n 3, 1), (1, .iconst 0, 1), (2, .aload_n 0, 1), (3, .iload_n 1, 1), (4, .iload_n 2, 1), (5, .invokevirtual 99, 3), (8, .i2l, 1), (9, .lastore, 1), (10, .goto 11, 3), (13, .astore 4, 2), (15, .iconst 1, 1), (16, .ireturn, 1), (17, .astore 4, 2), (19, .iconst 2, 1), (20, .ireturn, 1), (21, .iconst 0, 1), (22, .ireturn, 1)]
theorem dec_La_prominenceByLevels : zz_decAll method_28_code L_La_prominenceByLevels = true := by decide +kernel
theorem ho_La_prominenceByLevels_0 : HOk "SeriesArchiveLaw" ((0, 10, 13, 13), 0, 1) := ⟨by decide, by decide, cl_La_13, ca_0⟩
theorem ho_La_prominenceByLevels_1 : HOk "SeriesArchiveLaw" ((0, 10, 17, 69), 3, 2) := ⟨by decide, by decide, cl_La_69, ca_3⟩
theorem myw_La_prominenceByLevels : MYW y_La_prominenceByLevels method_28_code 5 (some .int) [(0, 10, 13, 13), (0, 10, 17, 69)] 4 := ⟨zz_c4 237 (by decide +kernel) rfl, zz_c1 0 (by decide +kernel) rfl, by decide +kernel, by decide +kernel, by decide +kernel⟩
theorem mt_La_prominenceByLevels : Cond.static y_La_prominenceByLevels ∈ zz_good := zz_c4 236 (by decide +kernel) rfl
set_option maxRecDepth 20000 in
theorem ct_La_prominenceByLevels {l : Launch} (hl : l.stackTraces = false) (K : KT) (v1 : Int32) (v2 : Int32) (M : Mm) : CTp l K y_La_prominenceByLevels (Cond.codeWith y_La_prominenceByLevels method_28_code 5 (some .int) [(0, 10, 13, 13), (0, 10, 17, 69)]) rvI 13 3 18 [.ref (kA K 0), .int v1, .int v2, .ref (kA K 45)] M (fn_La_prominenceByLevels v1 v2 M) := by
  refine CTp_ofH (L := L_La_prominenceByLevels) (lc := [(0, .ref (kA K 0)), (1, .int v1), (2, .int v2), (3, .ref (kA K 45))]) (by decide +kernel) dec_La_prominenceByLevels hl rfl (Nat.le_of_ble_eq_true rfl) (fun X hX => ?_)
  unfold fn_La_prominenceByLevels
  refine V_aload_n hX (j := 3) (hj := rfl) 0 1 rfl rfl ?_
  refine V_iconst hX (v := 0) (hv := by decide) 1 2 rfl rfl ?_
  refine V_aload_n hX (j := 0) (hj := rfl) 2 3 rfl rfl ?_
  refine V_iload_n hX (j := 1) (hj := rfl) 3 4 rfl rfl ?_
  refine V_iload_n hX (j := 2) (hj := rfl) 4 5 rfl rfl ?_
  refine V_cat hX [((0, 10, 13, 13), 0, 1), ((0, 10, 17, 69), 3, 2)] rfl (VR_V hX 5 (ct_SA_prominenceByLevels (cx_t hX) K v1 v2 M) my_SA_prominenceByLevels mi_SA_prominenceByLevels ms_SA_prominenceByLevels ml_La_99 (Nat.le_of_ble_eq_true rfl) (Nat.le_of_ble_eq_true rfl) (by decide) (ent_0 K _) rfl rfl rfl (Nat.le_of_ble_eq_true rfl) rfl (Nat.le_of_ble_eq_true rfl) (Nat.le_of_ble_eq_true rfl)) (Nat.le_of_ble_eq_true rfl) (Nat.le_of_ble_eq_true rfl) (hk := List.forall_mem_cons.mpr ⟨ho_La_prominenceByLevels_0, List.forall_mem_cons.mpr ⟨ho_La_prominenceByLevels_1, fun _ h => nomatch h⟩⟩) (hcv := List.forall_mem_cons.mpr ⟨by decide, List.forall_mem_cons.mpr ⟨by decide, fun _ h => nomatch h⟩⟩) ?_ (fun r M1 => ?_)
  · refine List.forall_mem_cons.mpr ⟨fun a M1 => ?_, ?_⟩
    · refine V_astore hX 9 15 [(4, .ref a), (0, .ref (kA K 0)), (1, .int v1), (2, .int v2), (3, .ref (kA K 45))] rfl rfl (Nat.le_of_ble_eq_true rfl) rfl ?_
      refine V_iconst hX (v := 1) (hv := by decide) 10 16 rfl rfl ?_
      exact V_iret hX 11 rfl (Nat.le_of_ble_eq_true rfl) (Nat.le_of_ble_eq_true rfl) rfl
    refine List.forall_mem_cons.mpr ⟨fun a M1 => ?_, ?_⟩
    · refine V_astore hX 12 19 [(4, .ref a), (0, .ref (kA K 0)), (1, .int v1), (2, .int v2), (3, .ref (kA K 45))] rfl rfl (Nat.le_of_ble_eq_true rfl) rfl ?_
      refine V_iconst hX (v := 2) (hv := by decide) 13 20 rfl rfl ?_
      exact V_iret hX 14 rfl (Nat.le_of_ble_eq_true rfl) (Nat.le_of_ble_eq_true rfl) rfl
    exact fun _ h => nomatch h
  · refine V_i2l hX 6 9 rfl rfl ?_
    refine V_last hX 7 10 (v := r) rfl rfl (fun M2 hM2 => ?_)
    refine V_goto hX 8 21 rfl (by decide) ?_
    refine V_iconst hX (v := 0) (hv := by decide) 15 22 rfl rfl ?_
    exact V_iret hX 16 rfl (Nat.le_of_ble_eq_true rfl) (Nat.le_of_ble_eq_true rfl) rfl
def y_La_peakByProminence : MethodName := ⟨"SeriesArchiveLaw", "peakByProminence", "(LSeriesArchive;II[J)I"⟩
noncomputable def L_La_peakByProminence : zz_L := [(0, .aload_n 3, 1), (1, .iconst 0, 1), (2, .aload_n 0, 1), (3, .iload_n 1, 1), (4, .iload_n 2, 1), (5, .invokevirtual 102, 3), (8, .i2l, 1), (9, .lastore, 1), (10, .goto 11, 3), (13, .astore 4, 2), (15, .iconst 1, 1), (16, .ireturn, 1), (17, .astore 4, 2), (19, .iconst 2, 1), (20, .ireturn, 1), (21, .iconst 0, 1), (22, .ireturn, 1)]
theorem dec_La_peakByProminence : zz_decAll method_29_code L_La_peakByProminence = true := by decide +kernel
theorem ho_La_peakByProminence_0 : HOk "SeriesArchiveLaw" ((0, 10, 13, 13), 0, 1) := ⟨by decide, by decide, cl_La_13, ca_0⟩
theorem ho_La_peakByProminence_1 : HOk "SeriesArchiveLaw" ((0, 10, 17, 69), 3, 2) := ⟨by decide, by decide, cl_La_69, ca_3⟩
theorem myw_La_peakByProminence : MYW y_La_peakByProminence method_29_code 5 (some .int) [(0, 10, 13, 13), (0, 10, 17, 69)] 4 := ⟨zz_c5 10 (by decide +kernel) rfl, zz_c1 0 (by decide +kernel) rfl, by decide +kernel, by decide +kernel, by decide +kernel⟩
theorem mt_La_peakByProminence : Cond.static y_La_peakByProminence ∈ zz_good := zz_c5 9 (by decide +kernel) rfl
set_option maxRecDepth 20000 in
theorem ct_La_peakByProminence {l : Launch} (hl : l.stackTraces = false) (K : KT) (v1 : Int32) (v2 : Int32) (M : Mm) : CTp l K y_La_peakByProminence (Cond.codeWith y_La_peakByProminence method_29_code 5 (some .int) [(0, 10, 13, 13), (0, 10, 17, 69)]) rvI 11 2 12 [.ref (kA K 0), .int v1, .int v2, .ref (kA K 45)] M (fn_La_peakByProminence v1 v2 M) := by
  refine CTp_ofH (L := L_La_peakByProminence) (lc := [(0, .ref (kA K 0)), (1, .int v1), (2, .int v2), (3, .ref (kA K 45))]) (by decide +kernel) dec_La_peakByProminence hl rfl (Nat.le_of_ble_eq_true rfl) (fun X hX => ?_)
  unfold fn_La_peakByProminence
  refine V_aload_n hX (j := 3) (hj := rfl) 0 1 rfl rfl ?_
  refine V_iconst hX (v := 0) (hv := by decide) 1 2 rfl rfl ?_
  refine V_aload_n hX (j := 0) (hj := rfl) 2 3 rfl rfl ?_
  refine V_iload_n hX (j := 1) (hj := rfl) 3 4 rfl rfl ?_
  refine V_iload_n hX (j := 2) (hj := rfl) 4 5 rfl rfl ?_
  refine V_cat hX [((0, 10, 13, 13), 0, 1), ((0, 10, 17, 69), 3, 2)] rfl (VR_V hX 5 (ct_SA_peakByProminence (cx_t hX) K v1 v2 M) my_SA_peakByProminence mi_SA_peakByProminence ms_SA_peakByProminence ml_La_102 (Nat.le_of_ble_eq_true rfl) (Nat.le_of_ble_eq_true rfl) (by decide) (ent_0 K _) rfl rfl rfl (Nat.le_of_ble_eq_true rfl) rfl (Nat.le_of_ble_eq_true rfl) (Nat.le_of_ble_eq_true rfl)) (Nat.le_of_ble_eq_true rfl) (Nat.le_of_ble_eq_true rfl) (hk := List.forall_mem_cons.mpr ⟨ho_La_peakByProminence_0, List.forall_mem_cons.mpr ⟨ho_La_peakByProminence_1, fun _ h => nomatch h⟩⟩) (hcv := List.forall_mem_cons.mpr ⟨by decide, List.forall_mem_cons.mpr ⟨by decide, fun _ h => nomatch h⟩⟩) ?_ (fun r M1 => ?_)
  · refine List.forall_mem_cons.mpr ⟨fun a M1 => ?_, ?_⟩
    · refine V_astore hX 9 15 [(4, .ref a), (0, .ref (kA K 0)), (1, .int v1), (2, .int v2), (3, .ref (kA K 45))] rfl rfl (Nat.le_of_ble_eq_true rfl) rfl ?_
      refine V_iconst hX (v := 1) (hv := by decide) 10 16 rfl rfl ?_
      exact V_iret hX 11 rfl (Nat.le_of_ble_eq_true rfl) (Nat.le_of_ble_eq_true rfl) rfl
    refine List.forall_mem_cons.mpr ⟨fun a M1 => ?_, ?_⟩
    · refine V_astore hX 12 19 [(4, .ref a), (0, .ref (kA K 0)), (1, .int v1), (2, .int v2), (3, .ref (kA K 45))] rfl rfl (Nat.le_of_ble_eq_true rfl) rfl ?_
      refine V_iconst hX (v := 2) (hv := by decide) 13 20 rfl rfl ?_
      exact V_iret hX 14 rfl (Nat.le_of_ble_eq_true rfl) (Nat.le_of_ble_eq_true rfl) rfl
    exact fun _ h => nomatch h
  · refine V_i2l hX 6 9 rfl rfl ?_
    refine V_last hX 7 10 (v := r) rfl rfl (fun M2 hM2 => ?_)
    refine V_goto hX 8 21 rfl (by decide) ?_
    refine V_iconst hX (v := 0) (hv := by decide) 15 22 rfl rfl ?_
    exact V_iret hX 16 rfl (Nat.le_of_ble_eq_true rfl) (Nat.le_of_ble_eq_true rfl) rfl
def y_La_bestSum : MethodName := ⟨"SeriesArchiveLaw", "bestSum", "(LSeriesArchive;I[J)I"⟩
noncomputable def L_La_bestSum : zz_L := [(0, .aload_n 2, 1), (1, .iconst 0, 1), (2, .aload_n 0, 1), (3, .iload_n 1, 1), (4, .invokevirtual 105, 3), (7, .i2l, 1), (8, .lastore, 1), (9, .goto 9, 3), (12, .astore_n 3, 1), (13, .iconst 1, 1), (14, .ireturn, 1), (15, .astore_n 3, 1), (16, .iconst 2, 1), (17, .ireturn, 1), (18, .iconst 0, 1), (19, .ireturn, 1)]
theorem dec_La_bestSum : zz_decAll method_30_code L_La_bestSum = true := by decide +kernel
theorem ho_La_bestSum_0 : HOk "SeriesArchiveLaw" ((0, 9, 12, 13), 0, 1) := ⟨by decide, by decide, cl_La_13, ca_0⟩
theorem ho_La_bestSum_1 : HOk "SeriesArchiveLaw" ((0, 9, 15, 17), 2, 2) := ⟨by decide, by decide, cl_La_17, ca_2⟩
theorem myw_La_bestSum : MYW y_La_bestSum method_30_code 4 (some .int) [(0, 9, 12, 13), (0, 9, 15, 17)] 3 := ⟨zz_c5 24 (by decide +kernel) rfl, zz_c1 0 (by decide +kernel) rfl, by decide +kernel, by decide +kernel, by decide +kernel⟩
theorem mt_La_bestSum : Cond.static y_La_bestSum ∈ zz_good := zz_c5 23 (by decide +kernel) rfl
set_option maxRecDepth 20000 in
theorem ct_La_bestSum {l : Launch} (hl : l.stackTraces = false) (K : KT) (v1 : Int32) (M : Mm) : CTp l K y_La_bestSum (Cond.codeWith y_La_bestSum method_30_code 4 (some .int) [(0, 9, 12, 13), (0, 9, 15, 17)]) rvI 12 2 12 [.ref (kA K 0), .int v1, .ref (kA K 45)] M (fn_La_bestSum v1 M) := by
  refine CTp_ofH (L := L_La_bestSum) (lc := [(0, .ref (kA K 0)), (1, .int v1), (2, .ref (kA K 45))]) (by decide +kernel) dec_La_bestSum hl rfl (Nat.le_of_ble_eq_true rfl) (fun X hX => ?_)
  unfold fn_La_bestSum
  refine V_aload_n hX (j := 2) (hj := rfl) 0 1 rfl rfl ?_
  refine V_iconst hX (v := 0) (hv := by decide) 1 2 rfl rfl ?_
  refine V_aload_n hX (j := 0) (hj := rfl) 2 3 rfl rfl ?_
  refine V_iload_n hX (j := 1) (hj := rfl) 3 4 rfl rfl ?_
  refine V_cat hX [((0, 9, 12, 13), 0, 1), ((0, 9, 15, 17), 2, 2)] rfl (VR_V hX 4 (ct_SA_bestSum (cx_t hX) K v1 M) my_SA_bestSum mi_SA_bestSum ms_SA_bestSum ml_La_105 (Nat.le_of_ble_eq_true rfl) (Nat.le_of_ble_eq_true rfl) (by decide) (ent_0 K _) rfl rfl rfl (Nat.le_of_ble_eq_true rfl) rfl (Nat.le_of_ble_eq_true rfl) (Nat.le_of_ble_eq_true rfl)) (Nat.le_of_ble_eq_true rfl) (Nat.le_of_ble_eq_true rfl) (hk := List.forall_mem_cons.mpr ⟨ho_La_bestSum_0, List.forall_mem_cons.mpr ⟨ho_La_bestSum_1, fun _ h => nomatch h⟩⟩) (hcv := List.forall_mem_cons.mpr ⟨by decide, List.forall_mem_cons.mpr ⟨by decide, fun _ h => nomatch h⟩⟩) ?_ (fun r M1 => ?_)
  · refine List.forall_mem_cons.mpr ⟨fun a M1 => ?_, ?_⟩
    · refine V_astore_n hX 8 13 [(3, .ref a), (0, .ref (kA K 0)), (1, .int v1), (2, .ref (kA K 45))] rfl rfl (Nat.le_of_ble_eq_true rfl) rfl ?_
      refine V_iconst hX (v := 1) (hv := by decide) 9 14 rfl rfl ?_
      exact V_iret hX 10 rfl (Nat.le_of_ble_eq_true rfl) (Nat.le_of_ble_eq_true rfl) rfl
    refine List.forall_mem_cons.mpr ⟨fun a M1 => ?_, ?_⟩
    · refine V_astore_n hX 11 16 [(3, .ref a), (0, .ref (kA K 0)), (1, .int v1), (2, .ref (kA K 45))] rfl rfl (Nat.le_of_ble_eq_true rfl) rfl ?_
      refine V_iconst hX (v := 2) (hv := by decide) 12 17 rfl rfl ?_
      exact V_iret hX 13 rfl (Nat.le_of_ble_eq_true rfl) (Nat.le_of_ble_eq_true rfl) rfl
    exact fun _ h => nomatch h
  · refine V_i2l hX 5 8 rfl rfl ?_
    refine V_last hX 6 9 (v := r) rfl rfl (fun M2 hM2 => ?_)
    refine V_goto hX 7 18 rfl (by decide) ?_
    refine V_iconst hX (v := 0) (hv := by decide) 14 19 rfl rfl ?_
    exact V_iret hX 15 rfl (Nat.le_of_ble_eq_true rfl) (Nat.le_of_ble_eq_true rfl) rfl
def y_La_bestSumByRanges : MethodName := ⟨"SeriesArchiveLaw", "bestSumByRanges", "(LSeriesArchive;I[J)I"⟩
noncomputable def L_La_bestSumByRanges : zz_L := [(0, .aload_n 2, 1), (1, .iconst 0, 1), (2, .aload_n 0, 1), (3, .iload_n 1, 1), (4, .invokevirtual 108, 3), (7, .i2l, 1), (8, .lastore, 1), (9, .goto 9, 3), (12, .astore_n 3, 1), (13, .iconst 1, 1), (14, .ireturn, 1), (15, .astore_n 3, 1), (16, .iconst 2, 1), (17, .ireturn, 1), (18, .iconst 0, 1), (19, .ireturn, 1)]
theorem dec_La_bestSumByRanges : zz_decAll method_31_code L_La_bestSumByRanges = true := by decide +kernel
theorem ho_La_bestSumByRanges_0 : HOk "SeriesArchiveLaw" ((0, 9, 12, 13), 0, 1) := ⟨by decide, by decide, cl_La_13, ca_0⟩
theorem ho_La_bestSumByRanges_1 : HOk "SeriesArchiveLaw" ((0, 9, 15, 17), 2, 2) := ⟨by decide, by decide, cl_La_17, ca_2⟩
theorem myw_La_bestSumByRanges : MYW y_La_bestSumByRanges method_31_code 4 (some .int) [(0, 9, 12, 13), (0, 9, 15, 17)] 3 := ⟨zz_c5 36 (by decide +kernel) rfl, zz_c1 0 (by decide +kernel) rfl, by decide +kernel, by decide +kernel, by decide +kernel⟩
theorem mt_La_bestSumByRanges : Cond.static y_La_bestSumByRanges ∈ zz_good := zz_c5 35 (by decide +kernel) rfl
set_option maxRecDepth 20000 in
theorem ct_La_bestSumByRanges {l : Launch} (hl : l.stackTraces = false) (K : KT) (v1 : Int32) (M : Mm) : CTp l K y_La_bestSumByRanges (Cond.codeWith y_La_bestSumByRanges method_31_code 4 (some .int) [(0, 9, 12, 13), (0, 9, 15, 17)]) rvI 12 2 12 [.ref (kA K 0), .int v1, .ref (kA K 45)] M (fn_La_bestSumByRanges v1 M) := by
  refine CTp_ofH (L := L_La_bestSumByRanges) (lc := [(0, .ref (kA K 0)), (1, .int v1), (2, .ref (kA K 45))]) (by decide +kernel) dec_La_bestSumByRanges hl rfl (Nat.le_of_ble_eq_true rfl) (fun X hX => ?_)
  unfold fn_La_bestSumByRanges
  refine V_aload_n hX (j := 2) (hj := rfl) 0 1 rfl rfl ?_
  refine V_iconst hX (v := 0) (hv := by decide) 1 2 rfl rfl ?_
  refine V_aload_n hX (j := 0) (hj := rfl) 2 3 rfl rfl ?_
  refine V_iload_n hX (j := 1) (hj := rfl) 3 4 rfl rfl ?_
  refine V_cat hX [((0, 9, 12, 13), 0, 1), ((0, 9, 15, 17), 2, 2)] rfl (VR_V hX 4 (ct_SA_bestSumByRanges (cx_t hX) K v1 M) my_SA_bestSumByRanges mi_SA_bestSumByRanges ms_SA_bestSumByRanges ml_La_108 (Nat.le_of_ble_eq_true rfl) (Nat.le_of_ble_eq_true rfl) (by decide) (ent_0 K _) rfl rfl rfl (Nat.le_of_ble_eq_true rfl) rfl (Nat.le_of_ble_eq_true rfl) (Nat.le_of_ble_eq_true rfl)) (Nat.le_of_ble_eq_true rfl) (Nat.le_of_ble_eq_true rfl) (hk := List.forall_mem_cons.mpr ⟨ho_La_bestSumByRanges_0, List.forall_mem_cons.mpr ⟨ho_La_bestSumByRanges_1, fun _ h => nomatch h⟩⟩) (hcv := List.forall_mem_cons.mpr ⟨by decide, List.forall_mem_cons.mpr ⟨by decide, fun _ h => nomatch h⟩⟩) ?_ (fun r M1 => ?_)
  · refine List.forall_mem_cons.mpr ⟨fun a M1 => ?_, ?_⟩
    · refine V_astore_n hX 8 13 [(3, .ref a), (0, .ref (kA K 0)), (1, .int v1), (2, .ref (kA K 45))] rfl rfl (Nat.le_of_ble_eq_true rfl) rfl ?_
      refine V_iconst hX (v := 1) (hv := by decide) 9 14 rfl rfl ?_
      exact V_iret hX 10 rfl (Nat.le_of_ble_eq_true rfl) (Nat.le_of_ble_eq_true rfl) rfl
    refine List.forall_mem_cons.mpr ⟨fun a M1 => ?_, ?_⟩
    · refine V_astore_n hX 11 16 [(3, .ref a), (0, .ref (kA K 0)), (1, .int v1), (2, .ref (kA K 45))] rfl rfl (Nat.le_of_ble_eq_true rfl) rfl ?_
      refine V_iconst hX (v := 2) (hv := by decide) 12 17 rfl rfl ?_
      exact V_iret hX 13 rfl (Nat.le_of_ble_eq_true rfl) (Nat.le_of_ble_eq_true rfl) rfl
    exact fun _ h => nomatch h
  · refine V_i2l hX 5 8 rfl rfl ?_
    refine V_last hX 6 9 (v := r) rfl rfl (fun M2 hM2 => ?_)
    refine V_goto hX 7 18 rfl (by decide) ?_
    refine V_iconst hX (v := 0) (hv := by decide) 14 19 rfl rfl ?_
    exact V_iret hX 15 rfl (Nat.le_of_ble_eq_true rfl) (Nat.le_of_ble_eq_true rfl) rfl
def y_La_bestStart : MethodName := ⟨"SeriesArchiveLaw", "bestStart", "(LSeriesArchive;I[J)I"⟩
noncomputable def L_La_bestStart : zz_L := [(0, .aload_n 2, 1), (1, .iconst 0, 1), (2, .aload_n 0, 1), (3, .iload_n 1, 1), (4, .invokevirtual 111, 3), (7, .i2l, 1), (8, .lastore, 1), (9, .goto 9, 3), (12, .astore_n 3, 1), (13, .iconst 1, 1), (14, .ireturn, 1), (15, .astore_n 3, 1), (16, .iconst 2, 1), (17, .ireturn, 1), (18, .iconst 0, 1), (19, .ireturn, 1)]
theorem dec_La_bestStart : zz_decAll method_32_code L_La_bestStart = true := by decide +kernel
theorem ho_La_bestStart_0 : HOk "SeriesArchiveLaw" ((0, 9, 12, 13), 0, 1) := ⟨by decide, by decide, cl_La_13, ca_0⟩
theorem ho_La_bestStart_1 : HOk "SeriesArchiveLaw" ((0, 9, 15, 17), 2, 2) := ⟨by decide, by decide, cl_La_17, ca_2⟩
theorem myw_La_bestStart : MYW y_La_bestStart method_32_code 4 (some .int) [(0, 9, 12, 13), (0, 9, 15, 17)] 3 := ⟨zz_c5 44 (by decide +kernel) rfl, zz_c1 0 (by decide +kernel) rfl, by decide +kernel, by decide +kernel, by decide +kernel⟩
theorem mt_La_bestStart : Cond.static y_La_bestStart ∈ zz_good := zz_c5 43 (by decide +kernel) rfl
set_option maxRecDepth 20000 in
theorem ct_La_bestStart {l : Launch} (hl : l.stackTraces = false) (K : KT) (v1 : Int32) (M : Mm) : CTp l K y_La_bestStart (Cond.codeWith y_La_bestStart method_32_code 4 (some .int) [(0, 9, 12, 13), (0, 9, 15, 17)]) rvI 12 2 12 [.ref (kA K 0), .int v1, .ref (kA K 45)] M (fn_La_bestStart v1 M) := by
  refine CTp_ofH (L := L_La_bestStart) (lc := [(0, .ref (kA K 0)), (1, .int v1), (2, .ref (kA K 45))]) (by decide +kernel) dec_La_bestStart hl rfl (Nat.le_of_ble_eq_true rfl) (fun X hX => ?_)
  unfold fn_La_bestStart
  refine V_aload_n hX (j := 2) (hj := rfl) 0 1 rfl rfl ?_
  refine V_iconst hX (v := 0) (hv := by decide) 1 2 rfl rfl ?_
  refine V_aload_n hX (j := 0) (hj := rfl) 2 3 rfl rfl ?_
  refine V_iload_n hX (j := 1) (hj := rfl) 3 4 rfl rfl ?_
  refine V_cat hX [((0, 9, 12, 13), 0, 1), ((0, 9, 15, 17), 2, 2)] rfl (VR_V hX 4 (ct_SA_bestStart (cx_t hX) K v1 M) my_SA_bestStart mi_SA_bestStart ms_SA_bestStart ml_La_111 (Nat.le_of_ble_eq_true rfl) (Nat.le_of_ble_eq_true rfl) (by decide) (ent_0 K _) rfl rfl rfl (Nat.le_of_ble_eq_true rfl) rfl (Nat.le_of_ble_eq_true rfl) (Nat.le_of_ble_eq_true rfl)) (Nat.le_of_ble_eq_true rfl) (Nat.le_of_ble_eq_true rfl) (hk := List.forall_mem_cons.mpr ⟨ho_La_bestStart_0, List.forall_mem_cons.mpr ⟨ho_La_bestStart_1, fun _ h => nomatch h⟩⟩) (hcv := List.forall_mem_cons.mpr ⟨by decide, List.forall_mem_cons.mpr ⟨by decide, fun _ h => nomatch h⟩⟩) ?_ (fun r M1 => ?_)
  · refine List.forall_mem_cons.mpr ⟨fun a M1 => ?_, ?_⟩
    · refine V_astore_n hX 8 13 [(3, .ref a), (0, .ref (kA K 0)), (1, .int v1), (2, .ref (kA K 45))] rfl rfl (Nat.le_of_ble_eq_true rfl) rfl ?_
      refine V_iconst hX (v := 1) (hv := by decide) 9 14 rfl rfl ?_
      exact V_iret hX 10 rfl (Nat.le_of_ble_eq_true rfl) (Nat.le_of_ble_eq_true rfl) rfl
    refine List.forall_mem_cons.mpr ⟨fun a M1 => ?_, ?_⟩
    · refine V_astore_n hX 11 16 [(3, .ref a), (0, .ref (kA K 0)), (1, .int v1), (2, .ref (kA K 45))] rfl rfl (Nat.le_of_ble_eq_true rfl) rfl ?_
      refine V_iconst hX (v := 2) (hv := by decide) 12 17 rfl rfl ?_
      exact V_iret hX 13 rfl (Nat.le_of_ble_eq_true rfl) (Nat.le_of_ble_eq_true rfl) rfl
    exact fun _ h => nomatch h
  · refine V_i2l hX 5 8 rfl rfl ?_
    refine V_last hX 6 9 (v := r) rfl rfl (fun M2 hM2 => ?_)
    refine V_goto hX 7 18 rfl (by decide) ?_
    refine V_iconst hX (v := 0) (hv := by decide) 14 19 rfl rfl ?_
    exact V_iret hX 15 rfl (Nat.le_of_ble_eq_true rfl) (Nat.le_of_ble_eq_true rfl) rfl
def y_La_bestEnd : MethodName := ⟨"SeriesArchiveLaw", "bestEnd", "(LSeriesArchive;I[J)I"⟩
noncomputable def L_La_bestEnd : zz_L := [(0, .aload_n 2, 1), (1, .iconst 0, 1), (2, .aload_n 0, 1), (3, .iload_n 1, 1), (4, .invokevirtual 114, 3), (7, .i2l, 1), (8, .lastore, 1), (9, .goto 9, 3), (12, .astore_n 3, 1), (13, .iconst 1, 1), (14, .ireturn, 1), (15, .astore_n 3, 1), (16, .iconst 2, 1), (17, .ireturn, 1), (18, .iconst 0, 1), (19, .ireturn, 1)]
theorem dec_La_bestEnd : zz_decAll method_33_code L_La_bestEnd = true := by decide +kernel
theorem ho_La_bestEnd_0 : HOk "SeriesArchiveLaw" ((0, 9, 12, 13), 0, 1) := ⟨by decide, by decide, cl_La_13, ca_0⟩
theorem ho_La_bestEnd_1 : HOk "SeriesArchiveLaw" ((0, 9, 15, 17), 2, 2) := ⟨by decide, by decide, cl_La_17, ca_2⟩
theorem myw_La_bestEnd : MYW y_La_bestEnd method_33_code 4 (some .int) [(0, 9, 12, 13), (0, 9, 15, 17)] 3 := ⟨zz_c5 57 (by decide +kernel) rfl, zz_c1 0 (by decide +kernel) rfl, by decide +kernel, by decide +kernel, by decide +kernel⟩
theorem mt_La_bestEnd : Cond.static y_La_bestEnd ∈ zz_good := zz_c5 56 (by decide +kernel) rfl
set_option maxRecDepth 20000 in
theorem ct_La_bestEnd {l : Launch} (hl : l.stackTraces = false) (K : KT) (v1 : Int32) (M : Mm) : CTp l K y_La_bestEnd (Cond.codeWith y_La_bestEnd method_33_code 4 (some .int) [(0, 9, 12, 13), (0, 9, 15, 17)]) rvI 12 2 12 [.ref (kA K 0), .int v1, .ref (kA K 45)] M (fn_La_bestEnd v1 M) := by
  refine CTp_ofH (L := L_La_bestEnd) (lc := [(0, .ref (kA K 0)), (1, .int v1), (2, .ref (kA K 45))]) (by decide +kernel) dec_La_bestEnd hl rfl (Nat.le_of_ble_eq_true rfl) (fun X hX => ?_)
  unfold fn_La_bestEnd
  refine V_aload_n hX (j := 2) (hj := rfl) 0 1 rfl rfl ?_
  refine V_iconst hX (v := 0) (hv := by decide) 1 2 rfl rfl ?_
  refine V_aload_n hX (j := 0) (hj := rfl) 2 3 rfl rfl ?_
  refine V_iload_n hX (j := 1) (hj := rfl) 3 4 rfl rfl ?_
  refine V_cat hX [((0, 9, 12, 13), 0, 1), ((0, 9, 15, 17), 2, 2)] rfl (VR_V hX 4 (ct_SA_bestEnd (cx_t hX) K v1 M) my_SA_bestEnd mi_SA_bestEnd ms_SA_bestEnd ml_La_114 (Nat.le_of_ble_eq_true rfl) (Nat.le_of_ble_eq_true rfl) (by decide) (ent_0 K _) rfl rfl rfl (Nat.le_of_ble_eq_true rfl) rfl (Nat.le_of_ble_eq_true rfl) (Nat.le_of_ble_eq_true rfl)) (Nat.le_of_ble_eq_true rfl) (Nat.le_of_ble_eq_true rfl) (hk := List.forall_mem_cons.mpr ⟨ho_La_bestEnd_0, List.forall_mem_cons.mpr ⟨ho_La_bestEnd_1, fun _ h => nomatch h⟩⟩) (hcv := List.forall_mem_cons.mpr ⟨by decide, List.forall_mem_cons.mpr ⟨by decide, fun _ h => nomatch h⟩⟩) ?_ (fun r M1 => ?_)
  · refine List.forall_mem_cons.mpr ⟨fun a M1 => ?_, ?_⟩
    · refine V_astore_n hX 8 13 [(3, .ref a), (0, .ref (kA K 0)), (1, .int v1), (2, .ref (kA K 45))] rfl rfl (Nat.le_of_ble_eq_true rfl) rfl ?_
      refine V_iconst hX (v := 1) (hv := by decide) 9 14 rfl rfl ?_
      exact V_iret hX 10 rfl (Nat.le_of_ble_eq_true rfl) (Nat.le_of_ble_eq_true rfl) rfl
    refine List.forall_mem_cons.mpr ⟨fun a M1 => ?_, ?_⟩
    · refine V_astore_n hX 11 16 [(3, .ref a), (0, .ref (kA K 0)), (1, .int v1), (2, .ref (kA K 45))] rfl rfl (Nat.le_of_ble_eq_true rfl) rfl ?_
      refine V_iconst hX (v := 2) (hv := by decide) 12 17 rfl rfl ?_
      exact V_iret hX 13 rfl (Nat.le_of_ble_eq_true rfl) (Nat.le_of_ble_eq_true rfl) rfl
    exact fun _ h => nomatch h
  · refine V_i2l hX 5 8 rfl rfl ?_
    refine V_last hX 6 9 (v := r) rfl rfl (fun M2 hM2 => ?_)
    refine V_goto hX 7 18 rfl (by decide) ?_
    refine V_iconst hX (v := 0) (hv := by decide) 14 19 rfl rfl ?_
    exact V_iret hX 15 rfl (Nat.le_of_ble_eq_true rfl) (Nat.le_of_ble_eq_true rfl) rfl
def y_La_inversions : MethodName := ⟨"SeriesArchiveLaw", "inversions", "(LSeriesArchive;I[J)I"⟩
noncomputable def L_La_inversions : zz_L := [(0, .aload_n 2, 1), (1, .iconst 0, 1), (2, .aload_n 0, 1), (3, .iload_n 1, 1), (4, .invokevirtual 117, 3), (7, .i2l, 1), (8, .lastore, 1), (9, .goto 6, 3), (12, .astore_n 3, 1), (13, .iconst 1, 1), (14, .ireturn, 1), (15, .iconst 0, 1), (16, .ireturn, 1)]
theorem dec_La_inversions : zz_decAll method_34_code L_La_inversions = true := by decide +kernel
theorem ho_La_inversions_0 : HOk "SeriesArchiveLaw" ((0, 9, 12, 13), 0, 1) := ⟨by decide, by decide, cl_La_13, ca_0⟩
theorem myw_La_inversions : MYW y_La_inversions method_34_code 4 (some .int) [(0, 9, 12, 13)] 3 := ⟨zz_c5 68 (by decide +kernel) rfl, zz_c1 0 (by decide +kernel) rfl, by decide +kernel, by decide +kernel, by decide +kernel⟩
theorem mt_La_inversions : Cond.static y_La_inversions ∈ zz_good := zz_c5 67 (by decide +kernel) rfl
set_option maxRecDepth 20000 in
theorem ct_La_inversions {l : Launch} (hl : l.stackTraces = false) (K : KT) (v1 : Int32) (M : Mm) : CTp l K y_La_inversions (Cond.codeWith y_La_inversions method_34_code 4 (some .int) [(0, 9, 12, 13)]) rvI 51 1 6 [.ref (kA K 0), .int v1, .ref (kA K 45)] M (fn_La_inversions v1 M) := by
  refine CTp_ofH (L := L_La_inversions) (lc := [(0, .ref (kA K 0)), (1, .int v1), (2, .ref (kA K 45))]) (by decide +kernel) dec_La_inversions hl rfl (Nat.le_of_ble_eq_true rfl) (fun X hX => ?_)
  unfold fn_La_inversions
  refine V_aload_n hX (j := 2) (hj := rfl) 0 1 rfl rfl ?_
  refine V_iconst hX (v := 0) (hv := by decide) 1 2 rfl rfl ?_
  refine V_aload_n hX (j := 0) (hj := rfl) 2 3 rfl rfl ?_
  refine V_iload_n hX (j := 1) (hj := rfl) 3 4 rfl rfl ?_
  refine V_cat hX [((0, 9, 12, 13), 0, 1)] rfl (VR_V hX 4 (ct_SA_inversions (cx_t hX) K v1 M) my_SA_inversions mi_SA_inversions ms_SA_inversions ml_La_117 (Nat.le_of_ble_eq_true rfl) (Nat.le_of_ble_eq_true rfl) (by decide) (ent_0 K _) rfl rfl rfl (Nat.le_of_ble_eq_true rfl) rfl (Nat.le_of_ble_eq_true rfl) (Nat.le_of_ble_eq_true rfl)) (Nat.le_of_ble_eq_true rfl) (Nat.le_of_ble_eq_true rfl) (hk := List.forall_mem_cons.mpr ⟨ho_La_inversions_0, fun _ h => nomatch h⟩) (hcv := List.forall_mem_cons.mpr ⟨by decide, fun _ h => nomatch h⟩) ?_ (fun r M1 => ?_)
  · refine List.forall_mem_cons.mpr ⟨fun a M1 => ?_, ?_⟩
    · refine V_astore_n hX 8 13 [(3, .ref a), (0, .ref (kA K 0)), (1, .int v1), (2, .ref (kA K 45))] rfl rfl (Nat.le_of_ble_eq_true rfl) rfl ?_
      refine V_iconst hX (v := 1) (hv := by decide) 9 14 rfl rfl ?_
      exact V_iret hX 10 rfl (Nat.le_of_ble_eq_true rfl) (Nat.le_of_ble_eq_true rfl) rfl
    exact fun _ h => nomatch h
  · refine V_i2l hX 5 8 rfl rfl ?_
    refine V_last hX 6 9 (v := r) rfl rfl (fun M2 hM2 => ?_)
    refine V_goto hX 7 15 rfl (by decide) ?_
    refine V_iconst hX (v := 0) (hv := by decide) 11 16 rfl rfl ?_
    exact V_iret hX 12 rfl (Nat.le_of_ble_eq_true rfl) (Nat.le_of_ble_eq_true rfl) rfl
def y_La_inversionsByPairs : MethodName := ⟨"SeriesArchiveLaw", "inversionsByPairs", "(LSeriesArchive;I[J)I"⟩
noncomputable def L_La_inversionsByPairs : zz_L := [(0, .aload_n 2, 1), (1, .iconst 0, 1), (2, .aload_n 0, 1), (3, .iload_n 1, 1), (4, .invokevirtual 120, 3), (7, .i2l, 1), (8, .lastore, 1), (9, .goto 6, 3), (12, .astore_n 3, 1), (13, .iconst 1, 1), (14, .ireturn, 1), (15, .iconst 0, 1), (16, .ireturn, 1)]
theorem dec_La_inversionsByPairs : zz_decAll method_35_code L_La_inversionsByPairs = true := by decide +kernel
theorem ho_La_inversionsByPairs_0 : HOk "SeriesArchiveLaw" ((0, 9, 12, 13), 0, 1) := ⟨by decide, by decide, cl_La_13, ca_0⟩
theorem myw_La_inversionsByPairs : MYW y_La_inversionsByPairs method_35_code 4 (some .int) [(0, 9, 12, 13)] 3 := ⟨zz_c5 76 (by decide +kernel) rfl, zz_c1 0 (by decide +kernel) rfl, by decide +kernel, by decide +kernel, by decide +kernel⟩
theorem mt_La_inversionsByPairs : Cond.static y_La_inversionsByPairs ∈ zz_good := zz_c5 75 (by decide +kernel) rfl
set_option maxRecDepth 20000 in
theorem ct_La_inversionsByPairs {l : Launch} (hl : l.stackTraces = false) (K : KT) (v1 : Int32) (M : Mm) : CTp l K y_La_inversionsByPairs (Cond.codeWith y_La_inversionsByPairs method_35_code 4 (some .int) [(0, 9, 12, 13)]) rvI 11 1 6 [.ref (kA K 0), .int v1, .ref (kA K 45)] M (fn_La_inversionsByPairs v1 M) := by
  refine CTp_ofH (L := L_La_inversionsByPairs) (lc := [(0, .ref (kA K 0)), (1, .int v1), (2, .ref (kA K 45))]) (by decide +kernel) dec_La_inversionsByPairs hl rfl (Nat.le_of_ble_eq_true rfl) (fun X hX => ?_)
  unfold fn_La_inversionsByPairs
  refine V_aload_n hX (j := 2) (hj := rfl) 0 1 rfl rfl ?_
  refine V_iconst hX (v := 0) (hv := by decide) 1 2 rfl rfl ?_
  refine V_aload_n hX (j := 0) (hj := rfl) 2 3 rfl rfl ?_
  refine V_iload_n hX (j := 1) (hj := rfl) 3 4 rfl rfl ?_
  refine V_cat hX [((0, 9, 12, 13), 0, 1)] rfl (VR_V hX 4 (ct_SA_inversionsByPairs (cx_t hX) K v1 M) my_SA_inversionsByPairs mi_SA_inversionsByPairs ms_SA_inversionsByPairs ml_La_120 (Nat.le_of_ble_eq_true rfl) (Nat.le_of_ble_eq_true rfl) (by decide) (ent_0 K _) rfl rfl rfl (Nat.le_of_ble_eq_true rfl) rfl (Nat.le_of_ble_eq_true rfl) (Nat.le_of_ble_eq_true rfl)) (Nat.le_of_ble_eq_true rfl) (Nat.le_of_ble_eq_true rfl) (hk := List.forall_mem_cons.mpr ⟨ho_La_inversionsByPairs_0, fun _ h => nomatch h⟩) (hcv := List.forall_mem_cons.mpr ⟨by decide, fun _ h => nomatch h⟩) ?_ (fun r M1 => ?_)
  · refine List.forall_mem_cons.mpr ⟨fun a M1 => ?_, ?_⟩
    · refine V_astore_n hX 8 13 [(3, .ref a), (0, .ref (kA K 0)), (1, .int v1), (2, .ref (kA K 45))] rfl rfl (Nat.le_of_ble_eq_true rfl) rfl ?_
      refine V_iconst hX (v := 1) (hv := by decide) 9 14 rfl rfl ?_
      exact V_iret hX 10 rfl (Nat.le_of_ble_eq_true rfl) (Nat.le_of_ble_eq_true rfl) rfl
    exact fun _ h => nomatch h
  · refine V_i2l hX 5 8 rfl rfl ?_
    refine V_last hX 6 9 (v := r) rfl rfl (fun M2 hM2 => ?_)
    refine V_goto hX 7 15 rfl (by decide) ?_
    refine V_iconst hX (v := 0) (hv := by decide) 11 16 rfl rfl ?_
    exact V_iret hX 12 rfl (Nat.le_of_ble_eq_true rfl) (Nat.le_of_ble_eq_true rfl) rfl
def y_La_leastPeriod : MethodName := ⟨"SeriesArchiveLaw", "leastPeriod", "(LSeriesArchive;I[J)I"⟩
noncomputable def L_La_leastPeriod : zz_L := [(0, .aload_n 2, 1), (1, .iconst 0, 1), (2, .aload_n 0, 1), (3, .iload_n 1, 1), (4, .invokevirtual 123, 3), (7, .i2l, 1), (8, .lastore, 1), (9, .goto 9, 3), (12, .astore_n 3, 1), (13, .iconst 1, 1), (14, .ireturn, 1), (15, .astore_n 3, 1), (16, .iconst 2, 1), (17, .ireturn, 1), (18, .iconst 0, 1), (19, .ireturn, 1)]
theorem dec_La_leastPeriod : zz_decAll method_36_code L_La_leastPeriod = true := by decide +kernel
theorem ho_La_leastPeriod_0 : HOk "SeriesArchiveLaw" ((0, 9, 12, 13), 0, 1) := ⟨by decide, by decide, cl_La_13, ca_0⟩
theorem ho_La_leastPeriod_1 : HOk "SeriesArchiveLaw" ((0, 9, 15, 17), 2, 2) := ⟨by decide, by decide, cl_La_17, ca_2⟩
theorem myw_La_leastPeriod : MYW y_La_leastPeriod method_36_code 4 (some .int) [(0, 9, 12, 13), (0, 9, 15, 17)] 3 := ⟨zz_c5 84 (by decide +kernel) rfl, zz_c1 0 (by decide +kernel) rfl, by decide +kernel, by decide +kernel, by decide +kernel⟩
theorem mt_La_leastPeriod : Cond.static y_La_leastPeriod ∈ zz_good := zz_c5 83 (by decide +kernel) rfl
set_option maxRecDepth 20000 in
theorem ct_La_leastPeriod {l : Launch} (hl : l.stackTraces = false) (K : KT) (v1 : Int32) (M : Mm) : CTp l K y_La_leastPeriod (Cond.codeWith y_La_leastPeriod method_36_code 4 (some .int) [(0, 9, 12, 13), (0, 9, 15, 17)]) rvI 12 2 12 [.ref (kA K 0), .int v1, .ref (kA K 45)] M (fn_La_leastPeriod v1 M) := by
  refine CTp_ofH (L := L_La_leastPeriod) (lc := [(0, .ref (kA K 0)), (1, .int v1), (2, .ref (kA K 45))]) (by decide +kernel) dec_La_leastPeriod hl rfl (Nat.le_of_ble_eq_true rfl) (fun X hX => ?_)
  unfold fn_La_leastPeriod
  refine V_aload_n hX (j := 2) (hj := rfl) 0 1 rfl rfl ?_
  refine V_iconst hX (v := 0) (hv := by decide) 1 2 rfl rfl ?_
  refine V_aload_n hX (j := 0) (hj := rfl) 2 3 rfl rfl ?_
  refine V_iload_n hX (j := 1) (hj := rfl) 3 4 rfl rfl ?_
  refine V_cat hX [((0, 9, 12, 13), 0, 1), ((0, 9, 15, 17), 2, 2)] rfl (VR_V hX 4 (ct_SA_leastPeriod (cx_t hX) K v1 M) my_SA_leastPeriod mi_SA_leastPeriod ms_SA_leastPeriod ml_La_123 (Nat.le_of_ble_eq_true rfl) (Nat.le_of_ble_eq_true rfl) (by decide) (ent_0 K _) rfl rfl rfl (Nat.le_of_ble_eq_true rfl) rfl (Nat.le_of_ble_eq_true rfl) (Nat.le_of_ble_eq_true rfl)) (Nat.le_of_ble_eq_true rfl) (Nat.le_of_ble_eq_true rfl) (hk := List.forall_mem_cons.mpr ⟨ho_La_leastPeriod_0, List.forall_mem_cons.mpr ⟨ho_La_leastPeriod_1, fun _ h => nomatch h⟩⟩) (hcv := List.forall_mem_cons.mpr ⟨by decide, List.forall_mem_cons.mpr ⟨by decide, fun _ h => nomatch h⟩⟩) ?_ (fun r M1 => ?_)
  · refine List.forall_mem_cons.mpr ⟨fun a M1 => ?_, ?_⟩
    · refine V_astore_n hX 8 13 [(3, .ref a), (0, .ref (kA K 0)), (1, .int v1), (2, .ref (kA K 45))] rfl rfl (Nat.le_of_ble_eq_true rfl) rfl ?_
      refine V_iconst hX (v := 1) (hv := by decide) 9 14 rfl rfl ?_
      exact V_iret hX 10 rfl (Nat.le_of_ble_eq_true rfl) (Nat.le_of_ble_eq_true rfl) rfl
    refine List.forall_mem_cons.mpr ⟨fun a M1 => ?_, ?_⟩
    · refine V_astore_n hX 11 16 [(3, .ref a), (0, .ref (kA K 0)), (1, .int v1), (2, .ref (kA K 45))] rfl rfl (Nat.le_of_ble_eq_true rfl) rfl ?_
      refine V_iconst hX (v := 2) (hv := by decide) 12 17 rfl rfl ?_
      exact V_iret hX 13 rfl (Nat.le_of_ble_eq_true rfl) (Nat.le_of_ble_eq_true rfl) rfl
    exact fun _ h => nomatch h
  · refine V_i2l hX 5 8 rfl rfl ?_
    refine V_last hX 6 9 (v := r) rfl rfl (fun M2 hM2 => ?_)
    refine V_goto hX 7 18 rfl (by decide) ?_
    refine V_iconst hX (v := 0) (hv := by decide) 14 19 rfl rfl ?_
    exact V_iret hX 15 rfl (Nat.le_of_ble_eq_true rfl) (Nat.le_of_ble_eq_true rfl) rfl
def y_La_leastPeriodByTrial : MethodName := ⟨"SeriesArchiveLaw", "leastPeriodByTrial", "(LSeriesArchive;I[J)I"⟩
noncomputable def L_La_leastPeriodByTrial : zz_L := [(0, .aload_n 2, 1), (1, .iconst 0, 1), (2, .aload_n 0, 1), (3, .iload_n 1, 1), (4, .invokevirtual 126, 3), (7, .i2l, 1), (8, .lastore, 1), (9, .goto 9, 3), (12, .astore_n 3, 1), (13, .iconst 1, 1), (14, .ireturn, 1), (15, .astore_n 3, 1), (16, .iconst 2, 1), (17, .ireturn, 1), (18, .iconst 0, 1), (19, .ireturn, 1)]
theorem dec_La_leastPeriodByTrial : zz_decAll method_37_code L_La_leastPeriodByTrial = true := by decide +kernel
theorem ho_La_leastPeriodByTrial_0 : HOk "SeriesArchiveLaw" ((0, 9, 12, 13), 0, 1) := ⟨by decide, by decide, cl_La_13, ca_0⟩
theorem ho_La_leastPeriodByTrial_1 : HOk "SeriesArchiveLaw" ((0, 9, 15, 17), 2, 2) := ⟨by decide, by decide, cl_La_17, ca_2⟩
theorem myw_La_leastPeriodByTrial : MYW y_La_leastPeriodByTrial method_37_code 4 (some .int) [(0, 9, 12, 13), (0, 9, 15, 17)] 3 := ⟨zz_c5 92 (by decide +kernel) rfl, zz_c1 0 (by decide +kernel) rfl, by decide +kernel, by decide +kernel, by decide +kernel⟩
theorem mt_La_leastPeriodByTrial : Cond.static y_La_leastPeriodByTrial ∈ zz_good := zz_c5 91 (by decide +kernel) rfl
set_option maxRecDepth 20000 in
theorem ct_La_leastPeriodByTrial {l : Launch} (hl : l.stackTraces = false) (K : KT) (v1 : Int32) (M : Mm) : CTp l K y_La_leastPeriodByTrial (Cond.codeWith y_La_leastPeriodByTrial method_37_code 4 (some .int) [(0, 9, 12, 13), (0, 9, 15, 17)]) rvI 12 2 12 [.ref (kA K 0), .int v1, .ref (kA K 45)] M (fn_La_leastPeriodByTrial v1 M) := by
  refine CTp_ofH (L := L_La_leastPeriodByTrial) (lc := [(0, .ref (kA K 0)), (1, .int v1), (2, .ref (kA K 45))]) (by decide +kernel) dec_La_leastPeriodByTrial hl rfl (Nat.le_of_ble_eq_true rfl) (fun X hX => ?_)
  unfold fn_La_leastPeriodByTrial
  refine V_aload_n hX (j := 2) (hj := rfl) 0 1 rfl rfl ?_
  refine V_iconst hX (v := 0) (hv := by decide) 1 2 rfl rfl ?_
  refine V_aload_n hX (j := 0) (hj := rfl) 2 3 rfl rfl ?_
  refine V_iload_n hX (j := 1) (hj := rfl) 3 4 rfl rfl ?_
  refine V_cat hX [((0, 9, 12, 13), 0, 1), ((0, 9, 15, 17), 2, 2)] rfl (VR_V hX 4 (ct_SA_leastPeriodByTrial (cx_t hX) K v1 M) my_SA_leastPeriodByTrial mi_SA_leastPeriodByTrial ms_SA_leastPeriodByTrial ml_La_126 (Nat.le_of_ble_eq_true rfl) (Nat.le_of_ble_eq_true rfl) (by decide) (ent_0 K _) rfl rfl rfl (Nat.le_of_ble_eq_true rfl) rfl (Nat.le_of_ble_eq_true rfl) (Nat.le_of_ble_eq_true rfl)) (Nat.le_of_ble_eq_true rfl) (Nat.le_of_ble_eq_true rfl) (hk := List.forall_mem_cons.mpr ⟨ho_La_leastPeriodByTrial_0, List.forall_mem_cons.mpr ⟨ho_La_leastPeriodByTrial_1, fun _ h => nomatch h⟩⟩) (hcv := List.forall_mem_cons.mpr ⟨by decide, List.forall_mem_cons.mpr ⟨by decide, fun _ h => nomatch h⟩⟩) ?_ (fun r M1 => ?_)
  · refine List.forall_mem_cons.mpr ⟨fun a M1 => ?_, ?_⟩
    · refine V_astore_n hX 8 13 [(3, .ref a), (0, .ref (kA K 0)), (1, .int v1), (2, .ref (kA K 45))] rfl rfl (Nat.le_of_ble_eq_true rfl) rfl ?_
      refine V_iconst hX (v := 1) (hv := by decide) 9 14 rfl rfl ?_
      exact V_iret hX 10 rfl (Nat.le_of_ble_eq_true rfl) (Nat.le_of_ble_eq_true rfl) rfl
    refine List.forall_mem_cons.mpr ⟨fun a M1 => ?_, ?_⟩
    · refine V_astore_n hX 11 16 [(3, .ref a), (0, .ref (kA K 0)), (1, .int v1), (2, .ref (kA K 45))] rfl rfl (Nat.le_of_ble_eq_true rfl) rfl ?_
      refine V_iconst hX (v := 2) (hv := by decide) 12 17 rfl rfl ?_
      exact V_iret hX 13 rfl (Nat.le_of_ble_eq_true rfl) (Nat.le_of_ble_eq_true rfl) rfl
    exact fun _ h => nomatch h
  · refine V_i2l hX 5 8 rfl rfl ?_
    refine V_last hX 6 9 (v := r) rfl rfl (fun M2 hM2 => ?_)
    refine V_goto hX 7 18 rfl (by decide) ?_
    refine V_iconst hX (v := 0) (hv := by decide) 14 19 rfl rfl ?_
    exact V_iret hX 15 rfl (Nat.le_of_ble_eq_true rfl) (Nat.le_of_ble_eq_true rfl) rfl
def y_La_occurrences : MethodName := ⟨"SeriesArchiveLaw", "occurrences", "(LSeriesArchive;II[J)I"⟩
noncomputable def L_La_occurrences : zz_L := [(0, .aload_n 3, 1), (1, .iconst 0, 1), (2, .aload_n 0, 1), (3, .iload_n 1, 1), (4, .iload_n 2, 1), (5, .invokevirtual 129, 3), (8, .i2l, 1), (9, .lastore, 1), (10, .goto 11, 3), (13, .astore 4, 2), (15, .iconst 1, 1), (16, .ireturn, 1), (17, .astore 4, 2), (19, .iconst 2, 1), (20, .ireturn, 1), (21, .iconst 0, 1), (22, .ireturn, 1)]
theorem dec_La_occurrences : zz_decAll method_38_code L_La_occurrences = true := by decide +kernel
theorem ho_La_occurrences_0 : HOk "SeriesArchiveLaw" ((0, 10, 13, 13), 0, 1) := ⟨by decide, by decide, cl_La_13, ca_0⟩
theorem ho_La_occurrences_1 : HOk "SeriesArchiveLaw" ((0, 10, 17, 17), 2, 2) := ⟨by decide, by decide, cl_La_17, ca_2⟩
theorem myw_La_occurrences : MYW y_La_occurrences method_38_code 5 (some .int) [(0, 10, 13, 13), (0, 10, 17, 17)] 4 := ⟨zz_c5 100 (by decide +kernel) rfl, zz_c1 0 (by decide +kernel) rfl, by decide +kernel, by decide +kernel, by decide +kernel⟩
theorem mt_La_occurrences : Cond.static y_La_occurrences ∈ zz_good := zz_c5 99 (by decide +kernel) rfl
set_option maxRecDepth 20000 in
theorem ct_La_occurrences {l : Launch} (hl : l.stackTraces = false) (K : KT) (v1 : Int32) (v2 : Int32) (M : Mm) : CTp l K y_La_occurrences (Cond.codeWith y_La_occurrences method_38_code 5 (some .int) [(0, 10, 13, 13), (0, 10, 17, 17)]) rvI 12 3 18 [.ref (kA K 0), .int v1, .int v2, .ref (kA K 45)] M (fn_La_occurrences v1 v2 M) := by
  refine CTp_ofH (L := L_La_occurrences) (lc := [(0, .ref (kA K 0)), (1, .int v1), (2, .int v2), (3, .ref (kA K 45))]) (by decide +kernel) dec_La_occurrences hl rfl (Nat.le_of_ble_eq_true rfl) (fun X hX => ?_)
  unfold fn_La_occurrences
  refine V_aload_n hX (j := 3) (hj := rfl) 0 1 rfl rfl ?_
  refine V_iconst hX (v := 0) (hv := by decide) 1 2 rfl rfl ?_
  refine V_aload_n hX (j := 0) (hj := rfl) 2 3 rfl rfl ?_
  refine V_iload_n hX (j := 1) (hj := rfl) 3 4 rfl rfl ?_
  refine V_iload_n hX (j := 2) (hj := rfl) 4 5 rfl rfl ?_
  refine V_cat hX [((0, 10, 13, 13), 0, 1), ((0, 10, 17, 17), 2, 2)] rfl (VR_V hX 5 (ct_SA_occurrences (cx_t hX) K v1 v2 M) my_SA_occurrences mi_SA_occurrences ms_SA_occurrences ml_La_129 (Nat.le_of_ble_eq_true rfl) (Nat.le_of_ble_eq_true rfl) (by decide) (ent_0 K _) rfl rfl rfl (Nat.le_of_ble_eq_true rfl) rfl (Nat.le_of_ble_eq_true rfl) (Nat.le_of_ble_eq_true rfl)) (Nat.le_of_ble_eq_true rfl) (Nat.le_of_ble_eq_true rfl) (hk := List.forall_mem_cons.mpr ⟨ho_La_occurrences_0, List.forall_mem_cons.mpr ⟨ho_La_occurrences_1, fun _ h => nomatch h⟩⟩) (hcv := List.forall_mem_cons.mpr ⟨by decide, List.forall_mem_cons.mpr ⟨by decide, fun _ h => nomatch h⟩⟩) ?_ (fun r M1 => ?_)
  · refine List.forall_mem_cons.mpr ⟨fun a M1 => ?_, ?_⟩
    · refine V_astore hX 9 15 [(4, .ref a), (0, .ref (kA K 0)), (1, .int v1), (2, .int v2), (3, .ref (kA K 45))] rfl rfl (Nat.le_of_ble_eq_true rfl) rfl ?_
      refine V_iconst hX (v := 1) (hv := by decide) 10 16 rfl rfl ?_
      exact V_iret hX 11 rfl (Nat.le_of_ble_eq_true rfl) (Nat.le_of_ble_eq_true rfl) rfl
    refine List.forall_mem_cons.mpr ⟨fun a M1 => ?_, ?_⟩
    · refine V_astore hX 12 19 [(4, .ref a), (0, .ref (kA K 0)), (1, .int v1), (2, .int v2), (3, .ref (kA K 45))] rfl rfl (Nat.le_of_ble_eq_true rfl) rfl ?_
      refine V_iconst hX (v := 2) (hv := by decide) 13 20 rfl rfl ?_
      exact V_iret hX 14 rfl (Nat.le_of_ble_eq_true rfl) (Nat.le_of_ble_eq_true rfl) rfl
    exact fun _ h => nomatch h
  · refine V_i2l hX 6 9 rfl rfl ?_
    refine V_last hX 7 10 (v := r) rfl rfl (fun M2 hM2 => ?_)
    refine V_goto hX 8 21 rfl (by decide) ?_
    refine V_iconst hX (v := 0) (hv := by decide) 15 22 rfl rfl ?_
    exact V_iret hX 16 rfl (Nat.le_of_ble_eq_true rfl) (Nat.le_of_ble_eq_true rfl) rfl
def y_La_occurrencesByScan : MethodName := ⟨"SeriesArchiveLaw", "occurrencesByScan", "(LSeriesArchive;II[J)I"⟩
noncomputable def L_La_occurrencesByScan : zz_L := [(0, .aload_n 3, 1), (1, .iconst 0, 1), (2, .aload_n 0, 1), (3, .iload_n 1, 1), (4, .iload_n 2, 1), (5, .invokevirtual 132, 3), (8, .i2l, 1), (9, .lastore, 1), (10, .goto 11, 3), (13, .astore 4, 2), (15, .iconst 1, 1), (16, .ireturn, 1), (17, .astore 4, 2), (19, .iconst 2, 1), (20, .ireturn, 1), (21, .iconst 0, 1), (22, .ireturn, 1)]
theorem dec_La_occurrencesByScan : zz_decAll method_39_code L_La_occurrencesByScan = true := by decide +kernel
theorem ho_La_occurrencesByScan_0 : HOk "SeriesArchiveLaw" ((0, 10, 13, 13), 0, 1) := ⟨by decide, by decide, cl_La_13, ca_0⟩
theorem ho_La_occurrencesByScan_1 : HOk "SeriesArchiveLaw" ((0, 10, 17, 17), 2, 2) := ⟨by decide, by decide, cl_La_17, ca_2⟩
theorem myw_La_occurrencesByScan : MYW y_La_occurrencesByScan method_39_code 5 (some .int) [(0, 10, 13, 13), (0, 10, 17, 17)] 4 := ⟨zz_c5 111 (by decide +kernel) rfl, zz_c1 0 (by decide +kernel) rfl, by decide +kernel, by decide +kernel, by decide +kernel⟩
theorem mt_La_occurrencesByScan : Cond.static y_La_occurrencesByScan ∈ zz_good := zz_c5 110 (by decide +kernel) rfl
set_option maxRecDepth 20000 in
theorem ct_La_occurrencesByScan {l : Launch} (hl : l.stackTraces = false) (K : KT) (v1 : Int32) (v2 : Int32) (M : Mm) : CTp l K y_La_occurrencesByScan (Cond.codeWith y_La_occurrencesByScan method_39_code 5 (some .int) [(0, 10, 13, 13), (0, 10, 17, 17)]) rvI 12 3 18 [.ref (kA K 0), .int v1, .int v2, .ref (kA K 45)] M (fn_La_occurrencesByScan v1 v2 M) := by
  refine CTp_ofH (L := L_La_occurrencesByScan) (lc := [(0, .ref (kA K 0)), (1, .int v1), (2, .int v2), (3, .ref (kA K 45))]) (by decide +kernel) dec_La_occurrencesByScan hl rfl (Nat.le_of_ble_eq_true rfl) (fun X hX => ?_)
  unfold fn_La_occurrencesByScan
  refine V_aload_n hX (j := 3) (hj := rfl) 0 1 rfl rfl ?_
  refine V_iconst hX (v := 0) (hv := by decide) 1 2 rfl rfl ?_
  refine V_aload_n hX (j := 0) (hj := rfl) 2 3 rfl rfl ?_
  refine V_iload_n hX (j := 1) (hj := rfl) 3 4 rfl rfl ?_
  refine V_iload_n hX (j := 2) (hj := rfl) 4 5 rfl rfl ?_
  refine V_cat hX [((0, 10, 13, 13), 0, 1), ((0, 10, 17, 17), 2, 2)] rfl (VR_V hX 5 (ct_SA_occurrencesByScan (cx_t hX) K v1 v2 M) my_SA_occurrencesByScan mi_SA_occurrencesByScan ms_SA_occurrencesByScan ml_La_132 (Nat.le_of_ble_eq_true rfl) (Nat.le_of_ble_eq_true rfl) (by decide) (ent_0 K _) rfl rfl rfl (Nat.le_of_ble_eq_true rfl) rfl (Nat.le_of_ble_eq_true rfl) (Nat.le_of_ble_eq_true rfl)) (Nat.le_of_ble_eq_true rfl) (Nat.le_of_ble_eq_true rfl) (hk := List.forall_mem_cons.mpr ⟨ho_La_occurrencesByScan_0, List.forall_mem_cons.mpr ⟨ho_La_occurrencesByScan_1, fun _ h => nomatch h⟩⟩) (hcv := List.forall_mem_cons.mpr ⟨by decide, List.forall_mem_cons.mpr ⟨by decide, fun _ h => nomatch h⟩⟩) ?_ (fun r M1 => ?_)
  · refine List.forall_mem_cons.mpr ⟨fun a M1 => ?_, ?_⟩
    · refine V_astore hX 9 15 [(4, .ref a), (0, .ref (kA K 0)), (1, .int v1), (2, .int v2), (3, .ref (kA K 45))] rfl rfl (Nat.le_of_ble_eq_true rfl) rfl ?_
      refine V_iconst hX (v := 1) (hv := by decide) 10 16 rfl rfl ?_
      exact V_iret hX 11 rfl (Nat.le_of_ble_eq_true rfl) (Nat.le_of_ble_eq_true rfl) rfl
    refine List.forall_mem_cons.mpr ⟨fun a M1 => ?_, ?_⟩
    · refine V_astore hX 12 19 [(4, .ref a), (0, .ref (kA K 0)), (1, .int v1), (2, .int v2), (3, .ref (kA K 45))] rfl rfl (Nat.le_of_ble_eq_true rfl) rfl ?_
      refine V_iconst hX (v := 2) (hv := by decide) 13 20 rfl rfl ?_
      exact V_iret hX 14 rfl (Nat.le_of_ble_eq_true rfl) (Nat.le_of_ble_eq_true rfl) rfl
    exact fun _ h => nomatch h
  · refine V_i2l hX 6 9 rfl rfl ?_
    refine V_last hX 7 10 (v := r) rfl rfl (fun M2 hM2 => ?_)
    refine V_goto hX 8 21 rfl (by decide) ?_
    refine V_iconst hX (v := 0) (hv := by decide) 15 22 rfl rfl ?_
    exact V_iret hX 16 rfl (Nat.le_of_ble_eq_true rfl) (Nat.le_of_ble_eq_true rfl) rfl
def y_La_leastError : MethodName := ⟨"SeriesArchiveLaw", "leastError", "(LSeriesArchive;II[J)I"⟩
noncomputable def L_La_leastError : zz_L := [(0, .aload_n 3, 1), (1, .iconst 0, 1), (2, .aload_n 0, 1), (3, .iload_n 1, 1), (4, .iload_n 2, 1), (5, .invokevirtual 135, 3), (8, .i2l, 1), (9, .lastore, 1), (10, .goto 15, 3), (13, .astore 4, 2), (15, .iconst 1, 1), (16, .ireturn, 1), (17, .astore 4, 2), (19, .iconst 2, 1), (20, .ireturn, 1), (21, .astore 4, 2), (23, .iconst 3, 1), (24, .ireturn, 1), (25, .iconst 0, 1), (26, .ireturn, 1)]
theorem dec_La_leastError : zz_decAll method_40_code L_La_leastError = true := by decide +kernel
theorem ho_La_leastError_0 : HOk "SeriesArchiveLaw" ((0, 10, 13, 13), 0, 1) := ⟨by decide, by decide, cl_La_13, ca_0⟩
theorem ho_La_leastError_1 : HOk "SeriesArchiveLaw" ((0, 10, 17, 15), 1, 2) := ⟨by decide, by decide, cl_La_15, ca_1⟩
theorem ho_La_leastError_2 : HOk "SeriesArchiveLaw" ((0, 10, 21, 17), 2, 3) := ⟨by decide, by decide, cl_La_17, ca_2⟩
theorem myw_La_leastError : MYW y_La_leastError method_40_code 5 (some .int) [(0, 10, 13, 13), (0, 10, 17, 15), (0, 10, 21, 17)] 4 := ⟨zz_c5 124 (by decide +kernel) rfl, zz_c1 0 (by decide +kernel) rfl, by decide +kernel, by decide +kernel, by decide +kernel⟩
theorem mt_La_leastError : Cond.static y_La_leastError ∈ zz_good := zz_c5 123 (by decide +kernel) rfl
set_option maxRecDepth 20000 in
theorem ct_La_leastError {l : Launch} (hl : l.stackTraces = false) (K : KT) (v1 : Int32) (v2 : Int32) (M : Mm) : CTp l K y_La_leastError (Cond.codeWith y_La_leastError method_40_code 5 (some .int) [(0, 10, 13, 13), (0, 10, 17, 15), (0, 10, 21, 17)]) rvI 12 2 12 [.ref (kA K 0), .int v1, .int v2, .ref (kA K 45)] M (fn_La_leastError v1 v2 M) := by
  refine CTp_ofH (L := L_La_leastError) (lc := [(0, .ref (kA K 0)), (1, .int v1), (2, .int v2), (3, .ref (kA K 45))]) (by decide +kernel) dec_La_leastError hl rfl (Nat.le_of_ble_eq_true rfl) (fun X hX => ?_)
  unfold fn_La_leastError
  refine V_aload_n hX (j := 3) (hj := rfl) 0 1 rfl rfl ?_
  refine V_iconst hX (v := 0) (hv := by decide) 1 2 rfl rfl ?_
  refine V_aload_n hX (j := 0) (hj := rfl) 2 3 rfl rfl ?_
  refine V_iload_n hX (j := 1) (hj := rfl) 3 4 rfl rfl ?_
  refine V_iload_n hX (j := 2) (hj := rfl) 4 5 rfl rfl ?_
  refine V_cat hX [((0, 10, 13, 13), 0, 1), ((0, 10, 17, 15), 1, 2), ((0, 10, 21, 17), 2, 3)] rfl (VR_V hX 5 (ct_SA_leastError (cx_t hX) K v1 v2 M) my_SA_leastError mi_SA_leastError ms_SA_leastError ml_La_135 (Nat.le_of_ble_eq_true rfl) (Nat.le_of_ble_eq_true rfl) (by decide) (ent_0 K _) rfl rfl rfl (Nat.le_of_ble_eq_true rfl) rfl (Nat.le_of_ble_eq_true rfl) (Nat.le_of_ble_eq_true rfl)) (Nat.le_of_ble_eq_true rfl) (Nat.le_of_ble_eq_true rfl) (hk := List.forall_mem_cons.mpr ⟨ho_La_leastError_0, List.forall_mem_cons.mpr ⟨ho_La_leastError_1, List.forall_mem_cons.mpr ⟨ho_La_leastError_2, fun _ h => nomatch h⟩⟩⟩) (hcv := List.forall_mem_cons.mpr ⟨by decide, List.forall_mem_cons.mpr ⟨by decide, List.forall_mem_cons.mpr ⟨by decide, fun _ h => nomatch h⟩⟩⟩) ?_ (fun r M1 => ?_)
  · refine List.forall_mem_cons.mpr ⟨fun a M1 => ?_, ?_⟩
    · refine V_astore hX 9 15 [(4, .ref a), (0, .ref (kA K 0)), (1, .int v1), (2, .int v2), (3, .ref (kA K 45))] rfl rfl (Nat.le_of_ble_eq_true rfl) rfl ?_
      refine V_iconst hX (v := 1) (hv := by decide) 10 16 rfl rfl ?_
      exact V_iret hX 11 rfl (Nat.le_of_ble_eq_true rfl) (Nat.le_of_ble_eq_true rfl) rfl
    refine List.forall_mem_cons.mpr ⟨fun a M1 => ?_, ?_⟩
    · refine V_astore hX 12 19 [(4, .ref a), (0, .ref (kA K 0)), (1, .int v1), (2, .int v2), (3, .ref (kA K 45))] rfl rfl (Nat.le_of_ble_eq_true rfl) rfl ?_
      refine V_iconst hX (v := 2) (hv := by decide) 13 20 rfl rfl ?_
      exact V_iret hX 14 rfl (Nat.le_of_ble_eq_true rfl) (Nat.le_of_ble_eq_true rfl) rfl
    refine List.forall_mem_cons.mpr ⟨fun a M1 => ?_, ?_⟩
    · refine V_astore hX 15 23 [(4, .ref a), (0, .ref (kA K 0)), (1, .int v1), (2, .int v2), (3, .ref (kA K 45))] rfl rfl (Nat.le_of_ble_eq_true rfl) rfl ?_
      refine V_iconst hX (v := 3) (hv := by decide) 16 24 rfl rfl ?_
      exact V_iret hX 17 rfl (Nat.le_of_ble_eq_true rfl) (Nat.le_of_ble_eq_true rfl) rfl
    exact fun _ h => nomatch h
  · refine V_i2l hX 6 9 rfl rfl ?_
    refine V_last hX 7 10 (v := r) rfl rfl (fun M2 hM2 => ?_)
    refine V_goto hX 8 25 rfl (by decide) ?_
    refine V_iconst hX (v := 0) (hv := by decide) 18 26 rfl rfl ?_
    exact V_iret hX 19 rfl (Nat.le_of_ble_eq_true rfl) (Nat.le_of_ble_eq_true rfl) rfl
def y_La_leastErrorByCuts : MethodName := ⟨"SeriesArchiveLaw", "leastErrorByCuts", "(LSeriesArchive;II[J)I"⟩
noncomputable def L_La_leastErrorByCuts : zz_L := [(0, .aload_n 3, 1), (1, .iconst 0, 1), (2, .aload_n 0, 1), (3, .iload_n 1, 1), (4, .iload_n 2, 1), (5, .invokevirtual 138, 3), (8, .i2l, 1), (9, .lastore, 1), (10, .goto 15, 3), (13, .astore 4, 2), (15, .iconst 1, 1), (16, .ireturn, 1), (17, .astore 4, 2), (19, .iconst 2, 1), (20, .ireturn, 1), (21, .astore 4, 2), (23, .iconst 3, 1), (24, .ireturn, 1), (25, .iconst 0, 1), (26, .ireturn, 1)]
theorem dec_La_leastErrorByCuts : zz_decAll method_41_code L_La_leastErrorByCuts = true := by decide +kernel
theorem ho_La_leastErrorByCuts_0 : HOk "SeriesArchiveLaw" ((0, 10, 13, 13), 0, 1) := ⟨by decide, by decide, cl_La_13, ca_0⟩
theorem ho_La_leastErrorByCuts_1 : HOk "SeriesArchiveLaw" ((0, 10, 17, 15), 1, 2) := ⟨by decide, by decide, cl_La_15, ca_1⟩
theorem ho_La_leastErrorByCuts_2 : HOk "SeriesArchiveLaw" ((0, 10, 21, 17), 2, 3) := ⟨by decide, by decide, cl_La_17, ca_2⟩
theorem myw_La_leastErrorByCuts : MYW y_La_leastErrorByCuts method_41_code 5 (some .int) [(0, 10, 13, 13), (0, 10, 17, 15), (0, 10, 21, 17)] 4 := ⟨zz_c5 155 (by decide +kernel) rfl, zz_c1 0 (by decide +kernel) rfl, by decide +kernel, by decide +kernel, by decide +kernel⟩
theorem mt_La_leastErrorByCuts : Cond.static y_La_leastErrorByCuts ∈ zz_good := zz_c5 154 (by decide +kernel) rfl
set_option maxRecDepth 20000 in
theorem ct_La_leastErrorByCuts {l : Launch} (hl : l.stackTraces = false) (K : KT) (v1 : Int32) (v2 : Int32) (M : Mm) : CTp l K y_La_leastErrorByCuts (Cond.codeWith y_La_leastErrorByCuts method_41_code 5 (some .int) [(0, 10, 13, 13), (0, 10, 17, 15), (0, 10, 21, 17)]) rvI 52 2 12 [.ref (kA K 0), .int v1, .int v2, .ref (kA K 45)] M (fn_La_leastErrorByCuts v1 v2 M) := by
  refine CTp_ofH (L := L_La_leastErrorByCuts) (lc := [(0, .ref (kA K 0)), (1, .int v1), (2, .int v2), (3, .ref (kA K 45))]) (by decide +kernel) dec_La_leastErrorByCuts hl rfl (Nat.le_of_ble_eq_true rfl) (fun X hX => ?_)
  unfold fn_La_leastErrorByCuts
  refine V_aload_n hX (j := 3) (hj := rfl) 0 1 rfl rfl ?_
  refine V_iconst hX (v := 0) (hv := by decide) 1 2 rfl rfl ?_
  refine V_aload_n hX (j := 0) (hj := rfl) 2 3 rfl rfl ?_
  refine V_iload_n hX (j := 1) (hj := rfl) 3 4 rfl rfl ?_
  refine V_iload_n hX (j := 2) (hj := rfl) 4 5 rfl rfl ?_
  refine V_cat hX [((0, 10, 13, 13), 0, 1), ((0, 10, 17, 15), 1, 2), ((0, 10, 21, 17), 2, 3)] rfl (VR_V hX 5 (ct_SA_leastErrorByCuts (cx_t hX) K v1 v2 M) my_SA_leastErrorByCuts mi_SA_leastErrorByCuts ms_SA_leastErrorByCuts ml_La_138 (Nat.le_of_ble_eq_true rfl) (Nat.le_of_ble_eq_true rfl) (by decide) (ent_0 K _) rfl rfl rfl (Nat.le_of_ble_eq_true rfl) rfl (Nat.le_of_ble_eq_true rfl) (Nat.le_of_ble_eq_true rfl)) (Nat.le_of_ble_eq_true rfl) (Nat.le_of_ble_eq_true rfl) (hk := List.forall_mem_cons.mpr ⟨ho_La_leastErrorByCuts_0, List.forall_mem_cons.mpr ⟨ho_La_leastErrorByCuts_1, List.forall_mem_cons.mpr ⟨ho_La_leastErrorByCuts_2, fun _ h => nomatch h⟩⟩⟩) (hcv := List.forall_mem_cons.mpr ⟨by decide, List.forall_mem_cons.mpr ⟨by decide, List.forall_mem_cons.mpr ⟨by decide, fun _ h => nomatch h⟩⟩⟩) ?_ (fun r M1 => ?_)
  · refine List.forall_mem_cons.mpr ⟨fun a M1 => ?_, ?_⟩
    · refine V_astore hX 9 15 [(4, .ref a), (0, .ref (kA K 0)), (1, .int v1), (2, .int v2), (3, .ref (kA K 45))] rfl rfl (Nat.le_of_ble_eq_true rfl) rfl ?_
      refine V_iconst hX (v := 1) (hv := by decide) 10 16 rfl rfl ?_
      exact V_iret hX 11 rfl (Nat.le_of_ble_eq_true rfl) (Nat.le_of_ble_eq_true rfl) rfl
    refine List.forall_mem_cons.mpr ⟨fun a M1 => ?_, ?_⟩
    · refine V_astore hX 12 19 [(4, .ref a), (0, .ref (kA K 0)), (1, .int v1), (2, .int v2), (3, .ref (kA K 45))] rfl rfl (Nat.le_of_ble_eq_true rfl) rfl ?_
      refine V_iconst hX (v := 2) (hv := by decide) 13 20 rfl rfl ?_
      exact V_iret hX 14 rfl (Nat.le_of_ble_eq_true rfl) (Nat.le_of_ble_eq_true rfl) rfl
    refine List.forall_mem_cons.mpr ⟨fun a M1 => ?_, ?_⟩
    · refine V_astore hX 15 23 [(4, .ref a), (0, .ref (kA K 0)), (1, .int v1), (2, .int v2), (3, .ref (kA K 45))] rfl rfl (Nat.le_of_ble_eq_true rfl) rfl ?_
      refine V_iconst hX (v := 3) (hv := by decide) 16 24 rfl rfl ?_
      exact V_iret hX 17 rfl (Nat.le_of_ble_eq_true rfl) (Nat.le_of_ble_eq_true rfl) rfl
    exact fun _ h => nomatch h
  · refine V_i2l hX 6 9 rfl rfl ?_
    refine V_last hX 7 10 (v := r) rfl rfl (fun M2 hM2 => ?_)
    refine V_goto hX 8 25 rfl (by decide) ?_
    refine V_iconst hX (v := 0) (hv := by decide) 18 26 rfl rfl ?_
    exact V_iret hX 19 rfl (Nat.le_of_ble_eq_true rfl) (Nat.le_of_ble_eq_true rfl) rfl
def y_La_segmentStart : MethodName := ⟨"SeriesArchiveLaw", "segmentStart", "(LSeriesArchive;III[J)I"⟩
noncomputable def L_La_segmentStart : zz_L := [(0, .aload 4, 2), (2, .iconst 0, 1), (3, .aload_n 0, 1), (4, .iload_n 1, 1), (5, .iload_n 2, 1), (6, .iload_n 3, 1), (7, .invokevirtual 141, 3), (10, .i2l, 1), (11, .lastore, 1), (12, .goto 19, 3), (15, .astore 5, 2), (17, .iconst 1, 1), (18, .ireturn, 1), (19, .astore 5, 2), (21, .iconst 2, 1), (22, .ireturn, 1), (23, .astore 5, 2), (25, .iconst 3, 1), (26, .ireturn, 1), (27, .astore 5, 2), (29, .iconst 4, 1), (30, .ireturn, 1), (31, .iconst 0, 1), (32, .ireturn, 1)]
theorem dec_La_segmentStart : zz_decAll method_42_code L_La_segmentStart = true := by decide +kernel
theorem ho_La_segmentStart_0 : HOk "SeriesArchiveLaw" ((0, 12, 15, 13), 0, 1) := ⟨by decide, by decide, cl_La_13, ca_0⟩
theorem ho_La_segmentStart_1 : HOk "SeriesArchiveLaw" ((0, 12, 19, 15), 1, 2) := ⟨by decide, by decide, cl_La_15, ca_1⟩
theorem ho_La_segmentStart_2 : HOk "SeriesArchiveLaw" ((0, 12, 23, 17), 2, 3) := ⟨by decide, by decide, cl_La_17, ca_2⟩
theorem ho_La_segmentStart_3 : HOk "SeriesArchiveLaw" ((0, 12, 27, 69), 3, 4) := ⟨by decide, by decide, cl_La_69, ca_3⟩
theorem myw_La_segmentStart : MYW y_La_segmentStart method_42_code 6 (some .int) [(0, 12, 15, 13), (0, 12, 19, 15), (0, 12, 23, 17), (0, 12, 27, 69)] 5 := ⟨zz_c5 168 (by decide +kernel) rfl, zz_c1 0 (by decide +kernel) rfl, by decide +kernel, by decide +kernel, by decide +kernel⟩
theorem mt_La_segmentStart : Cond.static y_La_segmentStart ∈ zz_good := zz_c5 167 (by decide +kernel) rfl
set_option maxRecDepth 20000 in
theorem ct_La_segmentStart {l : Launch} (hl : l.stackTraces = false) (K : KT) (v1 : Int32) (v2 : Int32) (v3 : Int32) (M : Mm) : CTp l K y_La_segmentStart (Cond.codeWith y_La_segmentStart method_42_code 6 (some .int) [(0, 12, 15, 13), (0, 12, 19, 15), (0, 12, 23, 17), (0, 12, 27, 69)]) rvI 12 3 18 [.ref (kA K 0), .int v1, .int v2, .int v3, .ref (kA K 45)] M (fn_La_segmentStart v1 v2 v3 M) := by
  refine CTp_ofH (L := L_La_segmentStart) (lc := [(0, .ref (kA K 0)), (1, .int v1), (2, .int v2), (3, .int v3), (4, .ref (kA K 45))]) (by decide +kernel) dec_La_segmentStart hl rfl (Nat.le_of_ble_eq_true rfl) (fun X hX => ?_)
  unfold fn_La_segmentStart
  refine V_aload hX (j := 4) (hj := rfl) 0 2 rfl rfl ?_
  refine V_iconst hX (v := 0) (hv := by decide) 1 3 rfl rfl ?_
  refine V_aload_n hX (j := 0) (hj := rfl) 2 4 rfl rfl ?_
  refine V_iload_n hX (j := 1) (hj := rfl) 3 5 rfl rfl ?_
  refine V_iload_n hX (j := 2) (hj := rfl) 4 6 rfl rfl ?_
  refine V_iload_n hX (j := 3) (hj := rfl) 5 7 rfl rfl ?_
  refine V_cat hX [((0, 12, 15, 13), 0, 1), ((0, 12, 19, 15), 1, 2), ((0, 12, 23, 17), 2, 3), ((0, 12, 27, 69), 3, 4)] rfl (VR_V hX 6 (ct_SA_segmentStart (cx_t hX) K v1 v2 v3 M) my_SA_segmentStart mi_SA_segmentStart ms_SA_segmentStart ml_La_141 (Nat.le_of_ble_eq_true rfl) (Nat.le_of_ble_eq_true rfl) (by decide) (ent_0 K _) rfl rfl rfl (Nat.le_of_ble_eq_true rfl) rfl (Nat.le_of_ble_eq_true rfl) (Nat.le_of_ble_eq_true rfl)) (Nat.le_of_ble_eq_true rfl) (Nat.le_of_ble_eq_true rfl) (hk := List.forall_mem_cons.mpr ⟨ho_La_segmentStart_0, List.forall_mem_cons.mpr ⟨ho_La_segmentStart_1, List.forall_mem_cons.mpr ⟨ho_La_segmentStart_2, List.forall_mem_cons.mpr ⟨ho_La_segmentStart_3, fun _ h => nomatch h⟩⟩⟩⟩) (hcv := List.forall_mem_cons.mpr ⟨by decide, List.forall_mem_cons.mpr ⟨by decide, List.forall_mem_cons.mpr ⟨by decide, List.forall_mem_cons.mpr ⟨by decide, fun _ h => nomatch h⟩⟩⟩⟩) ?_ (fun r M1 => ?_)
  · refine List.forall_mem_cons.mpr ⟨fun a M1 => ?_, ?_⟩
    · refine V_astore hX 10 17 [(5, .ref a), (0, .ref (kA K 0)), (1, .int v1), (2, .int v2), (3, .int v3), (4, .ref (kA K 45))] rfl rfl (Nat.le_of_ble_eq_true rfl) rfl ?_
      refine V_iconst hX (v := 1) (hv := by decide) 11 18 rfl rfl ?_
      exact V_iret hX 12 rfl (Nat.le_of_ble_eq_true rfl) (Nat.le_of_ble_eq_true rfl) rfl
    refine List.forall_mem_cons.mpr ⟨fun a M1 => ?_, ?_⟩
    · refine V_astore hX 13 21 [(5, .ref a), (0, .ref (kA K 0)), (1, .int v1), (2, .int v2), (3, .int v3), (4, .ref (kA K 45))] rfl rfl (Nat.le_of_ble_eq_true rfl) rfl ?_
      refine V_iconst hX (v := 2) (hv := by decide) 14 22 rfl rfl ?_
      exact V_iret hX 15 rfl (Nat.le_of_ble_eq_true rfl) (Nat.le_of_ble_eq_true rfl) rfl
    refine List.forall_mem_cons.mpr ⟨fun a M1 => ?_, ?_⟩
    · refine V_astore hX 16 25 [(5, .ref a), (0, .ref (kA K 0)), (1, .int v1), (2, .int v2), (3, .int v3), (4, .ref (kA K 45))] rfl rfl (Nat.le_of_ble_eq_true rfl) rfl ?_
      refine V_iconst hX (v := 3) (hv := by decide) 17 26 rfl rfl ?_
      exact V_iret hX 18 rfl (Nat.le_of_ble_eq_true rfl) (Nat.le_of_ble_eq_true rfl) rfl
    refine List.forall_mem_cons.mpr ⟨fun a M1 => ?_, ?_⟩
    · refine V_astore hX 19 29 [(5, .ref a), (0, .ref (kA K 0)), (1, .int v1), (2, .int v2), (3, .int v3), (4, .ref (kA K 45))] rfl rfl (Nat.le_of_ble_eq_true rfl) rfl ?_
      refine V_iconst hX (v := 4) (hv := by decide) 20 30 rfl rfl ?_
      exact V_iret hX 21 rfl (Nat.le_of_ble_eq_true rfl) (Nat.le_of_ble_eq_true rfl) rfl
    exact fun _ h => nomatch h
  · refine V_i2l hX 7 11 rfl rfl ?_
    refine V_last hX 8 12 (v := r) rfl rfl (fun M2 hM2 => ?_)
    refine V_goto hX 9 31 rfl (by decide) ?_
    refine V_iconst hX (v := 0) (hv := by decide) 22 32 rfl rfl ?_
    exact V_iret hX 23 rfl (Nat.le_of_ble_eq_true rfl) (Nat.le_of_ble_eq_true rfl) rfl
def y_La_distance : MethodName := ⟨"SeriesArchiveLaw", "distance", "(LSeriesArchive;II[J)I"⟩
noncomputable def L_La_distance : zz_L := [(0, .aload_n 3, 1), (1, .iconst 0, 1), (2, .aload_n 0, 1), (3, .iload_n 1, 1), (4, .iload_n 2, 1), (5, .invokevirtual 144, 3), (8, .i2l, 1), (9, .lastore, 1), (10, .goto 11, 3), (13, .astore 4, 2), (15, .iconst 1, 1), (16, .ireturn, 1), (17, .astore 4, 2), (19, .iconst 2, 1), (20, .ireturn, 1), (21, .iconst 0, 1), (22, .ireturn, 1)]
theorem dec_La_distance : zz_decAll method_43_code L_La_distance = true := by decide +kernel
theorem ho_La_distance_0 : HOk "SeriesArchiveLaw" ((0, 10, 13, 13), 0, 1) := ⟨by decide, by decide, cl_La_13, ca_0⟩
theorem ho_La_distance_1 : HOk "SeriesArchiveLaw" ((0, 10, 17, 17), 2, 2) := ⟨by decide, by decide, cl_La_17, ca_2⟩
theorem myw_La_distance : MYW y_La_distance method_43_code 5 (some .int) [(0, 10, 13, 13), (0, 10, 17, 17)] 4 := ⟨zz_c5 192 (by decide +kernel) rfl, zz_c1 0 (by decide +kernel) rfl, by decide +kernel, by decide +kernel, by decide +kernel⟩
theorem mt_La_distance : Cond.static y_La_distance ∈ zz_good := zz_c5 191 (by decide +kernel) rfl
set_option maxRecDepth 20000 in
theorem ct_La_distance {l : Launch} (hl : l.stackTraces = false) (K : KT) (v1 : Int32) (v2 : Int32) (M : Mm) : CTp l K y_La_distance (Cond.codeWith y_La_distance method_43_code 5 (some .int) [(0, 10, 13, 13), (0, 10, 17, 17)]) rvI 12 3 18 [.ref (kA K 0), .int v1, .int v2, .ref (kA K 45)] M (fn_La_distance v1 v2 M) := by
  refine CTp_ofH (L := L_La_distance) (lc := [(0, .ref (kA K 0)), (1, .int v1), (2, .int v2), (3, .ref (kA K 45))]) (by decide +kernel) dec_La_distance hl rfl (Nat.le_of_ble_eq_true rfl) (fun X hX => ?_)
  unfold fn_La_distance
  refine V_aload_n hX (j := 3) (hj := rfl) 0 1 rfl rfl ?_
  refine V_iconst hX (v := 0) (hv := by decide) 1 2 rfl rfl ?_
  refine V_aload_n hX (j := 0) (hj := rfl) 2 3 rfl rfl ?_
  refine V_iload_n hX (j := 1) (hj := rfl) 3 4 rfl rfl ?_
  refine V_iload_n hX (j := 2) (hj := rfl) 4 5 rfl rfl ?_
  refine V_cat hX [((0, 10, 13, 13), 0, 1), ((0, 10, 17, 17), 2, 2)] rfl (VR_V hX 5 (ct_SA_distance (cx_t hX) K v1 v2 M) my_SA_distance mi_SA_distance ms_SA_distance ml_La_144 (Nat.le_of_ble_eq_true rfl) (Nat.le_of_ble_eq_true rfl) (by decide) (ent_0 K _) rfl rfl rfl (Nat.le_of_ble_eq_true rfl) rfl (Nat.le_of_ble_eq_true rfl) (Nat.le_of_ble_eq_true rfl)) (Nat.le_of_ble_eq_true rfl) (Nat.le_of_ble_eq_true rfl) (hk := List.forall_mem_cons.mpr ⟨ho_La_distance_0, List.forall_mem_cons.mpr ⟨ho_La_distance_1, fun _ h => nomatch h⟩⟩) (hcv := List.forall_mem_cons.mpr ⟨by decide, List.forall_mem_cons.mpr ⟨by decide, fun _ h => nomatch h⟩⟩) ?_ (fun r M1 => ?_)
  · refine List.forall_mem_cons.mpr ⟨fun a M1 => ?_, ?_⟩
    · refine V_astore hX 9 15 [(4, .ref a), (0, .ref (kA K 0)), (1, .int v1), (2, .int v2), (3, .ref (kA K 45))] rfl rfl (Nat.le_of_ble_eq_true rfl) rfl ?_
      refine V_iconst hX (v := 1) (hv := by decide) 10 16 rfl rfl ?_
      exact V_iret hX 11 rfl (Nat.le_of_ble_eq_true rfl) (Nat.le_of_ble_eq_true rfl) rfl
    refine List.forall_mem_cons.mpr ⟨fun a M1 => ?_, ?_⟩
    · refine V_astore hX 12 19 [(4, .ref a), (0, .ref (kA K 0)), (1, .int v1), (2, .int v2), (3, .ref (kA K 45))] rfl rfl (Nat.le_of_ble_eq_true rfl) rfl ?_
      refine V_iconst hX (v := 2) (hv := by decide) 13 20 rfl rfl ?_
      exact V_iret hX 14 rfl (Nat.le_of_ble_eq_true rfl) (Nat.le_of_ble_eq_true rfl) rfl
    exact fun _ h => nomatch h
  · refine V_i2l hX 6 9 rfl rfl ?_
    refine V_last hX 7 10 (v := r) rfl rfl (fun M2 hM2 => ?_)
    refine V_goto hX 8 21 rfl (by decide) ?_
    refine V_iconst hX (v := 0) (hv := by decide) 15 22 rfl rfl ?_
    exact V_iret hX 16 rfl (Nat.le_of_ble_eq_true rfl) (Nat.le_of_ble_eq_true rfl) rfl
def y_La_distanceByWalks : MethodName := ⟨"SeriesArchiveLaw", "distanceByWalks", "(LSeriesArchive;II[J)I"⟩
noncomputable def L_La_distanceByWalks : zz_L := [(0, .aload_n 3, 1), (1, .iconst 0, 1), (2, .aload_n 0, 1), (3, .iload_n 1, 1), (4, .iload_n 2, 1), (5, .invokevirtual 147, 3), (8, .i2l, 1), (9, .lastore, 1), (10, .goto 11, 3), (13, .astore 4, 2), (15, .iconst 1, 1), (16, .ireturn, 1), (17, .astore 4, 2), (19, .iconst 2, 1), (20, .ireturn, 1), (21, .iconst 0, 1), (22, .ireturn, 1)]
theorem dec_La_distanceByWalks : zz_decAll method_44_code L_La_distanceByWalks = true := by decide +kernel
theorem ho_La_distanceByWalks_0 : HOk "SeriesArchiveLaw" ((0, 10, 13, 13), 0, 1) := ⟨by decide, by decide, cl_La_13, ca_0⟩
theorem ho_La_distanceByWalks_1 : HOk "SeriesArchiveLaw" ((0, 10, 17, 17), 2, 2) := ⟨by decide, by decide, cl_La_17, ca_2⟩
theorem myw_La_distanceByWalks : MYW y_La_distanceByWalks method_44_code 5 (some .int) [(0, 10, 13, 13), (0, 10, 17, 17)] 4 := ⟨zz_c5 227 (by decide +kernel) rfl, zz_c1 0 (by decide +kernel) rfl, by decide +kernel, by decide +kernel, by decide +kernel⟩
theorem mt_La_distanceByWalks : Cond.static y_La_distanceByWalks ∈ zz_good := zz_c5 226 (by decide +kernel) rfl
set_option maxRecDepth 20000 in
theorem ct_La_distanceByWalks {l : Launch} (hl : l.stackTraces = false) (K : KT) (v1 : Int32) (v2 : Int32) (M : Mm) : CTp l K y_La_distanceByWalks (Cond.codeWith y_La_distanceByWalks method_44_code 5 (some .int) [(0, 10, 13, 13), (0, 10, 17, 17)]) rvI 51 3 18 [.ref (kA K 0), .int v1, .int v2, .ref (kA K 45)] M (fn_La_distanceByWalks v1 v2 M) := by
  refine CTp_ofH (L := L_La_distanceByWalks) (lc := [(0, .ref (kA K 0)), (1, .int v1), (2, .int v2), (3, .ref (kA K 45))]) (by decide +kernel) dec_La_distanceByWalks hl rfl (Nat.le_of_ble_eq_true rfl) (fun X hX => ?_)
  unfold fn_La_distanceByWalks
  refine V_aload_n hX (j := 3) (hj := rfl) 0 1 rfl rfl ?_
  refine V_iconst hX (v := 0) (hv := by decide) 1 2 rfl rfl ?_
  refine V_aload_n hX (j := 0) (hj := rfl) 2 3 rfl rfl ?_
  refine V_iload_n hX (j := 1) (hj := rfl) 3 4 rfl rfl ?_
  refine V_iload_n hX (j := 2) (hj := rfl) 4 5 rfl rfl ?_
  refine V_cat hX [((0, 10, 13, 13), 0, 1), ((0, 10, 17, 17), 2, 2)] rfl (VR_V hX 5 (ct_SA_distanceByWalks (cx_t hX) K v1 v2 M) my_SA_distanceByWalks mi_SA_distanceByWalks ms_SA_distanceByWalks ml_La_147 (Nat.le_of_ble_eq_true rfl) (Nat.le_of_ble_eq_true rfl) (by decide) (ent_0 K _) rfl rfl rfl (Nat.le_of_ble_eq_true rfl) rfl (Nat.le_of_ble_eq_true rfl) (Nat.le_of_ble_eq_true rfl)) (Nat.le_of_ble_eq_true rfl) (Nat.le_of_ble_eq_true rfl) (hk := List.forall_mem_cons.mpr ⟨ho_La_distanceByWalks_0, List.forall_mem_cons.mpr ⟨ho_La_distanceByWalks_1, fun _ h => nomatch h⟩⟩) (hcv := List.forall_mem_cons.mpr ⟨by decide, List.forall_mem_cons.mpr ⟨by decide, fun _ h => nomatch h⟩⟩) ?_ (fun r M1 => ?_)
  · refine List.forall_mem_cons.mpr ⟨fun a M1 => ?_, ?_⟩
    · refine V_astore hX 9 15 [(4, .ref a), (0, .ref (kA K 0)), (1, .int v1), (2, .int v2), (3, .ref (kA K 45))] rfl rfl (Nat.le_of_ble_eq_true rfl) rfl ?_
      refine V_iconst hX (v := 1) (hv := by decide) 10 16 rfl rfl ?_
      exact V_iret hX 11 rfl (Nat.le_of_ble_eq_true rfl) (Nat.le_of_ble_eq_true rfl) rfl
    refine List.forall_mem_cons.mpr ⟨fun a M1 => ?_, ?_⟩
    · refine V_astore hX 12 19 [(4, .ref a), (0, .ref (kA K 0)), (1, .int v1), (2, .int v2), (3, .ref (kA K 45))] rfl rfl (Nat.le_of_ble_eq_true rfl) rfl ?_
      refine V_iconst hX (v := 2) (hv := by decide) 13 20 rfl rfl ?_
      exact V_iret hX 14 rfl (Nat.le_of_ble_eq_true rfl) (Nat.le_of_ble_eq_true rfl) rfl
    exact fun _ h => nomatch h
  · refine V_i2l hX 6 9 rfl rfl ?_
    refine V_last hX 7 10 (v := r) rfl rfl (fun M2 hM2 => ?_)
    refine V_goto hX 8 21 rfl (by decide) ?_
    refine V_iconst hX (v := 0) (hv := by decide) 15 22 rfl rfl ?_
    exact V_iret hX 16 rfl (Nat.le_of_ble_eq_true rfl) (Nat.le_of_ble_eq_true rfl) rfl
def y_La_areEqual : MethodName := ⟨"SeriesArchiveLaw", "areEqual", "(LSeriesArchive;II[J)I"⟩
noncomputable def L_La_areEqual : zz_L := [(0, .aload_n 3, 1), (1, .iconst 0, 1), (2, .aload_n 0, 1), (3, .iload_n 1, 1), (4, .iload_n 2, 1), (5, .invokevirtual 150, 3), (8, .ifCond .eq 7, 3), (11, .lconst 1, 1), (12, .goto 4, 3), (15, .lconst 0, 1), (16, .lastore, 1), (17, .goto 7, 3), (20, .astore 4, 2), (22, .iconst 1, 1), (23, .ireturn, 1), (24, .iconst 0, 1), (25, .ireturn, 1)]
theorem dec_La_areEqual : zz_decAll method_45_code L_La_areEqual = true := by decide +kernel
theorem ho_La_areEqual_0 : HOk "SeriesArchiveLaw" ((0, 17, 20, 13), 0, 1) := ⟨by decide, by decide, cl_La_13, ca_0⟩
theorem myw_La_areEqual : MYW y_La_areEqual method_45_code 5 (some .int) [(0, 17, 20, 13)] 4 := ⟨zz_c6 2 (by decide +kernel) rfl, zz_c1 0 (by decide +kernel) rfl, by decide +kernel, by decide +kernel, by decide +kernel⟩
theorem mt_La_areEqual : Cond.static y_La_areEqual ∈ zz_good := zz_c6 1 (by decide +kernel) rfl
set_option maxRecDepth 20000 in
theorem ct_La_areEqual {l : Launch} (hl : l.stackTraces = false) (K : KT) (v1 : Int32) (v2 : Int32) (M : Mm) : CTp l K y_La_areEqual (Cond.codeWith y_La_areEqual method_45_code 5 (some .int) [(0, 17, 20, 13)]) rvI 11 2 12 [.ref (kA K 0), .int v1, .int v2, .ref (kA K 45)] M (fn_La_areEqual v1 v2 M) := by
  refine CTp_ofH (L := L_La_areEqual) (lc := [(0, .ref (kA K 0)), (1, .int v1), (2, .int v2), (3, .ref (kA K 45))]) (by decide +kernel) dec_La_areEqual hl rfl (Nat.le_of_ble_eq_true rfl) (fun X hX => ?_)
  unfold fn_La_areEqual
  refine V_aload_n hX (j := 3) (hj := rfl) 0 1 rfl rfl ?_
  refine V_iconst hX (v := 0) (hv := by decide) 1 2 rfl rfl ?_
  refine V_aload_n hX (j := 0) (hj := rfl) 2 3 rfl rfl ?_
  refine V_iload_n hX (j := 1) (hj := rfl) 3 4 rfl rfl ?_
  refine V_iload_n hX (j := 2) (hj := rfl) 4 5 rfl rfl ?_
  refine V_cat hX [((0, 17, 20, 13), 0, 1)] rfl (VR_V hX 5 (ct_SA_areEqual (cx_t hX) K v1 v2 M) my_SA_areEqual mi_SA_areEqual ms_SA_areEqual ml_La_150 (Nat.le_of_ble_eq_true rfl) (Nat.le_of_ble_eq_true rfl) (by decide) (ent_0 K _) rfl rfl rfl (Nat.le_of_ble_eq_true rfl) rfl (Nat.le_of_ble_eq_true rfl) (Nat.le_of_ble_eq_true rfl)) (Nat.le_of_ble_eq_true rfl) (Nat.le_of_ble_eq_true rfl) (hk := List.forall_mem_cons.mpr ⟨ho_La_areEqual_0, fun _ h => nomatch h⟩) (hcv := List.forall_mem_cons.mpr ⟨by decide, fun _ h => nomatch h⟩) ?_ (fun r M1 => ?_)
  · refine List.forall_mem_cons.mpr ⟨fun a M1 => ?_, ?_⟩
    · refine V_astore hX 12 22 [(4, .ref a), (0, .ref (kA K 0)), (1, .int v1), (2, .int v2), (3, .ref (kA K 45))] rfl rfl (Nat.le_of_ble_eq_true rfl) rfl ?_
      refine V_iconst hX (v := 1) (hv := by decide) 13 23 rfl rfl ?_
      exact V_iret hX 14 rfl (Nat.le_of_ble_eq_true rfl) (Nat.le_of_ble_eq_true rfl) rfl
    exact fun _ h => nomatch h
  · refine V_if_eq hX 6 11 15 rfl rfl (by decide) (fun _ => ?_) (fun _ => ?_)
    · refine V_lconst hX 9 16 rfl rfl (Int32.toInt64 0) (by decide) ?_
      refine V_last hX 10 17 (v := 0) rfl rfl (fun M2 hM2 => ?_)
      refine V_goto hX 11 24 rfl (by decide) ?_
      refine V_iconst hX (v := 0) (hv := by decide) 15 25 rfl rfl ?_
      exact V_iret hX 16 rfl (Nat.le_of_ble_eq_true rfl) (Nat.le_of_ble_eq_true rfl) rfl
    · refine V_lconst hX 7 12 rfl rfl (Int32.toInt64 1) (by decide) ?_
      refine V_goto hX 8 16 rfl (by decide) ?_
      refine V_last hX 10 17 (v := 1) rfl rfl (fun M2 hM2 => ?_)
      refine V_goto hX 11 24 rfl (by decide) ?_
      refine V_iconst hX (v := 0) (hv := by decide) 15 25 rfl rfl ?_
      exact V_iret hX 16 rfl (Nat.le_of_ble_eq_true rfl) (Nat.le_of_ble_eq_true rfl) rfl
def y_La_areParallel : MethodName := ⟨"SeriesArchiveLaw", "areParallel", "(LSeriesArchive;II[J)I"⟩
noncomputable def L_La_areParallel : zz_L := [(0, .aload_n 3, 1), (1, .iconst 0, 1), (2, .aload_n 0, 1), (3, .iload_n 1, 1), (4, .iload_n 2, 1), (5, .invokevirtual 153, 3), (8, .ifCond .eq 7, 3), (11, .lconst 1, 1), (12, .goto 4, 3), (15, .lconst 0, 1), (16, .lastore, 1), (17, .goto 7, 3), (20, .astore 4, 2), (22, .iconst 1, 1), (23, .ireturn, 1), (24, .iconst 0, 1), (25, .ireturn, 1)]
theorem dec_La_areParallel : zz_decAll method_46_code L_La_areParallel = true := by decide +kernel
theorem ho_La_areParallel_0 : HOk "SeriesArchiveLaw" ((0, 17, 20, 13), 0, 1) := ⟨by decide, by decide, cl_La_13, ca_0⟩
theorem myw_La_areParallel : MYW y_La_areParallel method_46_code 5 (some .int) [(0, 17, 20, 13)] 4 := ⟨zz_c6 17 (by decide +kernel) rfl, zz_c1 0 (by decide +kernel) rfl, by decide +kernel, by decide +kernel, by decide +kernel⟩
theorem mt_La_areParallel : Cond.static y_La_areParallel ∈ zz_good := zz_c6 16 (by decide +kernel) rfl
set_option maxRecDepth 20000 in
theorem ct_La_areParallel {l : Launch} (hl : l.stackTraces = false) (K : KT) (v1 : Int32) (v2 : Int32) (M : Mm) : CTp l K y_La_areParallel (Cond.codeWith y_La_areParallel method_46_code 5 (some .int) [(0, 17, 20, 13)]) rvI 11 2 12 [.ref (kA K 0), .int v1, .int v2, .ref (kA K 45)] M (fn_La_areParallel v1 v2 M) := by
  refine CTp_ofH (L := L_La_areParallel) (lc := [(0, .ref (kA K 0)), (1, .int v1), (2, .int v2), (3, .ref (kA K 45))]) (by decide +kernel) dec_La_areParallel hl rfl (Nat.le_of_ble_eq_true rfl) (fun X hX => ?_)
  unfold fn_La_areParallel
  refine V_aload_n hX (j := 3) (hj := rfl) 0 1 rfl rfl ?_
  refine V_iconst hX (v := 0) (hv := by decide) 1 2 rfl rfl ?_
  refine V_aload_n hX (j := 0) (hj := rfl) 2 3 rfl rfl ?_
  refine V_iload_n hX (j := 1) (hj := rfl) 3 4 rfl rfl ?_
  refine V_iload_n hX (j := 2) (hj := rfl) 4 5 rfl rfl ?_
  refine V_cat hX [((0, 17, 20, 13), 0, 1)] rfl (VR_V hX 5 (ct_SA_areParallel (cx_t hX) K v1 v2 M) my_SA_areParallel mi_SA_areParallel ms_SA_areParallel ml_La_153 (Nat.le_of_ble_eq_true rfl) (Nat.le_of_ble_eq_true rfl) (by decide) (ent_0 K _) rfl rfl rfl (Nat.le_of_ble_eq_true rfl) rfl (Nat.le_of_ble_eq_true rfl) (Nat.le_of_ble_eq_true rfl)) (Nat.le_of_ble_eq_true rfl) (Nat.le_of_ble_eq_true rfl) (hk := List.forall_mem_cons.mpr ⟨ho_La_areParallel_0, fun _ h => nomatch h⟩) (hcv := List.forall_mem_cons.mpr ⟨by decide, fun _ h => nomatch h⟩) ?_ (fun r M1 => ?_)
  · refine List.forall_mem_cons.mpr ⟨fun a M1 => ?_, ?_⟩
    · refine V_astore hX 12 22 [(4, .ref a), (0, .ref (kA K 0)), (1, .int v1), (2, .int v2), (3, .ref (kA K 45))] rfl rfl (Nat.le_of_ble_eq_true rfl) rfl ?_
      refine V_iconst hX (v := 1) (hv := by decide) 13 23 rfl rfl ?_
      exact V_iret hX 14 rfl (Nat.le_of_ble_eq_true rfl) (Nat.le_of_ble_eq_true rfl) rfl
    exact fun _ h => nomatch h
  · refine V_if_eq hX 6 11 15 rfl rfl (by decide) (fun _ => ?_) (fun _ => ?_)
    · refine V_lconst hX 9 16 rfl rfl (Int32.toInt64 0) (by decide) ?_
      refine V_last hX 10 17 (v := 0) rfl rfl (fun M2 hM2 => ?_)
      refine V_goto hX 11 24 rfl (by decide) ?_
      refine V_iconst hX (v := 0) (hv := by decide) 15 25 rfl rfl ?_
      exact V_iret hX 16 rfl (Nat.le_of_ble_eq_true rfl) (Nat.le_of_ble_eq_true rfl) rfl
    · refine V_lconst hX 7 12 rfl rfl (Int32.toInt64 1) (by decide) ?_
      refine V_goto hX 8 16 rfl (by decide) ?_
      refine V_last hX 10 17 (v := 1) rfl rfl (fun M2 hM2 => ?_)
      refine V_goto hX 11 24 rfl (by decide) ?_
      refine V_iconst hX (v := 0) (hv := by decide) 15 25 rfl rfl ?_
      exact V_iret hX 16 rfl (Nat.le_of_ble_eq_true rfl) (Nat.le_of_ble_eq_true rfl) rfl
def y_La_isAscending : MethodName := ⟨"SeriesArchiveLaw", "isAscending", "(LSeriesArchive;I[J)I"⟩
noncomputable def L_La_isAscending : zz_L := [(0, .aload_n 2, 1), (1, .iconst 0, 1), (2, .aload_n 0, 1), (3, .iload_n 1, 1), (4, .invokevirtual 156, 3), (7, .ifCond .eq 7, 3), (10, .lconst 1, 1), (11, .goto 4, 3), (14, .lconst 0, 1), (15, .lastore, 1), (16, .goto 6, 3), (19, .astore_n 3, 1), (20, .iconst 1, 1), (21, .ireturn, 1), (22, .iconst 0, 1), (23, .ireturn, 1)]
theorem dec_La_isAscending : zz_decAll method_47_code L_La_isAscending = true := by decide +kernel
theorem ho_La_isAscending_0 : HOk "SeriesArchiveLaw" ((0, 16, 19, 13), 0, 1) := ⟨by decide, by decide, cl_La_13, ca_0⟩
theorem myw_La_isAscending : MYW y_La_isAscending method_47_code 4 (some .int) [(0, 16, 19, 13)] 3 := ⟨zz_c6 25 (by decide +kernel) rfl, zz_c1 0 (by decide +kernel) rfl, by decide +kernel, by decide +kernel, by decide +kernel⟩
theorem mt_La_isAscending : Cond.static y_La_isAscending ∈ zz_good := zz_c6 24 (by decide +kernel) rfl
set_option maxRecDepth 20000 in
theorem ct_La_isAscending {l : Launch} (hl : l.stackTraces = false) (K : KT) (v1 : Int32) (M : Mm) : CTp l K y_La_isAscending (Cond.codeWith y_La_isAscending method_47_code 4 (some .int) [(0, 16, 19, 13)]) rvI 11 1 6 [.ref (kA K 0), .int v1, .ref (kA K 45)] M (fn_La_isAscending v1 M) := by
  refine CTp_ofH (L := L_La_isAscending) (lc := [(0, .ref (kA K 0)), (1, .int v1), (2, .ref (kA K 45))]) (by decide +kernel) dec_La_isAscending hl rfl (Nat.le_of_ble_eq_true rfl) (fun X hX => ?_)
  unfold fn_La_isAscending
  refine V_aload_n hX (j := 2) (hj := rfl) 0 1 rfl rfl ?_
  refine V_iconst hX (v := 0) (hv := by decide) 1 2 rfl rfl ?_
  refine V_aload_n hX (j := 0) (hj := rfl) 2 3 rfl rfl ?_
  refine V_iload_n hX (j := 1) (hj := rfl) 3 4 rfl rfl ?_
  refine V_cat hX [((0, 16, 19, 13), 0, 1)] rfl (VR_V hX 4 (ct_SA_isAscending (cx_t hX) K v1 M) my_SA_isAscending mi_SA_isAscending ms_SA_isAscending ml_La_156 (Nat.le_of_ble_eq_true rfl) (Nat.le_of_ble_eq_true rfl) (by decide) (ent_0 K _) rfl rfl rfl (Nat.le_of_ble_eq_true rfl) rfl (Nat.le_of_ble_eq_true rfl) (Nat.le_of_ble_eq_true rfl)) (Nat.le_of_ble_eq_true rfl) (Nat.le_of_ble_eq_true rfl) (hk := List.forall_mem_cons.mpr ⟨ho_La_isAscending_0, fun _ h => nomatch h⟩) (hcv := List.forall_mem_cons.mpr ⟨by decide, fun _ h => nomatch h⟩) ?_ (fun r M1 => ?_)
  · refine List.forall_mem_cons.mpr ⟨fun a M1 => ?_, ?_⟩
    · refine V_astore_n hX 11 20 [(3, .ref a), (0, .ref (kA K 0)), (1, .int v1), (2, .ref (kA K 45))] rfl rfl (Nat.le_of_ble_eq_true rfl) rfl ?_
      refine V_iconst hX (v := 1) (hv := by decide) 12 21 rfl rfl ?_
      exact V_iret hX 13 rfl (Nat.le_of_ble_eq_true rfl) (Nat.le_of_ble_eq_true rfl) rfl
    exact fun _ h => nomatch h
  · refine V_if_eq hX 5 10 14 rfl rfl (by decide) (fun _ => ?_) (fun _ => ?_)
    · refine V_lconst hX 8 15 rfl rfl (Int32.toInt64 0) (by decide) ?_
      refine V_last hX 9 16 (v := 0) rfl rfl (fun M2 hM2 => ?_)
      refine V_goto hX 10 22 rfl (by decide) ?_
      refine V_iconst hX (v := 0) (hv := by decide) 14 23 rfl rfl ?_
      exact V_iret hX 15 rfl (Nat.le_of_ble_eq_true rfl) (Nat.le_of_ble_eq_true rfl) rfl
    · refine V_lconst hX 6 11 rfl rfl (Int32.toInt64 1) (by decide) ?_
      refine V_goto hX 7 15 rfl (by decide) ?_
      refine V_last hX 9 16 (v := 1) rfl rfl (fun M2 hM2 => ?_)
      refine V_goto hX 10 22 rfl (by decide) ?_
      refine V_iconst hX (v := 0) (hv := by decide) 14 23 rfl rfl ?_
      exact V_iret hX 15 rfl (Nat.le_of_ble_eq_true rfl) (Nat.le_of_ble_eq_true rfl) rfl
def y_La_positiveShare : MethodName := ⟨"SeriesArchiveLaw", "positiveShare", "(LSeriesArchive;[D)I"⟩
noncomputable def L_La_positiveShare : zz_L := [(0, .aload_n 1, 1), (1, .iconst 0, 1), (2, .aload_n 0, 1), (3, .invokevirtual 160, 3), (6, .f2d, 1), (7, .dastore, 1), (8, .goto 6, 3), (11, .astore_n 2, 1), (12, .iconst 1, 1), (13, .ireturn, 1), (14, .iconst 0, 1), (15, .ireturn, 1)]
theorem dec_La_positiveShare : zz_decAll method_48_code L_La_positiveShare = true := by decide +kernel
theorem ho_La_positiveShare_0 : HOk "SeriesArchiveLaw" ((0, 8, 11, 75), 4, 1) := ⟨by decide, by decide, cl_La_75, ca_4⟩
theorem myw_La_positiveShare : MYW y_La_positiveShare method_48_code 3 (some .int) [(0, 8, 11, 75)] 2 := ⟨zz_c6 36 (by decide +kernel) rfl, zz_c1 0 (by decide +kernel) rfl, by decide +kernel, by decide +kernel, by decide +kernel⟩
theorem mt_La_positiveShare : Cond.static y_La_positiveShare ∈ zz_good := zz_c6 35 (by decide +kernel) rfl
set_option maxRecDepth 20000 in
theorem ct_La_positiveShare {l : Launch} (hl : l.stackTraces = false) (K : KT) (M : Mm) : CTp l K y_La_positiveShare (Cond.codeWith y_La_positiveShare method_48_code 3 (some .int) [(0, 8, 11, 75)]) rvI 10 1 6 [.ref (kA K 0), .ref (kA K 46)] M (fn_La_positiveShare M) := by
  refine CTp_ofH (L := L_La_positiveShare) (lc := [(0, .ref (kA K 0)), (1, .ref (kA K 46))]) (by decide +kernel) dec_La_positiveShare hl rfl (Nat.le_of_ble_eq_true rfl) (fun X hX => ?_)
  unfold fn_La_positiveShare
  refine V_aload_n hX (j := 1) (hj := rfl) 0 1 rfl rfl ?_
  refine V_iconst hX (v := 0) (hv := by decide) 1 2 rfl rfl ?_
  refine V_aload_n hX (j := 0) (hj := rfl) 2 3 rfl rfl ?_
  refine V_cat hX [((0, 8, 11, 75), 4, 1)] rfl (VR_V hX 3 (ct_SA_positiveShare (cx_t hX) K M) my_SA_positiveShare mi_SA_positiveShare ms_SA_positiveShare ml_La_160 (Nat.le_of_ble_eq_true rfl) (Nat.le_of_ble_eq_true rfl) (by decide) (ent_0 K _) rfl rfl rfl (Nat.le_of_ble_eq_true rfl) rfl (Nat.le_of_ble_eq_true rfl) (Nat.le_of_ble_eq_true rfl)) (Nat.le_of_ble_eq_true rfl) (Nat.le_of_ble_eq_true rfl) (hk := List.forall_mem_cons.mpr ⟨ho_La_positiveShare_0, fun _ h => nomatch h⟩) (hcv := List.forall_mem_cons.mpr ⟨by decide, fun _ h => nomatch h⟩) ?_ (fun r M1 => ?_)
  · refine List.forall_mem_cons.mpr ⟨fun a M1 => ?_, ?_⟩
    · refine V_astore_n hX 7 12 [(2, .ref a), (0, .ref (kA K 0)), (1, .ref (kA K 46))] rfl rfl (Nat.le_of_ble_eq_true rfl) rfl ?_
      refine V_iconst hX (v := 1) (hv := by decide) 8 13 rfl rfl ?_
      exact V_iret hX 9 rfl (Nat.le_of_ble_eq_true rfl) (Nat.le_of_ble_eq_true rfl) rfl
    exact fun _ h => nomatch h
  · refine VV_grd (fun hz => ?_)
    refine V_f2d hX (hne := hz) 4 7 rfl rfl ?_
    refine V_dast hX 5 8 rfl rfl (fun M2 hM2 => ?_)
    refine V_goto hX 6 14 rfl (by decide) ?_
    refine V_iconst hX (v := 0) (hv := by decide) 10 15 rfl rfl ?_
    exact V_iret hX 11 rfl (Nat.le_of_ble_eq_true rfl) (Nat.le_of_ble_eq_true rfl) rfl
def y_La_formatSeries : MethodName := ⟨"SeriesArchiveLaw", "formatSeries", "(LSeriesArchive;I[J)I"⟩
noncomputable def L_La_formatSeries : zz_L := [(0, .aload_n 2, 1), (1, .iconst 0, 1), (2, .aload_n 0, 1), (3, .iload_n 1, 1), (4, .invokevirtual 164, 3), (7, .i2l, 1), (8, .lastore, 1), (9, .goto 6, 3), (12, .astore_n 3, 1), (13, .iconst 1, 1), (14, .ireturn, 1), (15, .iconst 0, 1), (16, .ireturn, 1)]
theorem dec_La_formatSeries : zz_decAll method_49_code L_La_formatSeries = true := by decide +kernel
theorem ho_La_formatSeries_0 : HOk "SeriesArchiveLaw" ((0, 9, 12, 13), 0, 1) := ⟨by decide, by decide, cl_La_13, ca_0⟩
theorem myw_La_formatSeries : MYW y_La_formatSeries method_49_code 4 (some .int) [(0, 9, 12, 13)] 3 := ⟨zz_c6 49 (by decide +kernel) rfl, zz_c1 0 (by decide +kernel) rfl, by decide +kernel, by decide +kernel, by decide +kernel⟩
theorem mt_La_formatSeries : Cond.static y_La_formatSeries ∈ zz_good := zz_c6 48 (by decide +kernel) rfl
set_option maxRecDepth 20000 in
theorem ct_La_formatSeries {l : Launch} (hl : l.stackTraces = false) (K : KT) (v1 : Int32) (M : Mm) : CTp l K y_La_formatSeries (Cond.codeWith y_La_formatSeries method_49_code 4 (some .int) [(0, 9, 12, 13)]) rvI 17 43 5970 [.ref (kA K 0), .int v1, .ref (kA K 45)] M (fn_La_formatSeries v1 M) := by
  refine CTp_ofH (L := L_La_formatSeries) (lc := [(0, .ref (kA K 0)), (1, .int v1), (2, .ref (kA K 45))]) (by decide +kernel) dec_La_formatSeries hl rfl (Nat.le_of_ble_eq_true rfl) (fun X hX => ?_)
  unfold fn_La_formatSeries
  refine V_aload_n hX (j := 2) (hj := rfl) 0 1 rfl rfl ?_
  refine V_iconst hX (v := 0) (hv := by decide) 1 2 rfl rfl ?_
  refine V_aload_n hX (j := 0) (hj := rfl) 2 3 rfl rfl ?_
  refine V_iload_n hX (j := 1) (hj := rfl) 3 4 rfl rfl ?_
  refine V_cat hX [((0, 9, 12, 13), 0, 1)] rfl (VR_V hX 4 (ct_SA_formatSeries (cx_t hX) K v1 M) my_SA_formatSeries mi_SA_formatSeries ms_SA_formatSeries ml_La_164 (Nat.le_of_ble_eq_true rfl) (Nat.le_of_ble_eq_true rfl) (by decide) (ent_0 K _) rfl rfl rfl (Nat.le_of_ble_eq_true rfl) rfl (Nat.le_of_ble_eq_true rfl) (Nat.le_of_ble_eq_true rfl)) (Nat.le_of_ble_eq_true rfl) (Nat.le_of_ble_eq_true rfl) (hk := List.forall_mem_cons.mpr ⟨ho_La_formatSeries_0, fun _ h => nomatch h⟩) (hcv := List.forall_mem_cons.mpr ⟨by decide, fun _ h => nomatch h⟩) ?_ (fun r M1 => ?_)
  · refine List.forall_mem_cons.mpr ⟨fun a M1 => ?_, ?_⟩
    · refine V_astore_n hX 8 13 [(3, .ref a), (0, .ref (kA K 0)), (1, .int v1), (2, .ref (kA K 45))] rfl rfl (Nat.le_of_ble_eq_true rfl) rfl ?_
      refine V_iconst hX (v := 1) (hv := by decide) 9 14 rfl rfl ?_
      exact V_iret hX 10 rfl (Nat.le_of_ble_eq_true rfl) (Nat.le_of_ble_eq_true rfl) rfl
    exact fun _ h => nomatch h
  · refine V_i2l hX 5 8 rfl rfl ?_
    refine V_last hX 6 9 (v := r) rfl rfl (fun M2 hM2 => ?_)
    refine V_goto hX 7 15 rfl (by decide) ?_
    refine V_iconst hX (v := 0) (hv := by decide) 11 16 rfl rfl ?_
    exact V_iret hX 12 rfl (Nat.le_of_ble_eq_true rfl) (Nat.le_of_ble_eq_true rfl) rfl
def y_La_formatRuns : MethodName := ⟨"SeriesArchiveLaw", "formatRuns", "(LSeriesArchive;I[J)I"⟩
noncomputable def L_La_formatRuns : zz_L := [(0, .aload_n 2, 1), (1, .iconst 0, 1), (2, .aload_n 0, 1), (3, .iload_n 1, 1), (4, .invokevirtual 167, 3), (7, .i2l, 1), (8, .lastore, 1), (9, .goto 6, 3), (12, .astore_n 3, 1), (13, .iconst 1, 1), (14, .ireturn, 1), (15, .iconst 0, 1), (16, .ireturn, 1)]
theorem dec_La_formatRuns : zz_decAll method_50_code L_La_formatRuns = true := by decide +kernel
theorem ho_La_formatRuns_0 : HOk "SeriesArchiveLaw" ((0, 9, 12, 13), 0, 1) := ⟨by decide, by decide, cl_La_13, ca_0⟩
theorem myw_La_formatRuns : MYW y_La_formatRuns method_50_code 4 (some .int) [(0, 9, 12, 13)] 3 := ⟨zz_c7 97 (by decide +kernel) rfl, zz_c1 0 (by decide +kernel) rfl, by decide +kernel, by decide +kernel, by decide +kernel⟩
theorem mt_La_formatRuns : Cond.static y_La_formatRuns ∈ zz_good := zz_c7 96 (by decide +kernel) rfl
set_option maxRecDepth 20000 in
theorem ct_La_formatRuns {l : Launch} (hl : l.stackTraces = false) (K : KT) (v1 : Int32) (M : Mm) : CTp l K y_La_formatRuns (Cond.codeWith y_La_formatRuns method_50_code 4 (some .int) [(0, 9, 12, 13)]) rvI 17 85 11934 [.ref (kA K 0), .int v1, .ref (kA K 45)] M (fn_La_formatRuns v1 M) := by
  refine CTp_ofH (L := L_La_formatRuns) (lc := [(0, .ref (kA K 0)), (1, .int v1), (2, .ref (kA K 45))]) (by decide +kernel) dec_La_formatRuns hl rfl (Nat.le_of_ble_eq_true rfl) (fun X hX => ?_)
  unfold fn_La_formatRuns
  refine V_aload_n hX (j := 2) (hj := rfl) 0 1 rfl rfl ?_
  refine V_iconst hX (v := 0) (hv := by decide) 1 2 rfl rfl ?_
  refine V_aload_n hX (j := 0) (hj := rfl) 2 3 rfl rfl ?_
  refine V_iload_n hX (j := 1) (hj := rfl) 3 4 rfl rfl ?_
  refine V_cat hX [((0, 9, 12, 13), 0, 1)] rfl (VR_V hX 4 (ct_SA_formatRuns (cx_t hX) K v1 M) my_SA_formatRuns mi_SA_formatRuns ms_SA_formatRuns ml_La_167 (Nat.le_of_ble_eq_true rfl) (Nat.le_of_ble_eq_true rfl) (by decide) (ent_0 K _) rfl rfl rfl (Nat.le_of_ble_eq_true rfl) rfl (Nat.le_of_ble_eq_true rfl) (Nat.le_of_ble_eq_true rfl)) (Nat.le_of_ble_eq_true rfl) (Nat.le_of_ble_eq_true rfl) (hk := List.forall_mem_cons.mpr ⟨ho_La_formatRuns_0, fun _ h => nomatch h⟩) (hcv := List.forall_mem_cons.mpr ⟨by decide, fun _ h => nomatch h⟩) ?_ (fun r M1 => ?_)
  · refine List.forall_mem_cons.mpr ⟨fun a M1 => ?_, ?_⟩
    · refine V_astore_n hX 8 13 [(3, .ref a), (0, .ref (kA K 0)), (1, .int v1), (2, .ref (kA K 45))] rfl rfl (Nat.le_of_ble_eq_true rfl) rfl ?_
      refine V_iconst hX (v := 1) (hv := by decide) 9 14 rfl rfl ?_
      exact V_iret hX 10 rfl (Nat.le_of_ble_eq_true rfl) (Nat.le_of_ble_eq_true rfl) rfl
    exact fun _ h => nomatch h
  · refine V_i2l hX 5 8 rfl rfl ?_
    refine V_last hX 6 9 (v := r) rfl rfl (fun M2 hM2 => ?_)
    refine V_goto hX 7 15 rfl (by decide) ?_
    refine V_iconst hX (v := 0) (hv := by decide) 11 16 rfl rfl ?_
    exact V_iret hX 12 rfl (Nat.le_of_ble_eq_true rfl) (Nat.le_of_ble_eq_true rfl) rfl
def y_La_lineChar : MethodName := ⟨"SeriesArchiveLaw", "lineChar", "(LSeriesArchive;I[J)I"⟩
noncomputable def L_La_lineChar : zz_L := [(0, .aload_n 2, 1), (1, .iconst 0, 1), (2, .aload_n 0, 1), (3, .iload_n 1, 1), (4, .invokevirtual 170, 3), (7, .i2l, 1), (8, .lastore, 1), (9, .goto 6, 3), (12, .astore_n 3, 1), (13, .iconst 1, 1), (14, .ireturn, 1), (15, .iconst 0, 1), (16, .ireturn, 1)]
theorem dec_La_lineChar : zz_decAll method_51_code L_La_lineChar = true := by decide +kernel
theorem ho_La_lineChar_0 : HOk "SeriesArchiveLaw" ((0, 9, 12, 13), 0, 1) := ⟨by decide, by decide, cl_La_13, ca_0⟩
theorem myw_La_lineChar : MYW y_La_lineChar method_51_code 4 (some .int) [(0, 9, 12, 13)] 3 := ⟨zz_c7 104 (by decide +kernel) rfl, zz_c1 0 (by decide +kernel) rfl, by decide +kernel, by decide +kernel, by decide +kernel⟩
theorem mt_La_lineChar : Cond.static y_La_lineChar ∈ zz_good := zz_c7 103 (by decide +kernel) rfl
set_option maxRecDepth 20000 in
theorem ct_La_lineChar {l : Launch} (hl : l.stackTraces = false) (K : KT) (v1 : Int32) (M : Mm) : CTp l K y_La_lineChar (Cond.codeWith y_La_lineChar method_51_code 4 (some .int) [(0, 9, 12, 13)]) rvI 14 1 6 [.ref (kA K 0), .int v1, .ref (kA K 45)] M (fn_La_lineChar v1 M) := by
  refine CTp_ofH (L := L_La_lineChar) (lc := [(0, .ref (kA K 0)), (1, .int v1), (2, .ref (kA K 45))]) (by decide +kernel) dec_La_lineChar hl rfl (Nat.le_of_ble_eq_true rfl) (fun X hX => ?_)
  unfold fn_La_lineChar
  refine V_aload_n hX (j := 2) (hj := rfl) 0 1 rfl rfl ?_
  refine V_iconst hX (v := 0) (hv := by decide) 1 2 rfl rfl ?_
  refine V_aload_n hX (j := 0) (hj := rfl) 2 3 rfl rfl ?_
  refine V_iload_n hX (j := 1) (hj := rfl) 3 4 rfl rfl ?_
  refine V_cat hX [((0, 9, 12, 13), 0, 1)] rfl (VR_V hX 4 (ct_SA_lineChar (cx_t hX) K v1 M) my_SA_lineChar mi_SA_lineChar ms_SA_lineChar ml_La_170 (Nat.le_of_ble_eq_true rfl) (Nat.le_of_ble_eq_true rfl) (by decide) (ent_0 K _) rfl rfl rfl (Nat.le_of_ble_eq_true rfl) rfl (Nat.le_of_ble_eq_true rfl) (Nat.le_of_ble_eq_true rfl)) (Nat.le_of_ble_eq_true rfl) (Nat.le_of_ble_eq_true rfl) (hk := List.forall_mem_cons.mpr ⟨ho_La_lineChar_0, fun _ h => nomatch h⟩) (hcv := List.forall_mem_cons.mpr ⟨by decide, fun _ h => nomatch h⟩) ?_ (fun r M1 => ?_)
  · refine List.forall_mem_cons.mpr ⟨fun a M1 => ?_, ?_⟩
    · refine V_astore_n hX 8 13 [(3, .ref a), (0, .ref (kA K 0)), (1, .int v1), (2, .ref (kA K 45))] rfl rfl (Nat.le_of_ble_eq_true rfl) rfl ?_
      refine V_iconst hX (v := 1) (hv := by decide) 9 14 rfl rfl ?_
      exact V_iret hX 10 rfl (Nat.le_of_ble_eq_true rfl) (Nat.le_of_ble_eq_true rfl) rfl
    exact fun _ h => nomatch h
  · refine V_i2l hX 5 8 rfl rfl ?_
    refine V_last hX 6 9 (v := r) rfl rfl (fun M2 hM2 => ?_)
    refine V_goto hX 7 15 rfl (by decide) ?_
    refine V_iconst hX (v := 0) (hv := by decide) 11 16 rfl rfl ?_
    exact V_iret hX 12 rfl (Nat.le_of_ble_eq_true rfl) (Nat.le_of_ble_eq_true rfl) rfl
def y_La_type : MethodName := ⟨"SeriesArchiveLaw", "type", "(LSeriesArchive;C[J)I"⟩
noncomputable def L_La_type : zz_L := [(0, .aload_n 2, 1), (1, .iconst 0, 1), (2, .aload_n 0, 1), (3, .iload_n 1, 1), (4, .invokevirtual 174, 3), (7, .i2l, 1), (8, .lastore, 1), (9, .goto 9, 3), (12, .astore_n 3, 1), (13, .iconst 1, 1), (14, .ireturn, 1), (15, .astore_n 3, 1), (16, .iconst 2, 1), (17, .ireturn, 1), (18, .iconst 0, 1), (19, .ireturn, 1)]
theorem dec_La_type : zz_decAll method_52_code L_La_type = true := by decide +kernel
theorem ho_La_type_0 : HOk "SeriesArchiveLaw" ((0, 9, 12, 15), 1, 1) := ⟨by decide, by decide, cl_La_15, ca_1⟩
theorem ho_La_type_1 : HOk "SeriesArchiveLaw" ((0, 9, 15, 17), 2, 2) := ⟨by decide, by decide, cl_La_17, ca_2⟩
theorem myw_La_type : MYW y_La_type method_52_code 4 (some .int) [(0, 9, 12, 15), (0, 9, 15, 17)] 3 := ⟨zz_c7 122 (by decide +kernel) rfl, zz_c1 0 (by decide +kernel) rfl, by decide +kernel, by decide +kernel, by decide +kernel⟩
theorem mt_La_type : Cond.static y_La_type ∈ zz_good := zz_c7 121 (by decide +kernel) rfl
set_option maxRecDepth 20000 in
theorem ct_La_type {l : Launch} (hl : l.stackTraces = false) (K : KT) (v1 : Int32) (M : Mm) : CTp l K y_La_type (Cond.codeWith y_La_type method_52_code 4 (some .int) [(0, 9, 12, 15), (0, 9, 15, 17)]) rvI 10 1 6 [.ref (kA K 0), .int v1, .ref (kA K 45)] M (fn_La_type v1 M) := by
  refine CTp_ofH (L := L_La_type) (lc := [(0, .ref (kA K 0)), (1, .int v1), (2, .ref (kA K 45))]) (by decide +kernel) dec_La_type hl rfl (Nat.le_of_ble_eq_true rfl) (fun X hX => ?_)
  unfold fn_La_type
  refine V_aload_n hX (j := 2) (hj := rfl) 0 1 rfl rfl ?_
  refine V_iconst hX (v := 0) (hv := by decide) 1 2 rfl rfl ?_
  refine V_aload_n hX (j := 0) (hj := rfl) 2 3 rfl rfl ?_
  refine V_iload_n hX (j := 1) (hj := rfl) 3 4 rfl rfl ?_
  refine V_cat hX [((0, 9, 12, 15), 1, 1), ((0, 9, 15, 17), 2, 2)] rfl (VR_V hX 4 (ct_SA_type (cx_t hX) K v1 M) my_SA_type mi_SA_type ms_SA_type ml_La_174 (Nat.le_of_ble_eq_true rfl) (Nat.le_of_ble_eq_true rfl) (by decide) (ent_0 K _) rfl rfl rfl (Nat.le_of_ble_eq_true rfl) rfl (Nat.le_of_ble_eq_true rfl) (Nat.le_of_ble_eq_true rfl)) (Nat.le_of_ble_eq_true rfl) (Nat.le_of_ble_eq_true rfl) (hk := List.forall_mem_cons.mpr ⟨ho_La_type_0, List.forall_mem_cons.mpr ⟨ho_La_type_1, fun _ h => nomatch h⟩⟩) (hcv := List.forall_mem_cons.mpr ⟨by decide, List.forall_mem_cons.mpr ⟨by decide, fun _ h => nomatch h⟩⟩) ?_ (fun r M1 => ?_)
  · refine List.forall_mem_cons.mpr ⟨fun a M1 => ?_, ?_⟩
    · refine V_astore_n hX 8 13 [(3, .ref a), (0, .ref (kA K 0)), (1, .int v1), (2, .ref (kA K 45))] rfl rfl (Nat.le_of_ble_eq_true rfl) rfl ?_
      refine V_iconst hX (v := 1) (hv := by decide) 9 14 rfl rfl ?_
      exact V_iret hX 10 rfl (Nat.le_of_ble_eq_true rfl) (Nat.le_of_ble_eq_true rfl) rfl
    refine List.forall_mem_cons.mpr ⟨fun a M1 => ?_, ?_⟩
    · refine V_astore_n hX 11 16 [(3, .ref a), (0, .ref (kA K 0)), (1, .int v1), (2, .ref (kA K 45))] rfl rfl (Nat.le_of_ble_eq_true rfl) rfl ?_
      refine V_iconst hX (v := 2) (hv := by decide) 12 17 rfl rfl ?_
      exact V_iret hX 13 rfl (Nat.le_of_ble_eq_true rfl) (Nat.le_of_ble_eq_true rfl) rfl
    exact fun _ h => nomatch h
  · refine V_i2l hX 5 8 rfl rfl ?_
    refine V_last hX 6 9 (v := r) rfl rfl (fun M2 hM2 => ?_)
    refine V_goto hX 7 18 rfl (by decide) ?_
    refine V_iconst hX (v := 0) (hv := by decide) 14 19 rfl rfl ?_
    exact V_iret hX 15 rfl (Nat.le_of_ble_eq_true rfl) (Nat.le_of_ble_eq_true rfl) rfl
def y_La_run : MethodName := ⟨"SeriesArchiveLaw", "run", "(LSeriesArchive;[J)I"⟩
noncomputable def L_La_run : zz_L := [(0, .aload_n 1, 1), (1, .iconst 0, 1), (2, .aload_n 0, 1), (3, .invokevirtual 178, 3), (6, .i2l, 1), (7, .lastore, 1), (8, .goto 9, 3), (11, .astore_n 2, 1), (12, .iconst 1, 1), (13, .ireturn, 1), (14, .astore_n 2, 1), (15, .iconst 2, 1), (16, .ireturn, 1), (17, .iconst 0, 1), (18, .ireturn, 1)]
theorem dec_La_run : zz_decAll method_53_code L_La_run = true := by decide +kernel
theorem ho_La_run_0 : HOk "SeriesArchiveLaw" ((0, 8, 11, 15), 1, 1) := ⟨by decide, by decide, cl_La_15, ca_1⟩
theorem ho_La_run_1 : HOk "SeriesArchiveLaw" ((0, 8, 14, 17), 2, 2) := ⟨by decide, by decide, cl_La_17, ca_2⟩
theorem myw_La_run : MYW y_La_run method_53_code 3 (some .int) [(0, 8, 11, 15), (0, 8, 14, 17)] 2 := ⟨zz_c7 140 (by decide +kernel) rfl, zz_c1 0 (by decide +kernel) rfl, by decide +kernel, by decide +kernel, by decide +kernel⟩
theorem mt_La_run : Cond.static y_La_run ∈ zz_good := zz_c7 139 (by decide +kernel) rfl
set_option maxRecDepth 20000 in
theorem ct_La_run {l : Launch} (hl : l.stackTraces = false) (K : KT) (M : Mm) : CTp l K y_La_run (Cond.codeWith y_La_run method_53_code 3 (some .int) [(0, 8, 11, 15), (0, 8, 14, 17)]) rvI 11 1 6 [.ref (kA K 0), .ref (kA K 45)] M (fn_La_run M) := by
  refine CTp_ofH (L := L_La_run) (lc := [(0, .ref (kA K 0)), (1, .ref (kA K 45))]) (by decide +kernel) dec_La_run hl rfl (Nat.le_of_ble_eq_true rfl) (fun X hX => ?_)
  unfold fn_La_run
  refine V_aload_n hX (j := 1) (hj := rfl) 0 1 rfl rfl ?_
  refine V_iconst hX (v := 0) (hv := by decide) 1 2 rfl rfl ?_
  refine V_aload_n hX (j := 0) (hj := rfl) 2 3 rfl rfl ?_
  refine V_cat hX [((0, 8, 11, 15), 1, 1), ((0, 8, 14, 17), 2, 2)] rfl (VR_V hX 3 (ct_SA_run (cx_t hX) K M) my_SA_run mi_SA_run ms_SA_run ml_La_178 (Nat.le_of_ble_eq_true rfl) (Nat.le_of_ble_eq_true rfl) (by decide) (ent_0 K _) rfl rfl rfl (Nat.le_of_ble_eq_true rfl) rfl (Nat.le_of_ble_eq_true rfl) (Nat.le_of_ble_eq_true rfl)) (Nat.le_of_ble_eq_true rfl) (Nat.le_of_ble_eq_true rfl) (hk := List.forall_mem_cons.mpr ⟨ho_La_run_0, List.forall_mem_cons.mpr ⟨ho_La_run_1, fun _ h => nomatch h⟩⟩) (hcv := List.forall_mem_cons.mpr ⟨by decide, List.forall_mem_cons.mpr ⟨by decide, fun _ h => nomatch h⟩⟩) ?_ (fun r M1 => ?_)
  · refine List.forall_mem_cons.mpr ⟨fun a M1 => ?_, ?_⟩
    · refine V_astore_n hX 7 12 [(2, .ref a), (0, .ref (kA K 0)), (1, .ref (kA K 45))] rfl rfl (Nat.le_of_ble_eq_true rfl) rfl ?_
      refine V_iconst hX (v := 1) (hv := by decide) 8 13 rfl rfl ?_
      exact V_iret hX 9 rfl (Nat.le_of_ble_eq_true rfl) (Nat.le_of_ble_eq_true rfl) rfl
    refine List.forall_mem_cons.mpr ⟨fun a M1 => ?_, ?_⟩
    · refine V_astore_n hX 10 15 [(2, .ref a), (0, .ref (kA K 0)), (1, .ref (kA K 45))] rfl rfl (Nat.le_of_ble_eq_true rfl) rfl ?_
      refine V_iconst hX (v := 2) (hv := by decide) 11 16 rfl rfl ?_
      exact V_iret hX 12 rfl (Nat.le_of_ble_eq_true rfl) (Nat.le_of_ble_eq_true rfl) rfl
    exact fun _ h => nomatch h
  · refine V_i2l hX 4 7 rfl rfl ?_
    refine V_last hX 5 8 (v := r) rfl rfl (fun M2 hM2 => ?_)
    refine V_goto hX 6 17 rfl (by decide) ?_
    refine V_iconst hX (v := 0) (hv := by decide) 13 18 rfl rfl ?_
    exact V_iret hX 14 rfl (Nat.le_of_ble_eq_true rfl) (Nat.le_of_ble_eq_true rfl) rfl
def y_La_errorPosition : MethodName := ⟨"SeriesArchiveLaw", "errorPosition", "(LSeriesArchive;[J)I"⟩
noncomputable def L_La_errorPosition : zz_L := [(0, .aload_n 1, 1), (1, .iconst 0, 1), (2, .aload_n 0, 1), (3, .invokevirtual 182, 3), (6, .i2l, 1), (7, .lastore, 1), (8, .goto 6, 3), (11, .astore_n 2, 1), (12, .iconst 1, 1), (13, .ireturn, 1), (14, .iconst 0, 1), (15, .ireturn, 1)]
theorem dec_La_errorPosition : zz_decAll method_54_code L_La_errorPosition = true := by decide +kernel
theorem ho_La_errorPosition_0 : HOk "SeriesArchiveLaw" ((0, 8, 11, 69), 3, 1) := ⟨by decide, by decide, cl_La_69, ca_3⟩
theorem myw_La_errorPosition : MYW y_La_errorPosition method_54_code 3 (some .int) [(0, 8, 11, 69)] 2 := ⟨zz_c8 8 (by decide +kernel) rfl, zz_c1 0 (by decide +kernel) rfl, by decide +kernel, by decide +kernel, by decide +kernel⟩
theorem mt_La_errorPosition : Cond.static y_La_errorPosition ∈ zz_good := zz_c8 7 (by decide +kernel) rfl
set_option maxRecDepth 20000 in
theorem ct_La_errorPosition {l : Launch} (hl : l.stackTraces = false) (K : KT) (M : Mm) : CTp l K y_La_errorPosition (Cond.codeWith y_La_errorPosition method_54_code 3 (some .int) [(0, 8, 11, 69)]) rvI 11 1 6 [.ref (kA K 0), .ref (kA K 45)] M (fn_La_errorPosition M) := by
  refine CTp_ofH (L := L_La_errorPosition) (lc := [(0, .ref (kA K 0)), (1, .ref (kA K 45))]) (by decide +kernel) dec_La_errorPosition hl rfl (Nat.le_of_ble_eq_true rfl) (fun X hX => ?_)
  unfold fn_La_errorPosition
  refine V_aload_n hX (j := 1) (hj := rfl) 0 1 rfl rfl ?_
  refine V_iconst hX (v := 0) (hv := by decide) 1 2 rfl rfl ?_
  refine V_aload_n hX (j := 0) (hj := rfl) 2 3 rfl rfl ?_
  refine V_cat hX [((0, 8, 11, 69), 3, 1)] rfl (VR_V hX 3 (ct_SA_errorPosition (cx_t hX) K M) my_SA_errorPosition mi_SA_errorPosition ms_SA_errorPosition ml_La_182 (Nat.le_of_ble_eq_true rfl) (Nat.le_of_ble_eq_true rfl) (by decide) (ent_0 K _) rfl rfl rfl (Nat.le_of_ble_eq_true rfl) rfl (Nat.le_of_ble_eq_true rfl) (Nat.le_of_ble_eq_true rfl)) (Nat.le_of_ble_eq_true rfl) (Nat.le_of_ble_eq_true rfl) (hk := List.forall_mem_cons.mpr ⟨ho_La_errorPosition_0, fun _ h => nomatch h⟩) (hcv := List.forall_mem_cons.mpr ⟨by decide, fun _ h => nomatch h⟩) ?_ (fun r M1 => ?_)
  · refine List.forall_mem_cons.mpr ⟨fun a M1 => ?_, ?_⟩
    · refine V_astore_n hX 7 12 [(2, .ref a), (0, .ref (kA K 0)), (1, .ref (kA K 45))] rfl rfl (Nat.le_of_ble_eq_true rfl) rfl ?_
      refine V_iconst hX (v := 1) (hv := by decide) 8 13 rfl rfl ?_
      exact V_iret hX 9 rfl (Nat.le_of_ble_eq_true rfl) (Nat.le_of_ble_eq_true rfl) rfl
    exact fun _ h => nomatch h
  · refine V_i2l hX 4 7 rfl rfl ?_
    refine V_last hX 5 8 (v := r) rfl rfl (fun M2 hM2 => ?_)
    refine V_goto hX 6 14 rfl (by decide) ?_
    refine V_iconst hX (v := 0) (hv := by decide) 10 15 rfl rfl ?_
    exact V_iret hX 11 rfl (Nat.le_of_ble_eq_true rfl) (Nat.le_of_ble_eq_true rfl) rfl
def y_La_failedCommand : MethodName := ⟨"SeriesArchiveLaw", "failedCommand", "(LSeriesArchive;[J)I"⟩
noncomputable def L_La_failedCommand : zz_L := [(0, .aload_n 1, 1), (1, .iconst 0, 1), (2, .aload_n 0, 1), (3, .invokevirtual 185, 3), (6, .i2l, 1), (7, .lastore, 1), (8, .goto 6, 3), (11, .astore_n 2, 1), (12, .iconst 1, 1), (13, .ireturn, 1), (14, .iconst 0, 1), (15, .ireturn, 1)]
theorem dec_La_failedCommand : zz_decAll method_55_code L_La_failedCommand = true := by decide +kernel
theorem ho_La_failedCommand_0 : HOk "SeriesArchiveLaw" ((0, 8, 11, 69), 3, 1) := ⟨by decide, by decide, cl_La_69, ca_3⟩
theorem myw_La_failedCommand : MYW y_La_failedCommand method_55_code 3 (some .int) [(0, 8, 11, 69)] 2 := ⟨zz_c8 15 (by decide +kernel) rfl, zz_c1 0 (by decide +kernel) rfl, by decide +kernel, by decide +kernel, by decide +kernel⟩
theorem mt_La_failedCommand : Cond.static y_La_failedCommand ∈ zz_good := zz_c8 14 (by decide +kernel) rfl
set_option maxRecDepth 20000 in
theorem ct_La_failedCommand {l : Launch} (hl : l.stackTraces = false) (K : KT) (M : Mm) : CTp l K y_La_failedCommand (Cond.codeWith y_La_failedCommand method_55_code 3 (some .int) [(0, 8, 11, 69)]) rvI 11 1 6 [.ref (kA K 0), .ref (kA K 45)] M (fn_La_failedCommand M) := by
  refine CTp_ofH (L := L_La_failedCommand) (lc := [(0, .ref (kA K 0)), (1, .ref (kA K 45))]) (by decide +kernel) dec_La_failedCommand hl rfl (Nat.le_of_ble_eq_true rfl) (fun X hX => ?_)
  unfold fn_La_failedCommand
  refine V_aload_n hX (j := 1) (hj := rfl) 0 1 rfl rfl ?_
  refine V_iconst hX (v := 0) (hv := by decide) 1 2 rfl rfl ?_
  refine V_aload_n hX (j := 0) (hj := rfl) 2 3 rfl rfl ?_
  refine V_cat hX [((0, 8, 11, 69), 3, 1)] rfl (VR_V hX 3 (ct_SA_failedCommand (cx_t hX) K M) my_SA_failedCommand mi_SA_failedCommand ms_SA_failedCommand ml_La_185 (Nat.le_of_ble_eq_true rfl) (Nat.le_of_ble_eq_true rfl) (by decide) (ent_0 K _) rfl rfl rfl (Nat.le_of_ble_eq_true rfl) rfl (Nat.le_of_ble_eq_true rfl) (Nat.le_of_ble_eq_true rfl)) (Nat.le_of_ble_eq_true rfl) (Nat.le_of_ble_eq_true rfl) (hk := List.forall_mem_cons.mpr ⟨ho_La_failedCommand_0, fun _ h => nomatch h⟩) (hcv := List.forall_mem_cons.mpr ⟨by decide, fun _ h => nomatch h⟩) ?_ (fun r M1 => ?_)
  · refine List.forall_mem_cons.mpr ⟨fun a M1 => ?_, ?_⟩
    · refine V_astore_n hX 7 12 [(2, .ref a), (0, .ref (kA K 0)), (1, .ref (kA K 45))] rfl rfl (Nat.le_of_ble_eq_true rfl) rfl ?_
      refine V_iconst hX (v := 1) (hv := by decide) 8 13 rfl rfl ?_
      exact V_iret hX 9 rfl (Nat.le_of_ble_eq_true rfl) (Nat.le_of_ble_eq_true rfl) rfl
    exact fun _ h => nomatch h
  · refine V_i2l hX 4 7 rfl rfl ?_
    refine V_last hX 5 8 (v := r) rfl rfl (fun M2 hM2 => ?_)
    refine V_goto hX 6 14 rfl (by decide) ?_
    refine V_iconst hX (v := 0) (hv := by decide) 10 15 rfl rfl ?_
    exact V_iret hX 11 rfl (Nat.le_of_ble_eq_true rfl) (Nat.le_of_ble_eq_true rfl) rfl
def y_La_undo : MethodName := ⟨"SeriesArchiveLaw", "undo", "(LSeriesArchive;[J)I"⟩
noncomputable def L_La_undo : zz_L := [(0, .aload_n 1, 1), (1, .iconst 0, 1), (2, .aload_n 0, 1), (3, .invokevirtual 188, 3), (6, .i2l, 1), (7, .lastore, 1), (8, .goto 6, 3), (11, .astore_n 2, 1), (12, .iconst 1, 1), (13, .ireturn, 1), (14, .iconst 0, 1), (15, .ireturn, 1)]
theorem dec_La_undo : zz_decAll method_56_code L_La_undo = true := by decide +kernel
theorem ho_La_undo_0 : HOk "SeriesArchiveLaw" ((0, 8, 11, 17), 2, 1) := ⟨by decide, by decide, cl_La_17, ca_2⟩
theorem myw_La_undo : MYW y_La_undo method_56_code 3 (some .int) [(0, 8, 11, 17)] 2 := ⟨zz_c8 22 (by decide +kernel) rfl, zz_c1 0 (by decide +kernel) rfl, by decide +kernel, by decide +kernel, by decide +kernel⟩
theorem mt_La_undo : Cond.static y_La_undo ∈ zz_good := zz_c8 21 (by decide +kernel) rfl
set_option maxRecDepth 20000 in
theorem ct_La_undo {l : Launch} (hl : l.stackTraces = false) (K : KT) (M : Mm) : CTp l K y_La_undo (Cond.codeWith y_La_undo method_56_code 3 (some .int) [(0, 8, 11, 17)]) rvI 10 1 6 [.ref (kA K 0), .ref (kA K 45)] M (fn_La_undo M) := by
  refine CTp_ofH (L := L_La_undo) (lc := [(0, .ref (kA K 0)), (1, .ref (kA K 45))]) (by decide +kernel) dec_La_undo hl rfl (Nat.le_of_ble_eq_true rfl) (fun X hX => ?_)
  unfold fn_La_undo
  refine V_aload_n hX (j := 1) (hj := rfl) 0 1 rfl rfl ?_
  refine V_iconst hX (v := 0) (hv := by decide) 1 2 rfl rfl ?_
  refine V_aload_n hX (j := 0) (hj := rfl) 2 3 rfl rfl ?_
  refine V_cat hX [((0, 8, 11, 17), 2, 1)] rfl (VR_V hX 3 (ct_SA_undo (cx_t hX) K M) my_SA_undo mi_SA_undo ms_SA_undo ml_La_188 (Nat.le_of_ble_eq_true rfl) (Nat.le_of_ble_eq_true rfl) (by decide) (ent_0 K _) rfl rfl rfl (Nat.le_of_ble_eq_true rfl) rfl (Nat.le_of_ble_eq_true rfl) (Nat.le_of_ble_eq_true rfl)) (Nat.le_of_ble_eq_true rfl) (Nat.le_of_ble_eq_true rfl) (hk := List.forall_mem_cons.mpr ⟨ho_La_undo_0, fun _ h => nomatch h⟩) (hcv := List.forall_mem_cons.mpr ⟨by decide, fun _ h => nomatch h⟩) ?_ (fun r M1 => ?_)
  · refine List.forall_mem_cons.mpr ⟨fun a M1 => ?_, ?_⟩
    · refine V_astore_n hX 7 12 [(2, .ref a), (0, .ref (kA K 0)), (1, .ref (kA K 45))] rfl rfl (Nat.le_of_ble_eq_true rfl) rfl ?_
      refine V_iconst hX (v := 1) (hv := by decide) 8 13 rfl rfl ?_
      exact V_iret hX 9 rfl (Nat.le_of_ble_eq_true rfl) (Nat.le_of_ble_eq_true rfl) rfl
    exact fun _ h => nomatch h
  · refine V_i2l hX 4 7 rfl rfl ?_
    refine V_last hX 5 8 (v := r) rfl rfl (fun M2 hM2 => ?_)
    refine V_goto hX 6 14 rfl (by decide) ?_
    refine V_iconst hX (v := 0) (hv := by decide) 10 15 rfl rfl ?_
    exact V_iret hX 11 rfl (Nat.le_of_ble_eq_true rfl) (Nat.le_of_ble_eq_true rfl) rfl
def y_La_restore : MethodName := ⟨"SeriesArchiveLaw", "restore", "(LSeriesArchive;[J)I"⟩
noncomputable def L_La_restore : zz_L := [(0, .aload_n 1, 1), (1, .iconst 0, 1), (2, .aload_n 0, 1), (3, .invokevirtual 191, 3), (6, .i2l, 1), (7, .lastore, 1), (8, .goto 6, 3), (11, .astore_n 2, 1), (12, .iconst 1, 1), (13, .ireturn, 1), (14, .iconst 0, 1), (15, .ireturn, 1)]
theorem dec_La_restore : zz_decAll method_57_code L_La_restore = true := by decide +kernel
theorem ho_La_restore_0 : HOk "SeriesArchiveLaw" ((0, 8, 11, 17), 2, 1) := ⟨by decide, by decide, cl_La_17, ca_2⟩
theorem myw_La_restore : MYW y_La_restore method_57_code 3 (some .int) [(0, 8, 11, 17)] 2 := ⟨zz_c8 35 (by decide +kernel) rfl, zz_c1 0 (by decide +kernel) rfl, by decide +kernel, by decide +kernel, by decide +kernel⟩
theorem mt_La_restore : Cond.static y_La_restore ∈ zz_good := zz_c8 34 (by decide +kernel) rfl
set_option maxRecDepth 20000 in
theorem ct_La_restore {l : Launch} (hl : l.stackTraces = false) (K : KT) (M : Mm) : CTp l K y_La_restore (Cond.codeWith y_La_restore method_57_code 3 (some .int) [(0, 8, 11, 17)]) rvI 10 1 6 [.ref (kA K 0), .ref (kA K 45)] M (fn_La_restore M) := by
  refine CTp_ofH (L := L_La_restore) (lc := [(0, .ref (kA K 0)), (1, .ref (kA K 45))]) (by decide +kernel) dec_La_restore hl rfl (Nat.le_of_ble_eq_true rfl) (fun X hX => ?_)
  unfold fn_La_restore
  refine V_aload_n hX (j := 1) (hj := rfl) 0 1 rfl rfl ?_
  refine V_iconst hX (v := 0) (hv := by decide) 1 2 rfl rfl ?_
  refine V_aload_n hX (j := 0) (hj := rfl) 2 3 rfl rfl ?_
  refine V_cat hX [((0, 8, 11, 17), 2, 1)] rfl (VR_V hX 3 (ct_SA_restore (cx_t hX) K M) my_SA_restore mi_SA_restore ms_SA_restore ml_La_191 (Nat.le_of_ble_eq_true rfl) (Nat.le_of_ble_eq_true rfl) (by decide) (ent_0 K _) rfl rfl rfl (Nat.le_of_ble_eq_true rfl) rfl (Nat.le_of_ble_eq_true rfl) (Nat.le_of_ble_eq_true rfl)) (Nat.le_of_ble_eq_true rfl) (Nat.le_of_ble_eq_true rfl) (hk := List.forall_mem_cons.mpr ⟨ho_La_restore_0, fun _ h => nomatch h⟩) (hcv := List.forall_mem_cons.mpr ⟨by decide, fun _ h => nomatch h⟩) ?_ (fun r M1 => ?_)
  · refine List.forall_mem_cons.mpr ⟨fun a M1 => ?_, ?_⟩
    · refine V_astore_n hX 7 12 [(2, .ref a), (0, .ref (kA K 0)), (1, .ref (kA K 45))] rfl rfl (Nat.le_of_ble_eq_true rfl) rfl ?_
      refine V_iconst hX (v := 1) (hv := by decide) 8 13 rfl rfl ?_
      exact V_iret hX 9 rfl (Nat.le_of_ble_eq_true rfl) (Nat.le_of_ble_eq_true rfl) rfl
    exact fun _ h => nomatch h
  · refine V_i2l hX 4 7 rfl rfl ?_
    refine V_last hX 5 8 (v := r) rfl rfl (fun M2 hM2 => ?_)
    refine V_goto hX 6 14 rfl (by decide) ?_
    refine V_iconst hX (v := 0) (hv := by decide) 10 15 rfl rfl ?_
    exact V_iret hX 11 rfl (Nat.le_of_ble_eq_true rfl) (Nat.le_of_ble_eq_true rfl) rfl
