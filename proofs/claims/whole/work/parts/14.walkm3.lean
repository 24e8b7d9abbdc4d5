set_option maxRecDepth 20000 in
theorem ct_Mo_spelled {l : Launch} (hl : l.stackTraces = false) (K : KT) (v0 : Int32) (v1 : Int32) (M : Mm) : CTp l K y_Mo_spelled (Cond.code y_Mo_spelled prog_15_method_125_code 2 (some .int)) rvI 2 0 0 [.int v0, .int v1] M (fn_Mo_spelled v0 v1 M) := by
  refine CTp_of (L := L_Mo_spelled) (lc := [(0, .int v0), (1, .int v1)]) (by decide +kernel) dec_Mo_spelled hl rfl (Nat.le_of_ble_eq_true rfl) (fun X hX => ?_)
  unfold fn_Mo_spelled
  refine V_iload_n hX (j := 0) (hj := rfl) 0 1 rfl rfl ?_
  refine VV_ite (fun e1_0 => ?_) (fun n1_0 => ?_)
  · refine V_tabIn hX 1 48 0 e1_0 (by decide) rfl (by decide) (by decide) rfl (by decide) ?_
    refine V_iload_n hX (j := 1) (hj := rfl) 2 49 rfl rfl ?_
    refine V_bipush hX (v := 112) (hv := by decide) 3 51 rfl rfl ?_
    refine V_bipush hX (v := 117) (hv := by decide) 4 53 rfl rfl ?_
    refine V_bipush hX (v := 116) (hv := by decide) 5 55 rfl rfl ?_
    refine V_iconst hX (v := 0) (hv := by decide) 6 56 rfl rfl ?_
    refine V_iconst hX (v := 0) (hv := by decide) 7 57 rfl rfl ?_
    refine V_iconst hX (v := 0) (hv := by decide) 8 58 rfl rfl ?_
    refine V_callI hX 61 0 0 rfl rfl rfl (Nat.le_of_ble_eq_true rfl) (Nat.le_of_ble_eq_true rfl) (VR_S hX 9 (ct_Mo_pick (cx_t hX) K v1 112 117 116 0 0 0 M) my_Mo_pick mt_Mo_pick ml_Mo_294 (Nat.le_of_ble_eq_true rfl) (Nat.le_of_ble_eq_true rfl) rfl rfl (Nat.le_of_ble_eq_true rfl) rfl (Nat.le_of_ble_eq_true rfl) (Nat.le_of_ble_eq_true rfl)) (fun r58 M58 => ?_)
    exact V_iret hX 10 rfl (Nat.le_of_ble_eq_true rfl) (Nat.le_of_ble_eq_true rfl) rfl
  refine VV_ite (fun e1_1 => ?_) (fun n1_1 => ?_)
  · refine V_tabIn hX 1 62 1 e1_1 (by decide) rfl (by decide) (by decide) rfl (by decide) ?_
    refine V_iload_n hX (j := 1) (hj := rfl) 11 63 rfl rfl ?_
    refine V_bipush hX (v := 115) (hv := by decide) 12 65 rfl rfl ?_
    refine V_bipush hX (v := 101) (hv := by decide) 13 67 rfl rfl ?_
    refine V_bipush hX (v := 116) (hv := by decide) 14 69 rfl rfl ?_
    refine V_iconst hX (v := 0) (hv := by decide) 15 70 rfl rfl ?_
    refine V_iconst hX (v := 0) (hv := by decide) 16 71 rfl rfl ?_
    refine V_iconst hX (v := 0) (hv := by decide) 17 72 rfl rfl ?_
    refine V_callI hX 75 0 0 rfl rfl rfl (Nat.le_of_ble_eq_true rfl) (Nat.le_of_ble_eq_true rfl) (VR_S hX 18 (ct_Mo_pick (cx_t hX) K v1 115 101 116 0 0 0 M) my_Mo_pick mt_Mo_pick ml_Mo_294 (Nat.le_of_ble_eq_true rfl) (Nat.le_of_ble_eq_true rfl) rfl rfl (Nat.le_of_ble_eq_true rfl) rfl (Nat.le_of_ble_eq_true rfl) (Nat.le_of_ble_eq_true rfl)) (fun r72 M72 => ?_)
    exact V_iret hX 19 rfl (Nat.le_of_ble_eq_true rfl) (Nat.le_of_ble_eq_true rfl) rfl
  refine VV_ite (fun e1_2 => ?_) (fun n1_2 => ?_)
  · refine V_tabIn hX 1 76 2 e1_2 (by decide) rfl (by decide) (by decide) rfl (by decide) ?_
    refine V_iload_n hX (j := 1) (hj := rfl) 20 77 rfl rfl ?_
    refine V_bipush hX (v := 99) (hv := by decide) 21 79 rfl rfl ?_
    refine V_bipush hX (v := 117) (hv := by decide) 22 81 rfl rfl ?_
    refine V_bipush hX (v := 116) (hv := by decide) 23 83 rfl rfl ?_
    refine V_iconst hX (v := 0) (hv := by decide) 24 84 rfl rfl ?_
    refine V_iconst hX (v := 0) (hv := by decide) 25 85 rfl rfl ?_
    refine V_iconst hX (v := 0) (hv := by decide) 26 86 rfl rfl ?_
    refine V_callI hX 89 0 0 rfl rfl rfl (Nat.le_of_ble_eq_true rfl) (Nat.le_of_ble_eq_true rfl) (VR_S hX 27 (ct_Mo_pick (cx_t hX) K v1 99 117 116 0 0 0 M) my_Mo_pick mt_Mo_pick ml_Mo_294 (Nat.le_of_ble_eq_true rfl) (Nat.le_of_ble_eq_true rfl) rfl rfl (Nat.le_of_ble_eq_true rfl) rfl (Nat.le_of_ble_eq_true rfl) (Nat.le_of_ble_eq_true rfl)) (fun r86 M86 => ?_)
    exact V_iret hX 28 rfl (Nat.le_of_ble_eq_true rfl) (Nat.le_of_ble_eq_true rfl) rfl
  refine VV_ite (fun e1_3 => ?_) (fun n1_3 => ?_)
  · refine V_tabIn hX 1 90 3 e1_3 (by decide) rfl (by decide) (by decide) rfl (by decide) ?_
    refine V_iload_n hX (j := 1) (hj := rfl) 29 91 rfl rfl ?_
    refine V_bipush hX (v := 99) (hv := by decide) 30 93 rfl rfl ?_
    refine V_bipush hX (v := 111) (hv := by decide) 31 95 rfl rfl ?_
    refine V_bipush hX (v := 112) (hv := by decide) 32 97 rfl rfl ?_
    refine V_bipush hX (v := 121) (hv := by decide) 33 99 rfl rfl ?_
    refine V_iconst hX (v := 0) (hv := by decide) 34 100 rfl rfl ?_
    refine V_iconst hX (v := 0) (hv := by decide) 35 101 rfl rfl ?_
    refine V_callI hX 104 0 0 rfl rfl rfl (Nat.le_of_ble_eq_true rfl) (Nat.le_of_ble_eq_true rfl) (VR_S hX 36 (ct_Mo_pick (cx_t hX) K v1 99 111 112 121 0 0 M) my_Mo_pick mt_Mo_pick ml_Mo_294 (Nat.le_of_ble_eq_true rfl) (Nat.le_of_ble_eq_true rfl) rfl rfl (Nat.le_of_ble_eq_true rfl) rfl (Nat.le_of_ble_eq_true rfl) (Nat.le_of_ble_eq_true rfl)) (fun r101 M101 => ?_)
    exact V_iret hX 37 rfl (Nat.le_of_ble_eq_true rfl) (Nat.le_of_ble_eq_true rfl) rfl
  refine VV_ite (fun e1_4 => ?_) (fun n1_4 => ?_)
  · refine V_tabIn hX 1 105 4 e1_4 (by decide) rfl (by decide) (by decide) rfl (by decide) ?_
    refine V_iload_n hX (j := 1) (hj := rfl) 38 106 rfl rfl ?_
    refine V_bipush hX (v := 116) (hv := by decide) 39 108 rfl rfl ?_
    refine V_bipush hX (v := 117) (hv := by decide) 40 110 rfl rfl ?_
    refine V_bipush hX (v := 114) (hv := by decide) 41 112 rfl rfl ?_
    refine V_bipush hX (v := 110) (hv := by decide) 42 114 rfl rfl ?_
    refine V_iconst hX (v := 0) (hv := by decide) 43 115 rfl rfl ?_
    refine V_iconst hX (v := 0) (hv := by decide) 44 116 rfl rfl ?_
    refine V_callI hX 119 0 0 rfl rfl rfl (Nat.le_of_ble_eq_true rfl) (Nat.le_of_ble_eq_true rfl) (VR_S hX 45 (ct_Mo_pick (cx_t hX) K v1 116 117 114 110 0 0 M) my_Mo_pick mt_Mo_pick ml_Mo_294 (Nat.le_of_ble_eq_true rfl) (Nat.le_of_ble_eq_true rfl) rfl rfl (Nat.le_of_ble_eq_true rfl) rfl (Nat.le_of_ble_eq_true rfl) (Nat.le_of_ble_eq_true rfl)) (fun r116 M116 => ?_)
    exact V_iret hX 46 rfl (Nat.le_of_ble_eq_true rfl) (Nat.le_of_ble_eq_true rfl) rfl
  refine VV_ite (fun e1_5 => ?_) (fun n1_5 => ?_)
  · refine V_tabIn hX 1 120 5 e1_5 (by decide) rfl (by decide) (by decide) rfl (by decide) ?_
    refine V_iload_n hX (j := 1) (hj := rfl) 47 121 rfl rfl ?_
    refine V_bipush hX (v := 115) (hv := by decide) 48 123 rfl rfl ?_
    refine V_bipush hX (v := 104) (hv := by decide) 49 125 rfl rfl ?_
    refine V_bipush hX (v := 105) (hv := by decide) 50 127 rfl rfl ?_
    refine V_bipush hX (v := 102) (hv := by decide) 51 129 rfl rfl ?_
    refine V_bipush hX (v := 116) (hv := by decide) 52 131 rfl rfl ?_
    refine V_iconst hX (v := 0) (hv := by decide) 53 132 rfl rfl ?_
    refine V_callI hX 135 0 0 rfl rfl rfl (Nat.le_of_ble_eq_true rfl) (Nat.le_of_ble_eq_true rfl) (VR_S hX 54 (ct_Mo_pick (cx_t hX) K v1 115 104 105 102 116 0 M) my_Mo_pick mt_Mo_pick ml_Mo_294 (Nat.le_of_ble_eq_true rfl) (Nat.le_of_ble_eq_true rfl) rfl rfl (Nat.le_of_ble_eq_true rfl) rfl (Nat.le_of_ble_eq_true rfl) (Nat.le_of_ble_eq_true rfl)) (fun r132 M132 => ?_)
    exact V_iret hX 55 rfl (Nat.le_of_ble_eq_true rfl) (Nat.le_of_ble_eq_true rfl) rfl
  refine VV_ite (fun e1_6 => ?_) (fun n1_6 => ?_)
  · refine V_tabIn hX 1 136 6 e1_6 (by decide) rfl (by decide) (by decide) rfl (by decide) ?_
    refine V_iload_n hX (j := 1) (hj := rfl) 56 137 rfl rfl ?_
    refine V_bipush hX (v := 115) (hv := by decide) 57 139 rfl rfl ?_
    refine V_bipush hX (v := 109) (hv := by decide) 58 141 rfl rfl ?_
    refine V_bipush hX (v := 111) (hv := by decide) 59 143 rfl rfl ?_
    refine V_bipush hX (v := 111) (hv := by decide) 60 145 rfl rfl ?_
    refine V_bipush hX (v := 116) (hv := by decide) 61 147 rfl rfl ?_
    refine V_bipush hX (v := 104) (hv := by decide) 62 149 rfl rfl ?_
    refine V_callI hX 152 0 0 rfl rfl rfl (Nat.le_of_ble_eq_true rfl) (Nat.le_of_ble_eq_true rfl) (VR_S hX 63 (ct_Mo_pick (cx_t hX) K v1 115 109 111 111 116 104 M) my_Mo_pick mt_Mo_pick ml_Mo_294 (Nat.le_of_ble_eq_true rfl) (Nat.le_of_ble_eq_true rfl) rfl rfl (Nat.le_of_ble_eq_true rfl) rfl (Nat.le_of_ble_eq_true rfl) (Nat.le_of_ble_eq_true rfl)) (fun r149 M149 => ?_)
    exact V_iret hX 64 rfl (Nat.le_of_ble_eq_true rfl) (Nat.le_of_ble_eq_true rfl) rfl
  refine VV_ite (fun e1_7 => ?_) (fun n1_7 => ?_)
  · refine V_tabIn hX 1 153 7 e1_7 (by decide) rfl (by decide) (by decide) rfl (by decide) ?_
    refine V_iload_n hX (j := 1) (hj := rfl) 65 154 rfl rfl ?_
    refine V_bipush hX (v := 115) (hv := by decide) 66 156 rfl rfl ?_
    refine V_bipush hX (v := 116) (hv := by decide) 67 158 rfl rfl ?_
    refine V_bipush hX (v := 101) (hv := by decide) 68 160 rfl rfl ?_
    refine V_bipush hX (v := 112) (hv := by decide) 69 162 rfl rfl ?_
    refine V_bipush hX (v := 115) (hv := by decide) 70 164 rfl rfl ?_
    refine V_iconst hX (v := 0) (hv := by decide) 71 165 rfl rfl ?_
    refine V_callI hX 168 0 0 rfl rfl rfl (Nat.le_of_ble_eq_true rfl) (Nat.le_of_ble_eq_true rfl) (VR_S hX 72 (ct_Mo_pick (cx_t hX) K v1 115 116 101 112 115 0 M) my_Mo_pick mt_Mo_pick ml_Mo_294 (Nat.le_of_ble_eq_true rfl) (Nat.le_of_ble_eq_true rfl) rfl rfl (Nat.le_of_ble_eq_true rfl) rfl (Nat.le_of_ble_eq_true rfl) (Nat.le_of_ble_eq_true rfl)) (fun r165 M165 => ?_)
    exact V_iret hX 73 rfl (Nat.le_of_ble_eq_true rfl) (Nat.le_of_ble_eq_true rfl) rfl
  refine V_tabOut hX 1 169 rfl (by have a0 := zz_ne (0) (by decide) n1_0; have a1 := zz_ne (1) (by decide) n1_1; have a2 := zz_ne (2) (by decide) n1_2; have a3 := zz_ne (3) (by decide) n1_3; have a4 := zz_ne (4) (by decide) n1_4; have a5 := zz_ne (5) (by decide) n1_5; have a6 := zz_ne (6) (by decide) n1_6; have a7 := zz_ne (7) (by decide) n1_7; omega) (by decide) ?_
  refine V_iload_n hX (j := 1) (hj := rfl) 74 170 rfl rfl ?_
  refine V_bipush hX (v := 99) (hv := by decide) 75 172 rfl rfl ?_
  refine V_bipush hX (v := 108) (hv := by decide) 76 174 rfl rfl ?_
  refine V_bipush hX (v := 105) (hv := by decide) 77 176 rfl rfl ?_
  refine V_bipush hX (v := 112) (hv := by decide) 78 178 rfl rfl ?_
  refine V_iconst hX (v := 0) (hv := by decide) 79 179 rfl rfl ?_
  refine V_iconst hX (v := 0) (hv := by decide) 80 180 rfl rfl ?_
  refine V_callI hX 183 0 0 rfl rfl rfl (Nat.le_of_ble_eq_true rfl) (Nat.le_of_ble_eq_true rfl) (VR_S hX 81 (ct_Mo_pick (cx_t hX) K v1 99 108 105 112 0 0 M) my_Mo_pick mt_Mo_pick ml_Mo_294 (Nat.le_of_ble_eq_true rfl) (Nat.le_of_ble_eq_true rfl) rfl rfl (Nat.le_of_ble_eq_true rfl) rfl (Nat.le_of_ble_eq_true rfl) (Nat.le_of_ble_eq_true rfl)) (fun r180 M180 => ?_)
  exact V_iret hX 82 rfl (Nat.le_of_ble_eq_true rfl) (Nat.le_of_ble_eq_true rfl) rfl
set_option maxRecDepth 20000 in
theorem bt_Mo_word_66 {l : Launch} {K : KT} {X : XT} (hX : Cx l K 3 4 0 0 X prog_15_method_126_code "SeriesArchiveModel" (some .int) [] L_Mo_word) (v2 : Int32) (v3 : Int32) (M : Mm) : VV l K 3 4 0 0 rvI X (fn_Mo_word_66 v2 v3 M) 0 0 M 66 [(0, .ref (kA K 32)), (2, .int v2), (3, .int v3)] [] := by
  unfold fn_Mo_word_66
  refine V_aload_n hX (j := 0) (hj := rfl) 37 67 rfl rfl ?_
  refine V_dup hX (hc := rfl) 38 68 rfl rfl ?_
  refine V_get hX 39 71 32 (.int (M 32 20)) fl_Mo_72 rfl rfl (by decide) (ent_32 K _) rfl ?_
  refine V_iload_n hX (j := 2) (hj := rfl) 40 72 rfl rfl ?_
  refine V_iadd hX 41 73 rfl rfl ?_
  refine V_putI hX 42 76 32 fp_Mo_72 (by decide) rfl rfl (by decide) (ent_32 K _) (Nat.le_of_ble_eq_true rfl) (ent_32 K _) (fun M73 hM73 => ?_)
  refine V_iload_n hX (j := 1) (hj := rfl) 43 77 rfl rfl ?_
  exact V_iret hX 44 rfl (Nat.le_of_ble_eq_true rfl) (Nat.le_of_ble_eq_true rfl) rfl
set_option maxRecDepth 20000 in
theorem bt_Mo_word_58 {l : Launch} {K : KT} {X : XT} (hX : Cx l K 3 4 0 0 X prog_15_method_126_code "SeriesArchiveModel" (some .int) [] L_Mo_word) (k4 : Int32 → Int32 → Mm → Rs Int32) (v1 : Int32) (v2 : Int32) (v3 : Int32) (hk4 : ∀ (v1 : Int32) (v2 : Int32) M, VV l K 3 4 0 0 rvI X (k4 v1 v2 M) 0 0 M 4 [(0, .ref (kA K 32)), (1, .int v1), (2, .int v2)] []) (M : Mm) : VV l K 3 4 0 0 rvI X (fn_Mo_word_58 k4 v1 v2 v3 M) 0 0 M 58 [(0, .ref (kA K 32)), (1, .int v1), (2, .int v2), (3, .int v3)] [] := by
  unfold fn_Mo_word_58
  refine V_iload_n hX (j := 2) (hj := rfl) 33 59 rfl rfl ?_
  refine V_iload_n hX (j := 3) (hj := rfl) 34 60 rfl rfl ?_
  refine V_callI hX 63 0 0 rfl rfl rfl (Nat.le_of_ble_eq_true rfl) (Nat.le_of_ble_eq_true rfl) (VR_S hX 35 (ct_Mo_spelled (cx_t hX) K v2 v3 M) my_Mo_spelled mt_Mo_spelled ml_Mo_298 (Nat.le_of_ble_eq_true rfl) (Nat.le_of_ble_eq_true rfl) rfl rfl (Nat.le_of_ble_eq_true rfl) rfl (Nat.le_of_ble_eq_true rfl) (Nat.le_of_ble_eq_true rfl)) (fun r60 M60 => ?_)
  refine V_if_ne hX 36 66 78 rfl rfl (by decide) (fun c63 => ?_) (fun c63 => ?_)
  · refine V_iload_n hX (j := 3) (hj := rfl) 45 79 rfl rfl ?_
    refine V_iload_n hX (j := 1) (hj := rfl) 46 80 rfl rfl ?_
    refine V_callI hX 83 0 0 rfl rfl rfl (Nat.le_of_ble_eq_true rfl) (Nat.le_of_ble_eq_true rfl) (VR_S hX 47 (ct_Mo_more (cx_t hX) K v3 v1 M60) my_Mo_more mt_Mo_more ml_Mo_162 (Nat.le_of_ble_eq_true rfl) (Nat.le_of_ble_eq_true rfl) rfl rfl (Nat.le_of_ble_eq_true rfl) rfl (Nat.le_of_ble_eq_true rfl) (Nat.le_of_ble_eq_true rfl)) (fun r80 M80 => ?_)
    refine V_istore_n hX 48 84 [(1, .int r80), (0, .ref (kA K 32)), (2, .int v2), (3, .int v3)] rfl rfl (Nat.le_of_ble_eq_true rfl) rfl ?_
    refine V_iincL hX 49 87 2 rfl rfl rfl rfl (Nat.le_of_ble_eq_true rfl) (fun x2_84 hx2_84 => ?_)
    refine VV_lc [(2, .int x2_84), (1, .int r80), (0, .ref (kA K 32)), (3, .int v3)] rfl ?_
    refine V_goto hX 50 4 rfl (by decide) ?_
    refine VV_sub [2, 1, 0] rfl ?_
    exact hk4 r80 x2_84 M80
  · refine VV_sub [0, 2, 3] rfl ?_
    exact bt_Mo_word_66 hX v2 v3 M60
set_option maxRecDepth 20000 in
theorem bt_Mo_word_12 {l : Launch} {K : KT} {X : XT} (hX : Cx l K 3 4 0 0 X prog_15_method_126_code "SeriesArchiveModel" (some .int) [] L_Mo_word) (k4 : Int32 → Int32 → Mm → Rs Int32) (v1 : Int32) (v2 : Int32) (hk4 : ∀ (v1 : Int32) (v2 : Int32) M, VV l K 3 4 0 0 rvI X (k4 v1 v2 M) 0 0 M 4 [(0, .ref (kA K 32)), (1, .int v1), (2, .int v2)] []) : ∀ (n : Nat) (v3 : Int32) (M : Mm), VV l K 3 4 0 0 rvI X (fn_Mo_word_12 k4 v1 v2 n v3 M) 0 0 M 12 [(0, .ref (kA K 32)), (1, .int v1), (2, .int v2), (3, .int v3)] [] := by
  intro n
  induction n with
  | zero => intro v3 M; exact VV_none
  | succ n ih =>
    intro v3 M
    rw [fn_Mo_word_12]
    refine V_iload_n hX (j := 2) (hj := rfl) 9 13 rfl rfl ?_
    refine V_iload_n hX (j := 3) (hj := rfl) 10 14 rfl rfl ?_
    refine V_callI hX 17 0 0 rfl rfl rfl (Nat.le_of_ble_eq_true rfl) (Nat.le_of_ble_eq_true rfl) (VR_S hX 11 (ct_Mo_spelled (cx_t hX) K v2 v3 M) my_Mo_spelled mt_Mo_spelled ml_Mo_298 (Nat.le_of_ble_eq_true rfl) (Nat.le_of_ble_eq_true rfl) rfl rfl (Nat.le_of_ble_eq_true rfl) rfl (Nat.le_of_ble_eq_true rfl) (Nat.le_of_ble_eq_true rfl)) (fun r14 M14 => ?_)
    refine V_if_le hX 12 20 58 rfl rfl (by decide) (fun c17 => ?_) (fun c17 => ?_)
    · exact bt_Mo_word_58 hX k4 v1 v2 v3 hk4 M14
    · refine V_aload_n hX (j := 0) (hj := rfl) 13 21 rfl rfl ?_
      refine V_get hX 14 24 32 (.int (M14 32 20)) fl_Mo_72 rfl rfl (by decide) (ent_32 K _) rfl ?_
      refine V_iload_n hX (j := 3) (hj := rfl) 15 25 rfl rfl ?_
      refine V_iadd hX 16 26 rfl rfl ?_
      refine V_aload_n hX (j := 0) (hj := rfl) 17 27 rfl rfl ?_
      refine V_get hX 18 30 32 (.int (M14 32 19)) fl_Mo_69 rfl rfl (by decide) (ent_32 K _) rfl ?_
      refine V_icmp_ge hX 19 33 58 rfl rfl (by decide) (fun c30 => ?_) (fun c30 => ?_)
      · exact bt_Mo_word_58 hX k4 v1 v2 v3 hk4 M14
      · refine V_aload_n hX (j := 0) (hj := rfl) 20 34 rfl rfl ?_
        refine V_get hX 21 37 32 (.ref (kA K 40)) fl_Mo_51 rfl rfl (by decide) (ent_32 K _) rfl ?_
        refine V_aload_n hX (j := 0) (hj := rfl) 22 38 rfl rfl ?_
        refine V_get hX 23 41 32 (.int (M14 32 20)) fl_Mo_72 rfl rfl (by decide) (ent_32 K _) rfl ?_
        refine V_iload_n hX (j := 3) (hj := rfl) 24 42 rfl rfl ?_
        refine V_iadd hX 25 43 rfl rfl ?_
        refine V_iald hX 26 44 40 60 (by decide) rfl rfl rfl (fun g43 => ?_)
        refine V_iload_n hX (j := 2) (hj := rfl) 27 45 rfl rfl ?_
        refine V_iload_n hX (j := 3) (hj := rfl) 28 46 rfl rfl ?_
        refine V_callI hX 49 0 0 rfl rfl rfl (Nat.le_of_ble_eq_true rfl) (Nat.le_of_ble_eq_true rfl) (VR_S hX 29 (ct_Mo_spelled (cx_t hX) K v2 v3 M14) my_Mo_spelled mt_Mo_spelled ml_Mo_298 (Nat.le_of_ble_eq_true rfl) (Nat.le_of_ble_eq_true rfl) rfl rfl (Nat.le_of_ble_eq_true rfl) rfl (Nat.le_of_ble_eq_true rfl) (Nat.le_of_ble_eq_true rfl)) (fun r46 M46 => ?_)
        refine V_icmp_ne hX 30 52 58 rfl rfl (by decide) (fun c49 => ?_) (fun c49 => ?_)
        · exact bt_Mo_word_58 hX k4 v1 v2 v3 hk4 M46
        · refine V_iincL hX 31 55 3 rfl rfl rfl rfl (Nat.le_of_ble_eq_true rfl) (fun x3_52 hx3_52 => ?_)
          refine VV_lc [(3, .int x3_52), (0, .ref (kA K 32)), (1, .int v1), (2, .int v2)] rfl ?_
          refine V_goto hX 32 12 rfl (by decide) ?_
          refine VV_sub [1, 2, 3, 0] rfl ?_
          exact ih x3_52 M46
set_option maxRecDepth 20000 in
theorem bt_Mo_word_90 {l : Launch} {K : KT} {X : XT} (hX : Cx l K 3 4 0 0 X prog_15_method_126_code "SeriesArchiveModel" (some .int) [] L_Mo_word) (v1 : Int32) (M : Mm) : VV l K 3 4 0 0 rvI X (fn_Mo_word_90 v1 M) 0 0 M 90 [(0, .ref (kA K 32)), (1, .int v1)] [] := by
  unfold fn_Mo_word_90
  refine V_aload_n hX (j := 0) (hj := rfl) 51 91 rfl rfl ?_
  refine V_dup hX (hc := rfl) 52 92 rfl rfl ?_
  refine V_get hX 53 95 32 (.int (M 32 20)) fl_Mo_72 rfl rfl (by decide) (ent_32 K _) rfl ?_
  refine V_iload_n hX (j := 1) (hj := rfl) 54 96 rfl rfl ?_
  refine V_iadd hX 55 97 rfl rfl ?_
  refine V_putI hX 56 100 32 fp_Mo_72 (by decide) rfl rfl (by decide) (ent_32 K _) (Nat.le_of_ble_eq_true rfl) (ent_32 K _) (fun M97 hM97 => ?_)
  refine V_aload_n hX (j := 0) (hj := rfl) 57 101 rfl rfl ?_
  refine V_iconst hX (v := 1) (hv := by decide) 58 102 rfl rfl ?_
  refine V_putZ hX 59 105 32 fp_Mo_78 (by decide) (by decide) rfl rfl (by decide) (ent_32 K _) (Nat.le_of_ble_eq_true rfl) (ent_32 K _) (fun M102 hM102 => ?_)
  refine V_iconst hX (v := 0) (hv := by decide) 60 106 rfl rfl ?_
  exact V_iret hX 61 rfl (Nat.le_of_ble_eq_true rfl) (Nat.le_of_ble_eq_true rfl) rfl
set_option maxRecDepth 20000 in
theorem bt_Mo_word_4 {l : Launch} {K : KT} {X : XT} (hX : Cx l K 3 4 0 0 X prog_15_method_126_code "SeriesArchiveModel" (some .int) [] L_Mo_word) : ∀ (n : Nat) (v1 : Int32) (v2 : Int32) (M : Mm), VV l K 3 4 0 0 rvI X (fn_Mo_word_4 n v1 v2 M) 0 0 M 4 [(0, .ref (kA K 32)), (1, .int v1), (2, .int v2)] [] := by
  intro n
  induction n with
  | zero => intro v1 v2 M; exact VV_none
  | succ n ih =>
    intro v1 v2 M
    rw [fn_Mo_word_4]
    refine V_iload_n hX (j := 2) (hj := rfl) 4 5 rfl rfl ?_
    refine V_bipush hX (v := 9) (hv := by decide) 5 7 rfl rfl ?_
    refine V_icmp_ge hX 6 10 90 rfl rfl (by decide) (fun c7 => ?_) (fun c7 => ?_)
    · refine VV_sub [0, 1] rfl ?_
      exact bt_Mo_word_90 hX v1 M
    · refine V_iconst hX (v := 0) (hv := by decide) 7 11 rfl rfl ?_
      refine V_istore_n hX 8 12 [(3, .int 0), (0, .ref (kA K 32)), (1, .int v1), (2, .int v2)] rfl rfl (Nat.le_of_ble_eq_true rfl) rfl ?_
      refine VV_sub [1, 2, 3, 0] rfl ?_
      exact bt_Mo_word_12 hX (fn_Mo_word_4 n) v1 v2 ih fuel0 0 M
set_option maxRecDepth 20000 in
theorem ct_Mo_word {l : Launch} (hl : l.stackTraces = false) (K : KT) (M : Mm) : CTp l K y_Mo_word (Cond.code y_Mo_word prog_15_method_126_code 4 (some .int)) rvI 3 0 0 [.ref (kA K 32)] M (fn_Mo_word M) := by
  refine CTp_of (L := L_Mo_word) (lc := [(0, .ref (kA K 32))]) (by decide +kernel) dec_Mo_word hl rfl (Nat.le_of_ble_eq_true rfl) (fun X hX => ?_)
  unfold fn_Mo_word
  refine V_iconst hX (v := 0) (hv := by decide) 0 1 rfl rfl ?_
  refine V_istore_n hX 1 2 [(1, .int 0), (0, .ref (kA K 32))] rfl rfl (Nat.le_of_ble_eq_true rfl) rfl ?_
  refine V_iconst hX (v := 0) (hv := by decide) 2 3 rfl rfl ?_
  refine V_istore_n hX 3 4 [(2, .int 0), (1, .int 0), (0, .ref (kA K 32))] rfl rfl (Nat.le_of_ble_eq_true rfl) rfl ?_
  refine VV_sub [2, 1, 0] rfl ?_
  exact bt_Mo_word_4 hX fuel0 0 0 M
set_option maxRecDepth 20000 in
theorem bt_Mo_readsRest_52 {l : Launch} {K : KT} {X : XT} (hX : Cx l K 4 2 0 0 X prog_15_method_127_code "SeriesArchiveModel" none [] L_Mo_readsRest) (M : Mm) : VV l K 4 2 0 0 rvU X (fn_Mo_readsRest_52 M) 0 0 M 52 [(0, .ref (kA K 32))] [] := by
  unfold fn_Mo_readsRest_52
  refine V_aload_n hX (j := 0) (hj := rfl) 2 53 rfl rfl ?_
  refine V_get hX 3 56 32 (.ref (kA K 43)) fl_Mo_60 rfl rfl (by decide) (ent_32 K _) rfl ?_
  refine V_aload_n hX (j := 0) (hj := rfl) 4 57 rfl rfl ?_
  refine V_get hX 5 60 32 (.int (M 32 21)) fl_Mo_75 rfl rfl (by decide) (ent_32 K _) rfl ?_
  refine V_aload_n hX (j := 0) (hj := rfl) 6 61 rfl rfl ?_
  refine V_bipush hX (v := 32) (hv := by decide) 7 63 rfl rfl ?_
  refine V_callI hX 66 0 0 rfl rfl rfl (Nat.le_of_ble_eq_true rfl) (Nat.le_of_ble_eq_true rfl) (VR_V hX 8 (ct_Mo_numberBehind (cx_t hX) K 32 M) my_Mo_numberBehind mi_Mo_numberBehind ms_Mo_numberBehind ml_Mo_301 (Nat.le_of_ble_eq_true rfl) (Nat.le_of_ble_eq_true rfl) (by decide) (ent_32 K _) rfl rfl rfl (Nat.le_of_ble_eq_true rfl) rfl (Nat.le_of_ble_eq_true rfl) (Nat.le_of_ble_eq_true rfl)) (fun r63 M63 => ?_)
  refine V_iast hX 9 67 43 32 (by decide) rfl rfl rfl (fun g66 M66 hM66 => ?_)
  refine V_goto hX 10 194 rfl (by decide) ?_
  exact V_vret hX 76 rfl (Nat.le_of_ble_eq_true rfl) (Nat.le_of_ble_eq_true rfl) rfl
set_option maxRecDepth 20000 in
theorem ct_Mo_readsRest {l : Launch} (hl : l.stackTraces = false) (K : KT) (v1 : Int32) (M : Mm) : CTp l K y_Mo_readsRest (Cond.code y_Mo_readsRest prog_15_method_127_code 2 none) rvU 4 0 0 [.ref (kA K 32), .int v1] M (fn_Mo_readsRest v1 M) := by
  refine CTp_of (L := L_Mo_readsRest) (lc := [(0, .ref (kA K 32)), (1, .int v1)]) (by decide +kernel) dec_Mo_readsRest hl rfl (Nat.le_of_ble_eq_true rfl) (fun X hX => ?_)
  unfold fn_Mo_readsRest
  refine V_iload_n hX (j := 1) (hj := rfl) 0 1 rfl rfl ?_
  refine VV_ite (fun e1_0 => ?_) (fun n1_0 => ?_)
  · refine V_tabIn hX 1 52 0 e1_0 (by decide) rfl (by decide) (by decide) rfl (by decide) ?_
    refine VV_sub [0] rfl ?_
    exact bt_Mo_readsRest_52 hX M
  refine VV_ite (fun e1_1 => ?_) (fun n1_1 => ?_)
  · refine V_tabIn hX 1 70 1 e1_1 (by decide) rfl (by decide) (by decide) rfl (by decide) ?_
    refine V_aload_n hX (j := 0) (hj := rfl) 11 71 rfl rfl ?_
    refine V_get hX 12 74 32 (.ref (kA K 43)) fl_Mo_60 rfl rfl (by decide) (ent_32 K _) rfl ?_
    refine V_aload_n hX (j := 0) (hj := rfl) 13 75 rfl rfl ?_
    refine V_get hX 14 78 32 (.int (M 32 21)) fl_Mo_75 rfl rfl (by decide) (ent_32 K _) rfl ?_
    refine V_aload_n hX (j := 0) (hj := rfl) 15 79 rfl rfl ?_
    refine V_bipush hX (v := 32) (hv := by decide) 16 81 rfl rfl ?_
    refine V_iconst hX (v := 2) (hv := by decide) 17 82 rfl rfl ?_
    refine V_callI hX 85 0 0 rfl rfl rfl (Nat.le_of_ble_eq_true rfl) (Nat.le_of_ble_eq_true rfl) (VR_V hX 18 (ct_Mo_digitsBehind (cx_t hX) K 32 2 M) my_Mo_digitsBehind mi_Mo_digitsBehind ms_Mo_digitsBehind ml_Mo_304 (Nat.le_of_ble_eq_true rfl) (Nat.le_of_ble_eq_true rfl) (by decide) (ent_32 K _) rfl rfl rfl (Nat.le_of_ble_eq_true rfl) rfl (Nat.le_of_ble_eq_true rfl) (Nat.le_of_ble_eq_true rfl)) (fun r82 M82 => ?_)
    refine V_iast hX 19 86 43 32 (by decide) rfl rfl rfl (fun g85 M85 hM85 => ?_)
    refine V_aload_n hX (j := 0) (hj := rfl) 20 87 rfl rfl ?_
    refine V_get hX 21 90 32 (.ref (kA K 44)) fl_Mo_63 rfl rfl (by decide) (ent_32 K _) rfl ?_
    refine V_aload_n hX (j := 0) (hj := rfl) 22 91 rfl rfl ?_
    refine V_get hX 23 94 32 (.int (M85 32 21)) fl_Mo_75 rfl rfl (by decide) (ent_32 K _) rfl ?_
    refine V_aload_n hX (j := 0) (hj := rfl) 24 95 rfl rfl ?_
    refine V_bipush hX (v := 61) (hv := by decide) 25 97 rfl rfl ?_
    refine V_callI hX 100 0 0 rfl rfl rfl (Nat.le_of_ble_eq_true rfl) (Nat.le_of_ble_eq_true rfl) (VR_V hX 26 (ct_Mo_numberBehind (cx_t hX) K 61 M85) my_Mo_numberBehind mi_Mo_numberBehind ms_Mo_numberBehind ml_Mo_301 (Nat.le_of_ble_eq_true rfl) (Nat.le_of_ble_eq_true rfl) (by decide) (ent_32 K _) rfl rfl rfl (Nat.le_of_ble_eq_true rfl) rfl (Nat.le_of_ble_eq_true rfl) (Nat.le_of_ble_eq_true rfl)) (fun r97 M97 => ?_)
    refine V_iast hX 27 101 44 32 (by decide) rfl rfl rfl (fun g100 M100 hM100 => ?_)
    refine V_goto hX 28 194 rfl (by decide) ?_
    exact V_vret hX 76 rfl (Nat.le_of_ble_eq_true rfl) (Nat.le_of_ble_eq_true rfl) rfl
  refine VV_ite (fun e1_2 => ?_) (fun n1_2 => ?_)
  · refine V_tabIn hX 1 104 2 e1_2 (by decide) rfl (by decide) (by decide) rfl (by decide) ?_
    refine V_aload_n hX (j := 0) (hj := rfl) 29 105 rfl rfl ?_
    refine V_get hX 30 108 32 (.ref (kA K 43)) fl_Mo_60 rfl rfl (by decide) (ent_32 K _) rfl ?_
    refine V_aload_n hX (j := 0) (hj := rfl) 31 109 rfl rfl ?_
    refine V_get hX 32 112 32 (.int (M 32 21)) fl_Mo_75 rfl rfl (by decide) (ent_32 K _) rfl ?_
    refine V_aload_n hX (j := 0) (hj := rfl) 33 113 rfl rfl ?_
    refine V_bipush hX (v := 32) (hv := by decide) 34 115 rfl rfl ?_
    refine V_iconst hX (v := 2) (hv := by decide) 35 116 rfl rfl ?_
    refine V_callI hX 119 0 0 rfl rfl rfl (Nat.le_of_ble_eq_true rfl) (Nat.le_of_ble_eq_true rfl) (VR_V hX 36 (ct_Mo_digitsBehind (cx_t hX) K 32 2 M) my_Mo_digitsBehind mi_Mo_digitsBehind ms_Mo_digitsBehind ml_Mo_304 (Nat.le_of_ble_eq_true rfl) (Nat.le_of_ble_eq_true rfl) (by decide) (ent_32 K _) rfl rfl rfl (Nat.le_of_ble_eq_true rfl) rfl (Nat.le_of_ble_eq_true rfl) (Nat.le_of_ble_eq_true rfl)) (fun r116 M116 => ?_)
    refine V_iast hX 37 120 43 32 (by decide) rfl rfl rfl (fun g119 M119 hM119 => ?_)
    refine V_goto hX 38 194 rfl (by decide) ?_
    exact V_vret hX 76 rfl (Nat.le_of_ble_eq_true rfl) (Nat.le_of_ble_eq_true rfl) rfl
  refine VV_ite (fun e1_3 => ?_) (fun n1_3 => ?_)
  · refine V_tabIn hX 1 123 3 e1_3 (by decide) rfl (by decide) (by decide) rfl (by decide) ?_
    refine V_aload_n hX (j := 0) (hj := rfl) 39 124 rfl rfl ?_
    refine V_get hX 40 127 32 (.ref (kA K 43)) fl_Mo_60 rfl rfl (by decide) (ent_32 K _) rfl ?_
    refine V_aload_n hX (j := 0) (hj := rfl) 41 128 rfl rfl ?_
    refine V_get hX 42 131 32 (.int (M 32 21)) fl_Mo_75 rfl rfl (by decide) (ent_32 K _) rfl ?_
    refine V_aload_n hX (j := 0) (hj := rfl) 43 132 rfl rfl ?_
    refine V_bipush hX (v := 60) (hv := by decide) 44 134 rfl rfl ?_
    refine V_iconst hX (v := 1) (hv := by decide) 45 135 rfl rfl ?_
    refine V_callI hX 138 0 0 rfl rfl rfl (Nat.le_of_ble_eq_true rfl) (Nat.le_of_ble_eq_true rfl) (VR_V hX 46 (ct_Mo_digitsBehind (cx_t hX) K 60 1 M) my_Mo_digitsBehind mi_Mo_digitsBehind ms_Mo_digitsBehind ml_Mo_304 (Nat.le_of_ble_eq_true rfl) (Nat.le_of_ble_eq_true rfl) (by decide) (ent_32 K _) rfl rfl rfl (Nat.le_of_ble_eq_true rfl) rfl (Nat.le_of_ble_eq_true rfl) (Nat.le_of_ble_eq_true rfl)) (fun r135 M135 => ?_)
    refine V_iast hX 47 139 43 32 (by decide) rfl rfl rfl (fun g138 M138 hM138 => ?_)
    refine V_goto hX 48 194 rfl (by decide) ?_
    exact V_vret hX 76 rfl (Nat.le_of_ble_eq_true rfl) (Nat.le_of_ble_eq_true rfl) rfl
  refine VV_ite (fun e1_4 => ?_) (fun n1_4 => ?_)
  · refine V_tabIn hX 1 194 4 e1_4 (by decide) rfl (by decide) (by decide) rfl (by decide) ?_
    exact V_vret hX 76 rfl (Nat.le_of_ble_eq_true rfl) (Nat.le_of_ble_eq_true rfl) rfl
  refine VV_ite (fun e1_5 => ?_) (fun n1_5 => ?_)
  · refine V_tabIn hX 1 52 5 e1_5 (by decide) rfl (by decide) (by decide) rfl (by decide) ?_
    refine VV_sub [0] rfl ?_
    exact bt_Mo_readsRest_52 hX M
  refine VV_ite (fun e1_6 => ?_) (fun n1_6 => ?_)
  · refine V_tabIn hX 1 142 6 e1_6 (by decide) rfl (by decide) (by decide) rfl (by decide) ?_
    refine V_aload_n hX (j := 0) (hj := rfl) 49 143 rfl rfl ?_
    refine V_get hX 50 146 32 (.ref (kA K 43)) fl_Mo_60 rfl rfl (by decide) (ent_32 K _) rfl ?_
    refine V_aload_n hX (j := 0) (hj := rfl) 51 147 rfl rfl ?_
    refine V_get hX 52 150 32 (.int (M 32 21)) fl_Mo_75 rfl rfl (by decide) (ent_32 K _) rfl ?_
    refine V_aload_n hX (j := 0) (hj := rfl) 53 151 rfl rfl ?_
    refine V_bipush hX (v := 32) (hv := by decide) 54 153 rfl rfl ?_
    refine V_iconst hX (v := 1) (hv := by decide) 55 154 rfl rfl ?_
    refine V_callI hX 157 0 0 rfl rfl rfl (Nat.le_of_ble_eq_true rfl) (Nat.le_of_ble_eq_true rfl) (VR_V hX 56 (ct_Mo_digitsBehind (cx_t hX) K 32 1 M) my_Mo_digitsBehind mi_Mo_digitsBehind ms_Mo_digitsBehind ml_Mo_304 (Nat.le_of_ble_eq_true rfl) (Nat.le_of_ble_eq_true rfl) (by decide) (ent_32 K _) rfl rfl rfl (Nat.le_of_ble_eq_true rfl) rfl (Nat.le_of_ble_eq_true rfl) (Nat.le_of_ble_eq_true rfl)) (fun r154 M154 => ?_)
    refine V_iast hX 57 158 43 32 (by decide) rfl rfl rfl (fun g157 M157 hM157 => ?_)
    refine V_goto hX 58 194 rfl (by decide) ?_
    exact V_vret hX 76 rfl (Nat.le_of_ble_eq_true rfl) (Nat.le_of_ble_eq_true rfl) rfl
  refine VV_ite (fun e1_7 => ?_) (fun n1_7 => ?_)
  · refine V_tabIn hX 1 194 7 e1_7 (by decide) rfl (by decide) (by decide) rfl (by decide) ?_
    exact V_vret hX 76 rfl (Nat.le_of_ble_eq_true rfl) (Nat.le_of_ble_eq_true rfl) rfl
  refine VV_ite (fun e1_8 => ?_) (fun n1_8 => ?_)
  · refine V_tabIn hX 1 161 8 e1_8 (by decide) rfl (by decide) (by decide) rfl (by decide) ?_
    refine V_aload_n hX (j := 0) (hj := rfl) 59 162 rfl rfl ?_
    refine V_get hX 60 165 32 (.ref (kA K 43)) fl_Mo_60 rfl rfl (by decide) (ent_32 K _) rfl ?_
    refine V_aload_n hX (j := 0) (hj := rfl) 61 166 rfl rfl ?_
    refine V_get hX 62 169 32 (.int (M 32 21)) fl_Mo_75 rfl rfl (by decide) (ent_32 K _) rfl ?_
    refine V_aload_n hX (j := 0) (hj := rfl) 63 170 rfl rfl ?_
    refine V_bipush hX (v := 32) (hv := by decide) 64 172 rfl rfl ?_
    refine V_callI hX 175 0 0 rfl rfl rfl (Nat.le_of_ble_eq_true rfl) (Nat.le_of_ble_eq_true rfl) (VR_V hX 65 (ct_Mo_numberBehind (cx_t hX) K 32 M) my_Mo_numberBehind mi_Mo_numberBehind ms_Mo_numberBehind ml_Mo_301 (Nat.le_of_ble_eq_true rfl) (Nat.le_of_ble_eq_true rfl) (by decide) (ent_32 K _) rfl rfl rfl (Nat.le_of_ble_eq_true rfl) rfl (Nat.le_of_ble_eq_true rfl) (Nat.le_of_ble_eq_true rfl)) (fun r172 M172 => ?_)
    refine V_iast hX 66 176 43 32 (by decide) rfl rfl rfl (fun g175 M175 hM175 => ?_)
    refine V_aload_n hX (j := 0) (hj := rfl) 67 177 rfl rfl ?_
    refine V_get hX 68 180 32 (.ref (kA K 44)) fl_Mo_63 rfl rfl (by decide) (ent_32 K _) rfl ?_
    refine V_aload_n hX (j := 0) (hj := rfl) 69 181 rfl rfl ?_
    refine V_get hX 70 184 32 (.int (M175 32 21)) fl_Mo_75 rfl rfl (by decide) (ent_32 K _) rfl ?_
    refine V_aload_n hX (j := 0) (hj := rfl) 71 185 rfl rfl ?_
    refine V_bipush hX (v := 32) (hv := by decide) 72 187 rfl rfl ?_
    refine V_callI hX 190 0 0 rfl rfl rfl (Nat.le_of_ble_eq_true rfl) (Nat.le_of_ble_eq_true rfl) (VR_V hX 73 (ct_Mo_numberBehind (cx_t hX) K 32 M175) my_Mo_numberBehind mi_Mo_numberBehind ms_Mo_numberBehind ml_Mo_301 (Nat.le_of_ble_eq_true rfl) (Nat.le_of_ble_eq_true rfl) (by decide) (ent_32 K _) rfl rfl rfl (Nat.le_of_ble_eq_true rfl) rfl (Nat.le_of_ble_eq_true rfl) (Nat.le_of_ble_eq_true rfl)) (fun r187 M187 => ?_)
    refine V_iast hX 74 191 44 32 (by decide) rfl rfl rfl (fun g190 M190 hM190 => ?_)
    refine V_goto hX 75 194 rfl (by decide) ?_
    exact V_vret hX 76 rfl (Nat.le_of_ble_eq_true rfl) (Nat.le_of_ble_eq_true rfl) rfl
  refine V_tabOut hX 1 194 rfl (by have a0 := zz_ne (0) (by decide) n1_0; have a1 := zz_ne (1) (by decide) n1_1; have a2 := zz_ne (2) (by decide) n1_2; have a3 := zz_ne (3) (by decide) n1_3; have a4 := zz_ne (4) (by decide) n1_4; have a5 := zz_ne (5) (by decide) n1_5; have a6 := zz_ne (6) (by decide) n1_6; have a7 := zz_ne (7) (by decide) n1_7; have a8 := zz_ne (8) (by decide) n1_8; omega) (by decide) ?_
  exact V_vret hX 76 rfl (Nat.le_of_ble_eq_true rfl) (Nat.le_of_ble_eq_true rfl) rfl
set_option maxRecDepth 20000 in
theorem ct_Mo_command {l : Launch} (hl : l.stackTraces = false) (K : KT) (M : Mm) : CTp l K y_Mo_command (Cond.code y_Mo_command prog_15_method_128_code 2 none) rvU 5 0 0 [.ref (kA K 32)] M (fn_Mo_command M) := by
  refine CTp_of (L := L_Mo_command) (lc := [(0, .ref (kA K 32))]) (by decide +kernel) dec_Mo_command hl rfl (Nat.le_of_ble_eq_true rfl) (fun X hX => ?_)
  unfold fn_Mo_command
  refine V_aload_n hX (j := 0) (hj := rfl) 0 1 rfl rfl ?_
  refine V_callI hX 4 0 0 rfl rfl rfl (Nat.le_of_ble_eq_true rfl) (Nat.le_of_ble_eq_true rfl) (VR_V hX 1 (ct_Mo_word (cx_t hX) K M) my_Mo_word mi_Mo_word ms_Mo_word ml_Mo_307 (Nat.le_of_ble_eq_true rfl) (Nat.le_of_ble_eq_true rfl) (by decide) (ent_32 K _) rfl rfl rfl (Nat.le_of_ble_eq_true rfl) rfl (Nat.le_of_ble_eq_true rfl) (Nat.le_of_ble_eq_true rfl)) (fun r1 M1 => ?_)
  refine V_istore_n hX 2 5 [(1, .int r1), (0, .ref (kA K 32))] rfl rfl (Nat.le_of_ble_eq_true rfl) rfl ?_
  refine V_aload_n hX (j := 1) (hj := rfl) 3 6 rfl rfl ?_
  refine V_get hX 4 9 32 (.int (M1 32 22)) fl_Mo_78 rfl rfl (by decide) (ent_32 K _) rfl ?_
  refine V_if_eq hX 5 12 13 rfl rfl (by decide) (fun c9 => ?_) (fun c9 => ?_)
  · refine V_aload_n hX (j := 1) (hj := rfl) 7 14 rfl rfl ?_
    refine V_get hX 8 17 32 (.ref (kA K 42)) fl_Mo_57 rfl rfl (by decide) (ent_32 K _) rfl ?_
    refine V_aload_n hX (j := 1) (hj := rfl) 9 18 rfl rfl ?_
    refine V_get hX 10 21 32 (.int (M1 32 21)) fl_Mo_75 rfl rfl (by decide) (ent_32 K _) rfl ?_
    refine V_aload_n hX (j := 1) (hj := rfl) 11 22 rfl rfl ?_
    refine V_bipush hX (v := 32) (hv := by decide) 12 24 rfl rfl ?_
    refine V_iconst hX (v := 1) (hv := by decide) 13 25 rfl rfl ?_
    refine V_callI hX 28 0 0 rfl rfl rfl (Nat.le_of_ble_eq_true rfl) (Nat.le_of_ble_eq_true rfl) (VR_V hX 14 (ct_Mo_digitsBehind (cx_t hX) K 32 1 M1) my_Mo_digitsBehind mi_Mo_digitsBehind ms_Mo_digitsBehind ml_Mo_304 (Nat.le_of_ble_eq_true rfl) (Nat.le_of_ble_eq_true rfl) (by decide) (ent_32 K _) rfl rfl rfl (Nat.le_of_ble_eq_true rfl) rfl (Nat.le_of_ble_eq_true rfl) (Nat.le_of_ble_eq_true rfl)) (fun r25 M25 => ?_)
    refine V_iast hX 15 29 42 32 (by decide) rfl rfl rfl (fun g28 M28 hM28 => ?_)
    refine V_aload_n hX (j := 1) (hj := rfl) 16 30 rfl rfl ?_
    refine V_iload_n hX (j := 0) (hj := rfl) 17 31 rfl rfl ?_
    refine V_callU hX 34 0 0 rfl rfl rfl (Nat.le_of_ble_eq_true rfl) (Nat.le_of_ble_eq_true rfl) (VR_V hX 18 (ct_Mo_readsRest (cx_t hX) K r1 M28) my_Mo_readsRest mi_Mo_readsRest ms_Mo_readsRest ml_Mo_310 (Nat.le_of_ble_eq_true rfl) (Nat.le_of_ble_eq_true rfl) (by decide) (ent_32 K _) rfl rfl rfl (Nat.le_of_ble_eq_true rfl) rfl (Nat.le_of_ble_eq_true rfl) (Nat.le_of_ble_eq_true rfl)) (fun r31 M31 => ?_)
    refine V_aload_n hX (j := 1) (hj := rfl) 19 35 rfl rfl ?_
    refine V_get hX 20 38 32 (.int (M31 32 22)) fl_Mo_78 rfl rfl (by decide) (ent_32 K _) rfl ?_
    refine V_if_eq hX 21 41 42 rfl rfl (by decide) (fun c38 => ?_) (fun c38 => ?_)
    · refine V_aload_n hX (j := 1) (hj := rfl) 23 43 rfl rfl ?_
      refine V_get hX 24 46 32 (.ref (kA K 41)) fl_Mo_54 rfl rfl (by decide) (ent_32 K _) rfl ?_
      refine V_aload_n hX (j := 1) (hj := rfl) 25 47 rfl rfl ?_
      refine V_get hX 26 50 32 (.int (M31 32 21)) fl_Mo_75 rfl rfl (by decide) (ent_32 K _) rfl ?_
      refine V_iload_n hX (j := 0) (hj := rfl) 27 51 rfl rfl ?_
      refine V_iast hX 28 52 41 32 (by decide) rfl rfl rfl (fun g51 M51 hM51 => ?_)
      refine V_aload_n hX (j := 1) (hj := rfl) 29 53 rfl rfl ?_
      refine V_dup hX (hc := rfl) 30 54 rfl rfl ?_
      refine V_get hX 31 57 32 (.int (M51 32 21)) fl_Mo_75 rfl rfl (by decide) (ent_32 K _) rfl ?_
      refine V_iconst hX (v := 1) (hv := by decide) 32 58 rfl rfl ?_
      refine V_iadd hX 33 59 rfl rfl ?_
      refine V_putI hX 34 62 32 fp_Mo_75 (by decide) rfl rfl (by decide) (ent_32 K _) (Nat.le_of_ble_eq_true rfl) (ent_32 K _) (fun M59 hM59 => ?_)
      exact V_vret hX 35 rfl (Nat.le_of_ble_eq_true rfl) (Nat.le_of_ble_eq_true rfl) rfl
    · exact V_vret hX 22 rfl (Nat.le_of_ble_eq_true rfl) (Nat.le_of_ble_eq_true rfl) rfl
  · exact V_vret hX 6 rfl (Nat.le_of_ble_eq_true rfl) (Nat.le_of_ble_eq_true rfl) rfl
set_option maxRecDepth 20000 in
theorem bt_Mo_parse_79 {l : Launch} {K : KT} {X : XT} (hX : Cx l K 6 1 0 0 X prog_15_method_129_code "SeriesArchiveModel" none [] L_Mo_parse) (s1 : Int32) (s2 : Int32) (M : Mm) : VV l K 6 1 0 0 rvU X (fn_Mo_parse_79 s1 s2 M) 0 0 M 79 [] [.int s2, .int s1, .ref (kA K 32)] := by
  unfold fn_Mo_parse_79
  refine V_ior hX 42 80 rfl rfl ?_
  refine VV_grd (fun hz1 => ?_)
  refine V_putZ hX 43 83 32 fp_Mo_78 hz1 (by decide) rfl rfl (by decide) (ent_32 K _) (Nat.le_of_ble_eq_true rfl) (ent_32 K _) (fun M80 hM80 => ?_)
  exact V_vret hX 44 rfl (Nat.le_of_ble_eq_true rfl) (Nat.le_of_ble_eq_true rfl) rfl
set_option maxRecDepth 20000 in
theorem bt_Mo_parse_58 {l : Launch} {K : KT} {X : XT} (hX : Cx l K 6 1 0 0 X prog_15_method_129_code "SeriesArchiveModel" none [] L_Mo_parse) (M : Mm) : VV l K 6 1 0 0 rvU X (fn_Mo_parse_58 M) 0 0 M 58 [(0, .ref (kA K 32))] [] := by
  unfold fn_Mo_parse_58
  refine V_aload_n hX (j := 0) (hj := rfl) 31 59 rfl rfl ?_
  refine V_dup hX (hc := rfl) 32 60 rfl rfl ?_
  refine V_get hX 33 63 32 (.int (M 32 22)) fl_Mo_78 rfl rfl (by decide) (ent_32 K _) rfl ?_
  refine V_aload_n hX (j := 0) (hj := rfl) 34 64 rfl rfl ?_
  refine V_get hX 35 67 32 (.int (M 32 20)) fl_Mo_72 rfl rfl (by decide) (ent_32 K _) rfl ?_
  refine V_aload_n hX (j := 0) (hj := rfl) 36 68 rfl rfl ?_
  refine V_get hX 37 71 32 (.int (M 32 19)) fl_Mo_69 rfl rfl (by decide) (ent_32 K _) rfl ?_
  refine V_icmp_ge hX 38 74 78 rfl rfl (by decide) (fun c71 => ?_) (fun c71 => ?_)
  · refine V_iconst hX (v := 0) (hv := by decide) 41 79 rfl rfl ?_
    refine VV_sub [] rfl ?_
    exact bt_Mo_parse_79 hX (M 32 22) 0 M
  · refine V_iconst hX (v := 1) (hv := by decide) 39 75 rfl rfl ?_
    refine V_goto hX 40 79 rfl (by decide) ?_
    refine VV_sub [] rfl ?_
    exact bt_Mo_parse_79 hX (M 32 22) 1 M
set_option maxRecDepth 20000 in
theorem bt_Mo_parse_32 {l : Launch} {K : KT} {X : XT} (hX : Cx l K 6 1 0 0 X prog_15_method_129_code "SeriesArchiveModel" none [] L_Mo_parse) : ∀ (n : Nat) (M : Mm), VV l K 6 1 0 0 rvU X (fn_Mo_parse_32 n M) 0 0 M 32 [(0, .ref (kA K 32))] [] := by
  intro n
  induction n with
  | zero => intro  M; exact VV_none
  | succ n ih =>
    intro  M
    rw [fn_Mo_parse_32]
    refine V_aload_n hX (j := 0) (hj := rfl) 18 33 rfl rfl ?_
    refine V_callI hX 36 0 0 rfl rfl rfl (Nat.le_of_ble_eq_true rfl) (Nat.le_of_ble_eq_true rfl) (VR_V hX 19 (ct_Mo_mark (cx_t hX) K M) my_Mo_mark mi_Mo_mark ms_Mo_mark ml_Mo_285 (Nat.le_of_ble_eq_true rfl) (Nat.le_of_ble_eq_true rfl) (by decide) (ent_32 K _) rfl rfl rfl (Nat.le_of_ble_eq_true rfl) rfl (Nat.le_of_ble_eq_true rfl) (Nat.le_of_ble_eq_true rfl)) (fun r33 M33 => ?_)
    refine V_bipush hX (v := 59) (hv := by decide) 20 38 rfl rfl ?_
    refine V_icmp_ne hX 21 41 58 rfl rfl (by decide) (fun c38 => ?_) (fun c38 => ?_)
    · exact bt_Mo_parse_58 hX M33
    · refine V_aload_n hX (j := 0) (hj := rfl) 22 42 rfl rfl ?_
      refine V_dup hX (hc := rfl) 23 43 rfl rfl ?_
      refine V_get hX 24 46 32 (.int (M33 32 20)) fl_Mo_72 rfl rfl (by decide) (ent_32 K _) rfl ?_
      refine V_iconst hX (v := 1) (hv := by decide) 25 47 rfl rfl ?_
      refine V_iadd hX 26 48 rfl rfl ?_
      refine V_putI hX 27 51 32 fp_Mo_72 (by decide) rfl rfl (by decide) (ent_32 K _) (Nat.le_of_ble_eq_true rfl) (ent_32 K _) (fun M48 hM48 => ?_)
      refine V_aload_n hX (j := 0) (hj := rfl) 28 52 rfl rfl ?_
      refine V_callU hX 55 0 0 rfl rfl rfl (Nat.le_of_ble_eq_true rfl) (Nat.le_of_ble_eq_true rfl) (VR_V hX 29 (ct_Mo_command (cx_t hX) K M48) my_Mo_command mi_Mo_command ms_Mo_command ml_Mo_313 (Nat.le_of_ble_eq_true rfl) (Nat.le_of_ble_eq_true rfl) (by decide) (ent_32 K _) rfl rfl rfl (Nat.le_of_ble_eq_true rfl) rfl (Nat.le_of_ble_eq_true rfl) (Nat.le_of_ble_eq_true rfl)) (fun r52 M52 => ?_)
      refine V_goto hX 30 32 rfl (by decide) ?_
      exact ih M52
set_option maxRecDepth 20000 in
theorem ct_Mo_parse {l : Launch} (hl : l.stackTraces = false) (K : KT) (M : Mm) : CTp l K y_Mo_parse (Cond.code y_Mo_parse prog_15_method_129_code 1 none) rvU 6 0 0 [.ref (kA K 32)] M (fn_Mo_parse M) := by
  refine CTp_of (L := L_Mo_parse) (lc := [(0, .ref (kA K 32))]) (by decide +kernel) dec_Mo_parse hl rfl (Nat.le_of_ble_eq_true rfl) (fun X hX => ?_)
  unfold fn_Mo_parse
  refine V_aload_n hX (j := 0) (hj := rfl) 0 1 rfl rfl ?_
  refine V_aload_n hX (j := 0) (hj := rfl) 1 2 rfl rfl ?_
  refine V_get hX 2 5 32 (.int (M 32 18)) fl_Mo_66 rfl rfl (by decide) (ent_32 K _) rfl ?_
  refine V_putI hX 3 8 32 fp_Mo_69 (by decide) rfl rfl (by decide) (ent_32 K _) (Nat.le_of_ble_eq_true rfl) (ent_32 K _) (fun M5 hM5 => ?_)
  refine V_aload_n hX (j := 0) (hj := rfl) 4 9 rfl rfl ?_
  refine V_iconst hX (v := 0) (hv := by decide) 5 10 rfl rfl ?_
  refine V_putI hX 6 13 32 fp_Mo_66 (by decide) rfl rfl (by decide) (ent_32 K _) (Nat.le_of_ble_eq_true rfl) (ent_32 K _) (fun M10 hM10 => ?_)
  refine V_aload_n hX (j := 0) (hj := rfl) 7 14 rfl rfl ?_
  refine V_iconst hX (v := 0) (hv := by decide) 8 15 rfl rfl ?_
  refine V_putI hX 9 18 32 fp_Mo_72 (by decide) rfl rfl (by decide) (ent_32 K _) (Nat.le_of_ble_eq_true rfl) (ent_32 K _) (fun M15 hM15 => ?_)
  refine V_aload_n hX (j := 0) (hj := rfl) 10 19 rfl rfl ?_
  refine V_iconst hX (v := 0) (hv := by decide) 11 20 rfl rfl ?_
  refine V_putI hX 12 23 32 fp_Mo_75 (by decide) rfl rfl (by decide) (ent_32 K _) (Nat.le_of_ble_eq_true rfl) (ent_32 K _) (fun M20 hM20 => ?_)
  refine V_aload_n hX (j := 0) (hj := rfl) 13 24 rfl rfl ?_
  refine V_iconst hX (v := 0) (hv := by decide) 14 25 rfl rfl ?_
  refine V_putZ hX 15 28 32 fp_Mo_78 (by decide) (by decide) rfl rfl (by decide) (ent_32 K _) (Nat.le_of_ble_eq_true rfl) (ent_32 K _) (fun M25 hM25 => ?_)
  refine V_aload_n hX (j := 0) (hj := rfl) 16 29 rfl rfl ?_
  refine V_callU hX 32 0 0 rfl rfl rfl (Nat.le_of_ble_eq_true rfl) (Nat.le_of_ble_eq_true rfl) (VR_V hX 17 (ct_Mo_command (cx_t hX) K M25) my_Mo_command mi_Mo_command ms_Mo_command ml_Mo_313 (Nat.le_of_ble_eq_true rfl) (Nat.le_of_ble_eq_true rfl) (by decide) (ent_32 K _) rfl rfl rfl (Nat.le_of_ble_eq_true rfl) rfl (Nat.le_of_ble_eq_true rfl) (Nat.le_of_ble_eq_true rfl)) (fun r29 M29 => ?_)
  exact bt_Mo_parse_32 hX fuel0 M29
set_option maxRecDepth 20000 in
theorem ct_Mo_why {l : Launch} (hl : l.stackTraces = false) (K : KT) (v1 : Int32) (v2 : Int32) (v3 : Int32) (v4 : Int32) (M : Mm) : CTp l K y_Mo_why (Cond.code y_Mo_why prog_15_method_130_code 5 (some .int)) rvI 5 0 0 [.ref (kA K 32), .int v1, .int v2, .int v3, .int v4] M (fn_Mo_why v1 v2 v3 v4 M) := by
  refine CTp_of (L := L_Mo_why) (lc := [(0, .ref (kA K 32)), (1, .int v1), (2, .int v2), (3, .int v3), (4, .int v4)]) (by decide +kernel) dec_Mo_why hl rfl (Nat.le_of_ble_eq_true rfl) (fun X hX => ?_)
  unfold fn_Mo_why
  refine V_iload_n hX (j := 1) (hj := rfl) 0 1 rfl rfl ?_
  refine VV_ite (fun e1_0 => ?_) (fun n1_0 => ?_)
  · refine V_tabIn hX 1 48 0 e1_0 (by decide) rfl (by decide) (by decide) rfl (by decide) ?_
    refine V_aload_n hX (j := 0) (hj := rfl) 2 49 rfl rfl ?_
    refine V_iload_n hX (j := 2) (hj := rfl) 3 50 rfl rfl ?_
    refine V_iload_n hX (j := 3) (hj := rfl) 4 51 rfl rfl ?_
    refine V_callI hX 54 0 0 rfl rfl rfl (Nat.le_of_ble_eq_true rfl) (Nat.le_of_ble_eq_true rfl) (VR_V hX 5 (ct_Mo_cannotAppend (cx_t hX) K v2 v3 M) my_Mo_cannotAppend mi_Mo_cannotAppend ms_Mo_cannotAppend ml_Mo_107 (Nat.le_of_ble_eq_true rfl) (Nat.le_of_ble_eq_true rfl) (by decide) (ent_32 K _) rfl rfl rfl (Nat.le_of_ble_eq_true rfl) rfl (Nat.le_of_ble_eq_true rfl) (Nat.le_of_ble_eq_true rfl)) (fun r51 M51 => ?_)
    exact V_iret hX 6 rfl (Nat.le_of_ble_eq_true rfl) (Nat.le_of_ble_eq_true rfl) rfl
  refine VV_ite (fun e1_1 => ?_) (fun n1_1 => ?_)
  · refine V_tabIn hX 1 55 1 e1_1 (by decide) rfl (by decide) (by decide) rfl (by decide) ?_
    refine V_aload_n hX (j := 0) (hj := rfl) 7 56 rfl rfl ?_
    refine V_iload_n hX (j := 2) (hj := rfl) 8 57 rfl rfl ?_
    refine V_iload_n hX (j := 3) (hj := rfl) 9 58 rfl rfl ?_
    refine V_iload hX (j := 4) (hj := rfl) 10 60 rfl rfl ?_
    refine V_callI hX 63 0 0 rfl rfl rfl (Nat.le_of_ble_eq_true rfl) (Nat.le_of_ble_eq_true rfl) (VR_V hX 11 (ct_Mo_cannotSet (cx_t hX) K v2 v3 v4 M) my_Mo_cannotSet mi_Mo_cannotSet ms_Mo_cannotSet ml_Mo_127 (Nat.le_of_ble_eq_true rfl) (Nat.le_of_ble_eq_true rfl) (by decide) (ent_32 K _) rfl rfl rfl (Nat.le_of_ble_eq_true rfl) rfl (Nat.le_of_ble_eq_true rfl) (Nat.le_of_ble_eq_true rfl)) (fun r60 M60 => ?_)
    exact V_iret hX 12 rfl (Nat.le_of_ble_eq_true rfl) (Nat.le_of_ble_eq_true rfl) rfl
  refine VV_ite (fun e1_2 => ?_) (fun n1_2 => ?_)
  · refine V_tabIn hX 1 64 2 e1_2 (by decide) rfl (by decide) (by decide) rfl (by decide) ?_
    refine V_aload_n hX (j := 0) (hj := rfl) 13 65 rfl rfl ?_
    refine V_iload_n hX (j := 2) (hj := rfl) 14 66 rfl rfl ?_
    refine V_iload_n hX (j := 3) (hj := rfl) 15 67 rfl rfl ?_
    refine V_callI hX 70 0 0 rfl rfl rfl (Nat.le_of_ble_eq_true rfl) (Nat.le_of_ble_eq_true rfl) (VR_V hX 16 (ct_Mo_cannotCut (cx_t hX) K v2 v3 M) my_Mo_cannotCut mi_Mo_cannotCut ms_Mo_cannotCut ml_Mo_138 (Nat.le_of_ble_eq_true rfl) (Nat.le_of_ble_eq_true rfl) (by decide) (ent_32 K _) rfl rfl rfl (Nat.le_of_ble_eq_true rfl) rfl (Nat.le_of_ble_eq_true rfl) (Nat.le_of_ble_eq_true rfl)) (fun r67 M67 => ?_)
    exact V_iret hX 17 rfl (Nat.le_of_ble_eq_true rfl) (Nat.le_of_ble_eq_true rfl) rfl
  refine VV_ite (fun e1_3 => ?_) (fun n1_3 => ?_)
  · refine V_tabIn hX 1 71 3 e1_3 (by decide) rfl (by decide) (by decide) rfl (by decide) ?_
    refine V_iload_n hX (j := 2) (hj := rfl) 18 72 rfl rfl ?_
    refine V_callI hX 75 0 0 rfl rfl rfl (Nat.le_of_ble_eq_true rfl) (Nat.le_of_ble_eq_true rfl) (VR_S hX 19 (ct_Mo_isSlot (cx_t hX) K v2 M) my_Mo_isSlot mt_Mo_isSlot ml_Mo_89 (Nat.le_of_ble_eq_true rfl) (Nat.le_of_ble_eq_true rfl) rfl rfl (Nat.le_of_ble_eq_true rfl) rfl (Nat.le_of_ble_eq_true rfl) (Nat.le_of_ble_eq_true rfl)) (fun r72 M72 => ?_)
    refine V_if_eq hX 20 78 89 rfl rfl (by decide) (fun c75 => ?_) (fun c75 => ?_)
    · refine V_iconst hX (v := 1) (hv := by decide) 26 90 rfl rfl ?_
      exact V_iret hX 27 rfl (Nat.le_of_ble_eq_true rfl) (Nat.le_of_ble_eq_true rfl) rfl
    · refine V_iload_n hX (j := 3) (hj := rfl) 21 79 rfl rfl ?_
      refine V_callI hX 82 0 0 rfl rfl rfl (Nat.le_of_ble_eq_true rfl) (Nat.le_of_ble_eq_true rfl) (VR_S hX 22 (ct_Mo_isSlot (cx_t hX) K v3 M72) my_Mo_isSlot mt_Mo_isSlot ml_Mo_89 (Nat.le_of_ble_eq_true rfl) (Nat.le_of_ble_eq_true rfl) rfl rfl (Nat.le_of_ble_eq_true rfl) rfl (Nat.le_of_ble_eq_true rfl) (Nat.le_of_ble_eq_true rfl)) (fun r79 M79 => ?_)
      refine V_if_eq hX 23 85 89 rfl rfl (by decide) (fun c82 => ?_) (fun c82 => ?_)
      · refine V_iconst hX (v := 1) (hv := by decide) 26 90 rfl rfl ?_
        exact V_iret hX 27 rfl (Nat.le_of_ble_eq_true rfl) (Nat.le_of_ble_eq_true rfl) rfl
      · refine V_iconst hX (v := 0) (hv := by decide) 24 86 rfl rfl ?_
        refine V_goto hX 25 90 rfl (by decide) ?_
        exact V_iret hX 27 rfl (Nat.le_of_ble_eq_true rfl) (Nat.le_of_ble_eq_true rfl) rfl
  refine VV_ite (fun e1_4 => ?_) (fun n1_4 => ?_)
  · refine V_tabIn hX 1 91 4 e1_4 (by decide) rfl (by decide) (by decide) rfl (by decide) ?_
    refine V_iload_n hX (j := 2) (hj := rfl) 28 92 rfl rfl ?_
    refine V_callI hX 95 0 0 rfl rfl rfl (Nat.le_of_ble_eq_true rfl) (Nat.le_of_ble_eq_true rfl) (VR_S hX 29 (ct_Mo_isSlot (cx_t hX) K v2 M) my_Mo_isSlot mt_Mo_isSlot ml_Mo_89 (Nat.le_of_ble_eq_true rfl) (Nat.le_of_ble_eq_true rfl) rfl rfl (Nat.le_of_ble_eq_true rfl) rfl (Nat.le_of_ble_eq_true rfl) (Nat.le_of_ble_eq_true rfl)) (fun r92 M92 => ?_)
    refine V_if_eq hX 30 98 102 rfl rfl (by decide) (fun c95 => ?_) (fun c95 => ?_)
    · refine V_iconst hX (v := 1) (hv := by decide) 33 103 rfl rfl ?_
      exact V_iret hX 34 rfl (Nat.le_of_ble_eq_true rfl) (Nat.le_of_ble_eq_true rfl) rfl
    · refine V_iconst hX (v := 0) (hv := by decide) 31 99 rfl rfl ?_
      refine V_goto hX 32 103 rfl (by decide) ?_
      exact V_iret hX 34 rfl (Nat.le_of_ble_eq_true rfl) (Nat.le_of_ble_eq_true rfl) rfl
  refine VV_ite (fun e1_5 => ?_) (fun n1_5 => ?_)
  · refine V_tabIn hX 1 104 5 e1_5 (by decide) rfl (by decide) (by decide) rfl (by decide) ?_
    refine V_aload_n hX (j := 0) (hj := rfl) 35 105 rfl rfl ?_
    refine V_iload_n hX (j := 2) (hj := rfl) 36 106 rfl rfl ?_
    refine V_iload_n hX (j := 3) (hj := rfl) 37 107 rfl rfl ?_
    refine V_callI hX 110 0 0 rfl rfl rfl (Nat.le_of_ble_eq_true rfl) (Nat.le_of_ble_eq_true rfl) (VR_V hX 38 (ct_Mo_cannotShift (cx_t hX) K v2 v3 M) my_Mo_cannotShift mi_Mo_cannotShift ms_Mo_cannotShift ml_Mo_156 (Nat.le_of_ble_eq_true rfl) (Nat.le_of_ble_eq_true rfl) (by decide) (ent_32 K _) rfl rfl rfl (Nat.le_of_ble_eq_true rfl) rfl (Nat.le_of_ble_eq_true rfl) (Nat.le_of_ble_eq_true rfl)) (fun r107 M107 => ?_)
    exact V_iret hX 39 rfl (Nat.le_of_ble_eq_true rfl) (Nat.le_of_ble_eq_true rfl) rfl
  refine VV_ite (fun e1_6 => ?_) (fun n1_6 => ?_)
  · refine V_tabIn hX 1 111 6 e1_6 (by decide) rfl (by decide) (by decide) rfl (by decide) ?_
    refine V_iload_n hX (j := 2) (hj := rfl) 40 112 rfl rfl ?_
    refine V_iload_n hX (j := 3) (hj := rfl) 41 113 rfl rfl ?_
    refine V_callI hX 116 0 0 rfl rfl rfl (Nat.le_of_ble_eq_true rfl) (Nat.le_of_ble_eq_true rfl) (VR_S hX 42 (ct_Mo_cannotSmooth (cx_t hX) K v2 v3 M) my_Mo_cannotSmooth mt_Mo_cannotSmooth ml_Mo_171 (Nat.le_of_ble_eq_true rfl) (Nat.le_of_ble_eq_true rfl) rfl rfl (Nat.le_of_ble_eq_true rfl) rfl (Nat.le_of_ble_eq_true rfl) (Nat.le_of_ble_eq_true rfl)) (fun r113 M113 => ?_)
    exact V_iret hX 43 rfl (Nat.le_of_ble_eq_true rfl) (Nat.le_of_ble_eq_true rfl) rfl
  refine VV_ite (fun e1_7 => ?_) (fun n1_7 => ?_)
  · refine V_tabIn hX 1 117 7 e1_7 (by decide) rfl (by decide) (by decide) rfl (by decide) ?_
    refine V_aload_n hX (j := 0) (hj := rfl) 44 118 rfl rfl ?_
    refine V_iload_n hX (j := 2) (hj := rfl) 45 119 rfl rfl ?_
    refine V_callI hX 122 0 0 rfl rfl rfl (Nat.le_of_ble_eq_true rfl) (Nat.le_of_ble_eq_true rfl) (VR_V hX 46 (ct_Mo_cannotStep (cx_t hX) K v2 M) my_Mo_cannotStep mi_Mo_cannotStep ms_Mo_cannotStep ml_Mo_177 (Nat.le_of_ble_eq_true rfl) (Nat.le_of_ble_eq_true rfl) (by decide) (ent_32 K _) rfl rfl rfl (Nat.le_of_ble_eq_true rfl) rfl (Nat.le_of_ble_eq_true rfl) (Nat.le_of_ble_eq_true rfl)) (fun r119 M119 => ?_)
    exact V_iret hX 47 rfl (Nat.le_of_ble_eq_true rfl) (Nat.le_of_ble_eq_true rfl) rfl
  refine V_tabOut hX 1 123 rfl (by have a0 := zz_ne (0) (by decide) n1_0; have a1 := zz_ne (1) (by decide) n1_1; have a2 := zz_ne (2) (by decide) n1_2; have a3 := zz_ne (3) (by decide) n1_3; have a4 := zz_ne (4) (by decide) n1_4; have a5 := zz_ne (5) (by decide) n1_5; have a6 := zz_ne (6) (by decide) n1_6; have a7 := zz_ne (7) (by decide) n1_7; omega) (by decide) ?_
  refine V_iload_n hX (j := 2) (hj := rfl) 48 124 rfl rfl ?_
  refine V_iload_n hX (j := 3) (hj := rfl) 49 125 rfl rfl ?_
  refine V_iload hX (j := 4) (hj := rfl) 50 127 rfl rfl ?_
  refine V_callI hX 130 0 0 rfl rfl rfl (Nat.le_of_ble_eq_true rfl) (Nat.le_of_ble_eq_true rfl) (VR_S hX 51 (ct_Mo_cannotClip (cx_t hX) K v2 v3 v4 M) my_Mo_cannotClip mt_Mo_cannotClip ml_Mo_183 (Nat.le_of_ble_eq_true rfl) (Nat.le_of_ble_eq_true rfl) rfl rfl (Nat.le_of_ble_eq_true rfl) rfl (Nat.le_of_ble_eq_true rfl) (Nat.le_of_ble_eq_true rfl)) (fun r127 M127 => ?_)
  exact V_iret hX 52 rfl (Nat.le_of_ble_eq_true rfl) (Nat.le_of_ble_eq_true rfl) rfl
set_option maxRecDepth 20000 in
theorem ct_Mo_does {l : Launch} (hl : l.stackTraces = false) (K : KT) (v1 : Int32) (v2 : Int32) (v3 : Int32) (v4 : Int32) (M : Mm) : CTp l K y_Mo_does (Cond.code y_Mo_does prog_15_method_131_code 5 (some .int)) rvI 4 0 0 [.ref (kA K 32), .int v1, .int v2, .int v3, .int v4] M (fn_Mo_does v1 v2 v3 v4 M) := by
  refine CTp_of (L := L_Mo_does) (lc := [(0, .ref (kA K 32)), (1, .int v1), (2, .int v2), (3, .int v3), (4, .int v4)]) (by decide +kernel) dec_Mo_does hl rfl (Nat.le_of_ble_eq_true rfl) (fun X hX => ?_)
  unfold fn_Mo_does
  refine V_iload_n hX (j := 1) (hj := rfl) 0 1 rfl rfl ?_
  refine VV_ite (fun e1_0 => ?_) (fun n1_0 => ?_)
  · refine V_tabIn hX 1 48 0 e1_0 (by decide) rfl (by decide) (by decide) rfl (by decide) ?_
    refine V_aload_n hX (j := 0) (hj := rfl) 2 49 rfl rfl ?_
    refine V_iload_n hX (j := 2) (hj := rfl) 3 50 rfl rfl ?_
    refine V_iload_n hX (j := 3) (hj := rfl) 4 51 rfl rfl ?_
    refine V_callI hX 54 0 0 rfl rfl rfl (Nat.le_of_ble_eq_true rfl) (Nat.le_of_ble_eq_true rfl) (VR_V hX 5 (ct_Mo_appends (cx_t hX) K v2 v3 M) my_Mo_appends mi_Mo_appends ms_Mo_appends ml_Mo_114 (Nat.le_of_ble_eq_true rfl) (Nat.le_of_ble_eq_true rfl) (by decide) (ent_32 K _) rfl rfl rfl (Nat.le_of_ble_eq_true rfl) rfl (Nat.le_of_ble_eq_true rfl) (Nat.le_of_ble_eq_true rfl)) (fun r51 M51 => ?_)
    exact V_iret hX 6 rfl (Nat.le_of_ble_eq_true rfl) (Nat.le_of_ble_eq_true rfl) rfl
  refine VV_ite (fun e1_1 => ?_) (fun n1_1 => ?_)
  · refine V_tabIn hX 1 55 1 e1_1 (by decide) rfl (by decide) (by decide) rfl (by decide) ?_
    refine V_aload_n hX (j := 0) (hj := rfl) 7 56 rfl rfl ?_
    refine V_iload_n hX (j := 2) (hj := rfl) 8 57 rfl rfl ?_
    refine V_iload_n hX (j := 3) (hj := rfl) 9 58 rfl rfl ?_
    refine V_iload hX (j := 4) (hj := rfl) 10 60 rfl rfl ?_
    refine V_callI hX 63 0 0 rfl rfl rfl (Nat.le_of_ble_eq_true rfl) (Nat.le_of_ble_eq_true rfl) (VR_V hX 11 (ct_Mo_sets (cx_t hX) K v2 v3 v4 M) my_Mo_sets mi_Mo_sets ms_Mo_sets ml_Mo_131 (Nat.le_of_ble_eq_true rfl) (Nat.le_of_ble_eq_true rfl) (by decide) (ent_32 K _) rfl rfl rfl (Nat.le_of_ble_eq_true rfl) rfl (Nat.le_of_ble_eq_true rfl) (Nat.le_of_ble_eq_true rfl)) (fun r60 M60 => ?_)
    exact V_iret hX 12 rfl (Nat.le_of_ble_eq_true rfl) (Nat.le_of_ble_eq_true rfl) rfl
  refine VV_ite (fun e1_2 => ?_) (fun n1_2 => ?_)
  · refine V_tabIn hX 1 64 2 e1_2 (by decide) rfl (by decide) (by decide) rfl (by decide) ?_
    refine V_aload_n hX (j := 0) (hj := rfl) 13 65 rfl rfl ?_
    refine V_iload_n hX (j := 2) (hj := rfl) 14 66 rfl rfl ?_
    refine V_iload_n hX (j := 3) (hj := rfl) 15 67 rfl rfl ?_
    refine V_callI hX 70 0 0 rfl rfl rfl (Nat.le_of_ble_eq_true rfl) (Nat.le_of_ble_eq_true rfl) (VR_V hX 16 (ct_Mo_cuts (cx_t hX) K v2 v3 M) my_Mo_cuts mi_Mo_cuts ms_Mo_cuts ml_Mo_141 (Nat.le_of_ble_eq_true rfl) (Nat.le_of_ble_eq_true rfl) (by decide) (ent_32 K _) rfl rfl rfl (Nat.le_of_ble_eq_true rfl) rfl (Nat.le_of_ble_eq_true rfl) (Nat.le_of_ble_eq_true rfl)) (fun r67 M67 => ?_)
    exact V_iret hX 17 rfl (Nat.le_of_ble_eq_true rfl) (Nat.le_of_ble_eq_true rfl) rfl
  refine VV_ite (fun e1_3 => ?_) (fun n1_3 => ?_)
  · refine V_tabIn hX 1 71 3 e1_3 (by decide) rfl (by decide) (by decide) rfl (by decide) ?_
    refine V_aload_n hX (j := 0) (hj := rfl) 18 72 rfl rfl ?_
    refine V_iload_n hX (j := 2) (hj := rfl) 19 73 rfl rfl ?_
    refine V_iload_n hX (j := 3) (hj := rfl) 20 74 rfl rfl ?_
    refine V_callI hX 77 0 0 rfl rfl rfl (Nat.le_of_ble_eq_true rfl) (Nat.le_of_ble_eq_true rfl) (VR_V hX 21 (ct_Mo_copies (cx_t hX) K v2 v3 M) my_Mo_copies mi_Mo_copies ms_Mo_copies ml_Mo_144 (Nat.le_of_ble_eq_true rfl) (Nat.le_of_ble_eq_true rfl) (by decide) (ent_32 K _) rfl rfl rfl (Nat.le_of_ble_eq_true rfl) rfl (Nat.le_of_ble_eq_true rfl) (Nat.le_of_ble_eq_true rfl)) (fun r74 M74 => ?_)
    exact V_iret hX 22 rfl (Nat.le_of_ble_eq_true rfl) (Nat.le_of_ble_eq_true rfl) rfl
  refine VV_ite (fun e1_4 => ?_) (fun n1_4 => ?_)
  · refine V_tabIn hX 1 78 4 e1_4 (by decide) rfl (by decide) (by decide) rfl (by decide) ?_
    refine V_aload_n hX (j := 0) (hj := rfl) 23 79 rfl rfl ?_
    refine V_iload_n hX (j := 2) (hj := rfl) 24 80 rfl rfl ?_
    refine V_callI hX 83 0 0 rfl rfl rfl (Nat.le_of_ble_eq_true rfl) (Nat.le_of_ble_eq_true rfl) (VR_V hX 25 (ct_Mo_turns (cx_t hX) K v2 M) my_Mo_turns mi_Mo_turns ms_Mo_turns ml_Mo_150 (Nat.le_of_ble_eq_true rfl) (Nat.le_of_ble_eq_true rfl) (by decide) (ent_32 K _) rfl rfl rfl (Nat.le_of_ble_eq_true rfl) rfl (Nat.le_of_ble_eq_true rfl) (Nat.le_of_ble_eq_true rfl)) (fun r80 M80 => ?_)
    exact V_iret hX 26 rfl (Nat.le_of_ble_eq_true rfl) (Nat.le_of_ble_eq_true rfl) rfl
  refine VV_ite (fun e1_5 => ?_) (fun n1_5 => ?_)
  · refine V_tabIn hX 1 84 5 e1_5 (by decide) rfl (by decide) (by decide) rfl (by decide) ?_
    refine V_aload_n hX (j := 0) (hj := rfl) 27 85 rfl rfl ?_
    refine V_iload_n hX (j := 2) (hj := rfl) 28 86 rfl rfl ?_
    refine V_iload_n hX (j := 3) (hj := rfl) 29 87 rfl rfl ?_
    refine V_callI hX 90 0 0 rfl rfl rfl (Nat.le_of_ble_eq_true rfl) (Nat.le_of_ble_eq_true rfl) (VR_V hX 30 (ct_Mo_shifts (cx_t hX) K v2 v3 M) my_Mo_shifts mi_Mo_shifts ms_Mo_shifts ml_Mo_159 (Nat.le_of_ble_eq_true rfl) (Nat.le_of_ble_eq_true rfl) (by decide) (ent_32 K _) rfl rfl rfl (Nat.le_of_ble_eq_true rfl) rfl (Nat.le_of_ble_eq_true rfl) (Nat.le_of_ble_eq_true rfl)) (fun r87 M87 => ?_)
    exact V_iret hX 31 rfl (Nat.le_of_ble_eq_true rfl) (Nat.le_of_ble_eq_true rfl) rfl
  refine VV_ite (fun e1_6 => ?_) (fun n1_6 => ?_)
  · refine V_tabIn hX 1 91 6 e1_6 (by decide) rfl (by decide) (by decide) rfl (by decide) ?_
    refine V_aload_n hX (j := 0) (hj := rfl) 32 92 rfl rfl ?_
    refine V_iload_n hX (j := 2) (hj := rfl) 33 93 rfl rfl ?_
    refine V_iload_n hX (j := 3) (hj := rfl) 34 94 rfl rfl ?_
    refine V_callI hX 97 0 0 rfl rfl rfl (Nat.le_of_ble_eq_true rfl) (Nat.le_of_ble_eq_true rfl) (VR_V hX 35 (ct_Mo_smooths (cx_t hX) K v2 v3 M) my_Mo_smooths mi_Mo_smooths ms_Mo_smooths ml_Mo_174 (Nat.le_of_ble_eq_true rfl) (Nat.le_of_ble_eq_true rfl) (by decide) (ent_32 K _) rfl rfl rfl (Nat.le_of_ble_eq_true rfl) rfl (Nat.le_of_ble_eq_true rfl) (Nat.le_of_ble_eq_true rfl)) (fun r94 M94 => ?_)
    exact V_iret hX 36 rfl (Nat.le_of_ble_eq_true rfl) (Nat.le_of_ble_eq_true rfl) rfl
  refine VV_ite (fun e1_7 => ?_) (fun n1_7 => ?_)
  · refine V_tabIn hX 1 98 7 e1_7 (by decide) rfl (by decide) (by decide) rfl (by decide) ?_
    refine V_aload_n hX (j := 0) (hj := rfl) 37 99 rfl rfl ?_
    refine V_iload_n hX (j := 2) (hj := rfl) 38 100 rfl rfl ?_
    refine V_callI hX 103 0 0 rfl rfl rfl (Nat.le_of_ble_eq_true rfl) (Nat.le_of_ble_eq_true rfl) (VR_V hX 39 (ct_Mo_steps (cx_t hX) K v2 M) my_Mo_steps mi_Mo_steps ms_Mo_steps ml_Mo_180 (Nat.le_of_ble_eq_true rfl) (Nat.le_of_ble_eq_true rfl) (by decide) (ent_32 K _) rfl rfl rfl (Nat.le_of_ble_eq_true rfl) rfl (Nat.le_of_ble_eq_true rfl) (Nat.le_of_ble_eq_true rfl)) (fun r100 M100 => ?_)
    exact V_iret hX 40 rfl (Nat.le_of_ble_eq_true rfl) (Nat.le_of_ble_eq_true rfl) rfl
  refine V_tabOut hX 1 104 rfl (by have a0 := zz_ne (0) (by decide) n1_0; have a1 := zz_ne (1) (by decide) n1_1; have a2 := zz_ne (2) (by decide) n1_2; have a3 := zz_ne (3) (by decide) n1_3; have a4 := zz_ne (4) (by decide) n1_4; have a5 := zz_ne (5) (by decide) n1_5; have a6 := zz_ne (6) (by decide) n1_6; have a7 := zz_ne (7) (by decide) n1_7; omega) (by decide) ?_
  refine V_aload_n hX (j := 0) (hj := rfl) 41 105 rfl rfl ?_
  refine V_iload_n hX (j := 2) (hj := rfl) 42 106 rfl rfl ?_
  refine V_iload_n hX (j := 3) (hj := rfl) 43 107 rfl rfl ?_
  refine V_iload hX (j := 4) (hj := rfl) 44 109 rfl rfl ?_
  refine V_callI hX 112 0 0 rfl rfl rfl (Nat.le_of_ble_eq_true rfl) (Nat.le_of_ble_eq_true rfl) (VR_V hX 45 (ct_Mo_clips (cx_t hX) K v2 v3 v4 M) my_Mo_clips mi_Mo_clips ms_Mo_clips ml_Mo_186 (Nat.le_of_ble_eq_true rfl) (Nat.le_of_ble_eq_true rfl) (by decide) (ent_32 K _) rfl rfl rfl (Nat.le_of_ble_eq_true rfl) rfl (Nat.le_of_ble_eq_true rfl) (Nat.le_of_ble_eq_true rfl)) (fun r109 M109 => ?_)
  exact V_iret hX 46 rfl (Nat.le_of_ble_eq_true rfl) (Nat.le_of_ble_eq_true rfl) rfl
set_option maxRecDepth 20000 in
theorem bt_Mo_run_104 {l : Launch} {K : KT} {X : XT} (hX : Cx l K 7 3 0 0 X prog_15_method_132_code "SeriesArchiveModel" (some .int) [] L_Mo_run) (v2 : Int32) (M : Mm) : VV l K 7 3 0 0 rvI X (fn_Mo_run_104 v2 M) 0 0 M 104 [(0, .ref (kA K 32)), (2, .int v2)] [] := by
  unfold fn_Mo_run_104
  refine V_aload_n hX (j := 0) (hj := rfl) 62 105 rfl rfl ?_
  refine V_get hX 63 108 32 (.ref (kA K 34)) fl_Mo_13 rfl rfl (by decide) (ent_32 K _) rfl ?_
  refine V_iconst hX (v := 0) (hv := by decide) 64 109 rfl rfl ?_
  refine V_aload_n hX (j := 0) (hj := rfl) 65 110 rfl rfl ?_
  refine V_get hX 66 113 32 (.ref (kA K 33)) fl_Mo_7 rfl rfl (by decide) (ent_32 K _) rfl ?_
  refine V_iconst hX (v := 0) (hv := by decide) 67 114 rfl rfl ?_
  refine V_callU hX 117 0 0 rfl rfl rfl (Nat.le_of_ble_eq_true rfl) (Nat.le_of_ble_eq_true rfl) (VR_S hX 68 (ct_Mo_copyAll (cx_t hX) K 34 0 33 0 M) my_Mo_copyAll mt_Mo_copyAll ml_Mo_81 (Nat.le_of_ble_eq_true rfl) (Nat.le_of_ble_eq_true rfl) rfl rfl (Nat.le_of_ble_eq_true rfl) rfl (Nat.le_of_ble_eq_true rfl) (Nat.le_of_ble_eq_true rfl)) (fun r114 M114 => ?_)
  refine V_aload_n hX (j := 0) (hj := rfl) 69 118 rfl rfl ?_
  refine V_iload_n hX (j := 1) (hj := rfl) 70 119 rfl rfl ?_
  refine V_putI hX 71 122 32 fp_Mo_38 (by decide) rfl rfl (by decide) (ent_32 K _) (Nat.le_of_ble_eq_true rfl) (ent_32 K _) (fun M119 hM119 => ?_)
  refine V_aload_n hX (j := 0) (hj := rfl) 72 123 rfl rfl ?_
  refine V_iconst hX (v := 2) (hv := by decide) 73 124 rfl rfl ?_
  refine V_callI hX 127 0 0 rfl rfl rfl (Nat.le_of_ble_eq_true rfl) (Nat.le_of_ble_eq_true rfl) (VR_V hX 74 (ct_Mo_fail (cx_t hX) K 2 M119) my_Mo_fail mi_Mo_fail ms_Mo_fail ml_Mo_111 (Nat.le_of_ble_eq_true rfl) (Nat.le_of_ble_eq_true rfl) (by decide) (ent_32 K _) rfl rfl rfl (Nat.le_of_ble_eq_true rfl) rfl (Nat.le_of_ble_eq_true rfl) (Nat.le_of_ble_eq_true rfl)) (fun r124 M124 => ?_)
  exact V_iret hX 75 rfl (Nat.le_of_ble_eq_true rfl) (Nat.le_of_ble_eq_true rfl) rfl
set_option maxRecDepth 20000 in
theorem bt_Mo_run_134 {l : Launch} {K : KT} {X : XT} (hX : Cx l K 7 3 0 0 X prog_15_method_132_code "SeriesArchiveModel" (some .int) [] L_Mo_run) (M : Mm) : VV l K 7 3 0 0 rvI X (fn_Mo_run_134 M) 0 0 M 134 [(0, .ref (kA K 32))] [] := by
  unfold fn_Mo_run_134
  refine V_aload_n hX (j := 0) (hj := rfl) 78 135 rfl rfl ?_
  refine V_aload_n hX (j := 0) (hj := rfl) 79 136 rfl rfl ?_
  refine V_get hX 80 139 32 (.int (M 32 21)) fl_Mo_75 rfl rfl (by decide) (ent_32 K _) rfl ?_
  refine V_callI hX 142 0 0 rfl rfl rfl (Nat.le_of_ble_eq_true rfl) (Nat.le_of_ble_eq_true rfl) (VR_V hX 81 (ct_Mo_commit (cx_t hX) K (M 32 21) M) my_Mo_commit mi_Mo_commit ms_Mo_commit ml_Mo_117 (Nat.le_of_ble_eq_true rfl) (Nat.le_of_ble_eq_true rfl) (by decide) (ent_32 K _) rfl rfl rfl (Nat.le_of_ble_eq_true rfl) rfl (Nat.le_of_ble_eq_true rfl) (Nat.le_of_ble_eq_true rfl)) (fun r139 M139 => ?_)
  exact V_iret hX 82 rfl (Nat.le_of_ble_eq_true rfl) (Nat.le_of_ble_eq_true rfl) rfl
set_option maxRecDepth 20000 in
theorem bt_Mo_run_33 {l : Launch} {K : KT} {X : XT} (hX : Cx l K 7 3 0 0 X prog_15_method_132_code "SeriesArchiveModel" (some .int) [] L_Mo_run) : ∀ (n : Nat) (v2 : Int32) (M : Mm), VV l K 7 3 0 0 rvI X (fn_Mo_run_33 n v2 M) 0 0 M 33 [(0, .ref (kA K 32)), (2, .int v2)] [] := by
  intro n
  induction n with
  | zero => intro v2 M; exact VV_none
  | succ n ih =>
    intro v2 M
    rw [fn_Mo_run_33]
    refine V_iload_n hX (j := 1) (hj := rfl) 19 34 rfl rfl ?_
    refine V_aload_n hX (j := 0) (hj := rfl) 20 35 rfl rfl ?_
    refine V_get hX 21 38 32 (.int (M 32 21)) fl_Mo_75 rfl rfl (by decide) (ent_32 K _) rfl ?_
    refine V_icmp_ge hX 22 41 134 rfl rfl (by decide) (fun c38 => ?_) (fun c38 => ?_)
    · refine VV_sub [0] rfl ?_
      exact bt_Mo_run_134 hX M
    · refine V_aload_n hX (j := 0) (hj := rfl) 23 42 rfl rfl ?_
      refine V_aload_n hX (j := 0) (hj := rfl) 24 43 rfl rfl ?_
      refine V_get hX 25 46 32 (.ref (kA K 41)) fl_Mo_54 rfl rfl (by decide) (ent_32 K _) rfl ?_
      refine V_iload_n hX (j := 1) (hj := rfl) 26 47 rfl rfl ?_
      refine V_iald hX 27 48 41 32 (by decide) rfl rfl rfl (fun g47 => ?_)
      refine V_aload_n hX (j := 0) (hj := rfl) 28 49 rfl rfl ?_
      refine V_get hX 29 52 32 (.ref (kA K 42)) fl_Mo_57 rfl rfl (by decide) (ent_32 K _) rfl ?_
      refine V_iload_n hX (j := 1) (hj := rfl) 30 53 rfl rfl ?_
      refine V_iald hX 31 54 42 32 (by decide) rfl rfl rfl (fun g53 => ?_)
      refine V_aload_n hX (j := 0) (hj := rfl) 32 55 rfl rfl ?_
      refine V_get hX 33 58 32 (.ref (kA K 43)) fl_Mo_60 rfl rfl (by decide) (ent_32 K _) rfl ?_
      refine V_iload_n hX (j := 1) (hj := rfl) 34 59 rfl rfl ?_
      refine V_iald hX 35 60 43 32 (by decide) rfl rfl rfl (fun g59 => ?_)
      refine V_aload_n hX (j := 0) (hj := rfl) 36 61 rfl rfl ?_
      refine V_get hX 37 64 32 (.ref (kA K 44)) fl_Mo_63 rfl rfl (by decide) (ent_32 K _) rfl ?_
      refine V_iload_n hX (j := 1) (hj := rfl) 38 65 rfl rfl ?_
      refine V_iald hX 39 66 44 32 (by decide) rfl rfl rfl (fun g65 => ?_)
      refine V_callI hX 69 0 0 rfl rfl rfl (Nat.le_of_ble_eq_true rfl) (Nat.le_of_ble_eq_true rfl) (VR_V hX 40 (ct_Mo_why (cx_t hX) K (M 41 v2.toNatClampNeg) (M 42 v2.toNatClampNeg) (M 43 v2.toNatClampNeg) (M 44 v2.toNatClampNeg) M) my_Mo_why mi_Mo_why ms_Mo_why ml_Mo_319 (Nat.le_of_ble_eq_true rfl) (Nat.le_of_ble_eq_true rfl) (by decide) (ent_32 K _) rfl rfl rfl (Nat.le_of_ble_eq_true rfl) rfl (Nat.le_of_ble_eq_true rfl) (Nat.le_of_ble_eq_true rfl)) (fun r66 M66 => ?_)
      refine V_if_ne hX 41 72 104 rfl rfl (by decide) (fun c69 => ?_) (fun c69 => ?_)
      · exact bt_Mo_run_104 hX v2 M66
      · refine V_aload_n hX (j := 0) (hj := rfl) 42 73 rfl rfl ?_
        refine V_aload_n hX (j := 0) (hj := rfl) 43 74 rfl rfl ?_
        refine V_get hX 44 77 32 (.ref (kA K 41)) fl_Mo_54 rfl rfl (by decide) (ent_32 K _) rfl ?_
        refine V_iload_n hX (j := 1) (hj := rfl) 45 78 rfl rfl ?_
        refine V_iald hX 46 79 41 32 (by decide) rfl rfl rfl (fun g78 => ?_)
        refine V_aload_n hX (j := 0) (hj := rfl) 47 80 rfl rfl ?_
        refine V_get hX 48 83 32 (.ref (kA K 42)) fl_Mo_57 rfl rfl (by decide) (ent_32 K _) rfl ?_
        refine V_iload_n hX (j := 1) (hj := rfl) 49 84 rfl rfl ?_
        refine V_iald hX 50 85 42 32 (by decide) rfl rfl rfl (fun g84 => ?_)
        refine V_aload_n hX (j := 0) (hj := rfl) 51 86 rfl rfl ?_
        refine V_get hX 52 89 32 (.ref (kA K 43)) fl_Mo_60 rfl rfl (by decide) (ent_32 K _) rfl ?_
        refine V_iload_n hX (j := 1) (hj := rfl) 53 90 rfl rfl ?_
        refine V_iald hX 54 91 43 32 (by decide) rfl rfl rfl (fun g90 => ?_)
        refine V_aload_n hX (j := 0) (hj := rfl) 55 92 rfl rfl ?_
        refine V_get hX 56 95 32 (.ref (kA K 44)) fl_Mo_63 rfl rfl (by decide) (ent_32 K _) rfl ?_
        refine V_iload_n hX (j := 1) (hj := rfl) 57 96 rfl rfl ?_
        refine V_iald hX 58 97 44 32 (by decide) rfl rfl rfl (fun g96 => ?_)
        refine V_callI hX 100 0 0 rfl rfl rfl (Nat.le_of_ble_eq_true rfl) (Nat.le_of_ble_eq_true rfl) (VR_V hX 59 (ct_Mo_does (cx_t hX) K (M66 41 v2.toNatClampNeg) (M66 42 v2.toNatClampNeg) (M66 43 v2.toNatClampNeg) (M66 44 v2.toNatClampNeg) M66) my_Mo_does mi_Mo_does ms_Mo_does ml_Mo_322 (Nat.le_of_ble_eq_true rfl) (Nat.le_of_ble_eq_true rfl) (by decide) (ent_32 K _) rfl rfl rfl (Nat.le_of_ble_eq_true rfl) rfl (Nat.le_of_ble_eq_true rfl) (Nat.le_of_ble_eq_true rfl)) (fun r97 M97 => ?_)
        refine V_istore_n hX 60 101 [(1, .int r97), (0, .ref (kA K 32)), (2, .int v2)] rfl rfl (Nat.le_of_ble_eq_true rfl) rfl ?_
        refine V_goto hX 61 128 rfl (by decide) ?_
        refine V_iincL hX 76 131 2 rfl rfl rfl rfl (Nat.le_of_ble_eq_true rfl) (fun x2_128 hx2_128 => ?_)
        refine VV_lc [(2, .int x2_128), (1, .int r97), (0, .ref (kA K 32))] rfl ?_
        refine V_goto hX 77 33 rfl (by decide) ?_
        refine VV_sub [2, 0] rfl ?_
        exact ih x2_128 M97
set_option maxRecDepth 20000 in
theorem ct_Mo_run {l : Launch} (hl : l.stackTraces = false) (K : KT) (M : Mm) : CTp l K y_Mo_run (Cond.code y_Mo_run prog_15_method_132_code 3 (some .int)) rvI 7 0 0 [.ref (kA K 32)] M (fn_Mo_run M) := by
  refine CTp_of (L := L_Mo_run) (lc := [(0, .ref (kA K 32))]) (by decide +kernel) dec_Mo_run hl rfl (Nat.le_of_ble_eq_true rfl) (fun X hX => ?_)
  unfold fn_Mo_run
  refine V_aload_n hX (j := 0) (hj := rfl) 0 1 rfl rfl ?_
  refine V_callU hX 4 0 0 rfl rfl rfl (Nat.le_of_ble_eq_true rfl) (Nat.le_of_ble_eq_true rfl) (VR_V hX 1 (ct_Mo_begin (cx_t hX) K M) my_Mo_begin mi_Mo_begin ms_Mo_begin ml_Mo_104 (Nat.le_of_ble_eq_true rfl) (Nat.le_of_ble_eq_true rfl) (by decide) (ent_32 K _) rfl rfl rfl (Nat.le_of_ble_eq_true rfl) rfl (Nat.le_of_ble_eq_true rfl) (Nat.le_of_ble_eq_true rfl)) (fun r1 M1 => ?_)
  refine V_aload_n hX (j := 0) (hj := rfl) 2 5 rfl rfl ?_
  refine V_callU hX 8 0 0 rfl rfl rfl (Nat.le_of_ble_eq_true rfl) (Nat.le_of_ble_eq_true rfl) (VR_V hX 3 (ct_Mo_parse (cx_t hX) K M1) my_Mo_parse mi_Mo_parse ms_Mo_parse ml_Mo_316 (Nat.le_of_ble_eq_true rfl) (Nat.le_of_ble_eq_true rfl) (by decide) (ent_32 K _) rfl rfl rfl (Nat.le_of_ble_eq_true rfl) rfl (Nat.le_of_ble_eq_true rfl) (Nat.le_of_ble_eq_true rfl)) (fun r5 M5 => ?_)
  refine V_aload_n hX (j := 0) (hj := rfl) 4 9 rfl rfl ?_
  refine V_get hX 5 12 32 (.int (M5 32 22)) fl_Mo_78 rfl rfl (by decide) (ent_32 K _) rfl ?_
  refine V_if_eq hX 6 15 29 rfl rfl (by decide) (fun c12 => ?_) (fun c12 => ?_)
  · refine V_iconst hX (v := 0) (hv := by decide) 15 30 rfl rfl ?_
    refine V_istore_n hX 16 31 [(1, .int 0), (0, .ref (kA K 32))] rfl rfl (Nat.le_of_ble_eq_true rfl) rfl ?_
    refine V_iconst hX (v := 0) (hv := by decide) 17 32 rfl rfl ?_
    refine V_istore_n hX 18 33 [(2, .int 0), (1, .int 0), (0, .ref (kA K 32))] rfl rfl (Nat.le_of_ble_eq_true rfl) rfl ?_
    refine VV_sub [2, 0] rfl ?_
    exact bt_Mo_run_33 hX fuel0 0 M5
  · refine V_aload_n hX (j := 0) (hj := rfl) 7 16 rfl rfl ?_
    refine V_aload_n hX (j := 0) (hj := rfl) 8 17 rfl rfl ?_
    refine V_get hX 9 20 32 (.int (M5 32 20)) fl_Mo_72 rfl rfl (by decide) (ent_32 K _) rfl ?_
    refine V_putI hX 10 23 32 fp_Mo_35 (by decide) rfl rfl (by decide) (ent_32 K _) (Nat.le_of_ble_eq_true rfl) (ent_32 K _) (fun M20 hM20 => ?_)
    refine V_aload_n hX (j := 0) (hj := rfl) 11 24 rfl rfl ?_
    refine V_iconst hX (v := 1) (hv := by decide) 12 25 rfl rfl ?_
    refine V_callI hX 28 0 0 rfl rfl rfl (Nat.le_of_ble_eq_true rfl) (Nat.le_of_ble_eq_true rfl) (VR_V hX 13 (ct_Mo_fail (cx_t hX) K 1 M20) my_Mo_fail mi_Mo_fail ms_Mo_fail ml_Mo_111 (Nat.le_of_ble_eq_true rfl) (Nat.le_of_ble_eq_true rfl) (by decide) (ent_32 K _) rfl rfl rfl (Nat.le_of_ble_eq_true rfl) rfl (Nat.le_of_ble_eq_true rfl) (Nat.le_of_ble_eq_true rfl)) (fun r25 M25 => ?_)
    exact V_iret hX 14 rfl (Nat.le_of_ble_eq_true rfl) (Nat.le_of_ble_eq_true rfl) rfl
set_option maxRecDepth 20000 in
theorem bt_Mo_present_10 {l : Launch} {K : KT} {X : XT} (hX : Cx l K 2 2 0 0 X prog_15_method_133_code "SeriesArchiveModel" (some .int) [] L_Mo_present) (v1 : Int32) (s1 : Int32) (M : Mm) : VV l K 2 2 0 0 rvI X (fn_Mo_present_10 v1 s1 M) 0 0 M 10 [(1, .int v1)] [.int s1, .ref (kA K 32)] := by
  unfold fn_Mo_present_10
  refine V_callI hX 13 0 0 rfl rfl rfl (Nat.le_of_ble_eq_true rfl) (Nat.le_of_ble_eq_true rfl) (VR_V hX 6 (ct_Mo_checked (cx_t hX) K s1 M) my_Mo_checked mi_Mo_checked ms_Mo_checked ml_Mo_189 (Nat.le_of_ble_eq_true rfl) (Nat.le_of_ble_eq_true rfl) (by decide) (ent_32 K _) rfl rfl rfl (Nat.le_of_ble_eq_true rfl) rfl (Nat.le_of_ble_eq_true rfl) (Nat.le_of_ble_eq_true rfl)) (fun r10 M10 => ?_)
  refine V_if_le hX 7 16 20 rfl rfl (by decide) (fun c13 => ?_) (fun c13 => ?_)
  · refine V_iload_n hX (j := 0) (hj := rfl) 10 21 rfl rfl ?_
    exact V_iret hX 11 rfl (Nat.le_of_ble_eq_true rfl) (Nat.le_of_ble_eq_true rfl) rfl
  · refine V_iconst hX (v := 0) (hv := by decide) 8 17 rfl rfl ?_
    refine V_goto hX 9 21 rfl (by decide) ?_
    exact V_iret hX 11 rfl (Nat.le_of_ble_eq_true rfl) (Nat.le_of_ble_eq_true rfl) rfl
set_option maxRecDepth 20000 in
theorem ct_Mo_present {l : Launch} (hl : l.stackTraces = false) (K : KT) (v1 : Int32) (M : Mm) : CTp l K y_Mo_present (Cond.code y_Mo_present prog_15_method_133_code 2 (some .int)) rvI 2 0 0 [.ref (kA K 32), .int v1] M (fn_Mo_present v1 M) := by
  refine CTp_of (L := L_Mo_present) (lc := [(0, .ref (kA K 32)), (1, .int v1)]) (by decide +kernel) dec_Mo_present hl rfl (Nat.le_of_ble_eq_true rfl) (fun X hX => ?_)
  unfold fn_Mo_present
  refine V_aload_n hX (j := 0) (hj := rfl) 0 1 rfl rfl ?_
  refine V_iload_n hX (j := 1) (hj := rfl) 1 2 rfl rfl ?_
  refine V_if_lt hX 2 5 9 rfl rfl (by decide) (fun c2 => ?_) (fun c2 => ?_)
  · refine V_iconst hX (v := 0) (hv := by decide) 5 10 rfl rfl ?_
    refine VV_sub [1] rfl ?_
    exact bt_Mo_present_10 hX v1 0 M
  · refine V_iconst hX (v := 1) (hv := by decide) 3 6 rfl rfl ?_
    refine V_goto hX 4 10 rfl (by decide) ?_
    refine VV_sub [1] rfl ?_
    exact bt_Mo_present_10 hX v1 1 M
set_option maxRecDepth 20000 in
theorem ct_Mo_errorPosition {l : Launch} (hl : l.stackTraces = false) (K : KT) (M : Mm) : CTp l K y_Mo_errorPosition (Cond.code y_Mo_errorPosition prog_15_method_134_code 1 (some .int)) rvI 3 0 0 [.ref (kA K 32)] M (fn_Mo_errorPosition M) := by
  refine CTp_of (L := L_Mo_errorPosition) (lc := [(0, .ref (kA K 32))]) (by decide +kernel) dec_Mo_errorPosition hl rfl (Nat.le_of_ble_eq_true rfl) (fun X hX => ?_)
  unfold fn_Mo_errorPosition
  refine V_aload_n hX (j := 0) (hj := rfl) 0 1 rfl rfl ?_
  refine V_aload_n hX (j := 0) (hj := rfl) 1 2 rfl rfl ?_
  refine V_get hX 2 5 32 (.int (M 32 8)) fl_Mo_35 rfl rfl (by decide) (ent_32 K _) rfl ?_
  refine V_callI hX 8 0 0 rfl rfl rfl (Nat.le_of_ble_eq_true rfl) (Nat.le_of_ble_eq_true rfl) (VR_V hX 3 (ct_Mo_present (cx_t hX) K (M 32 8) M) my_Mo_present mi_Mo_present ms_Mo_present ml_Mo_325 (Nat.le_of_ble_eq_true rfl) (Nat.le_of_ble_eq_true rfl) (by decide) (ent_32 K _) rfl rfl rfl (Nat.le_of_ble_eq_true rfl) rfl (Nat.le_of_ble_eq_true rfl) (Nat.le_of_ble_eq_true rfl)) (fun r5 M5 => ?_)
  exact V_iret hX 4 rfl (Nat.le_of_ble_eq_true rfl) (Nat.le_of_ble_eq_true rfl) rfl
set_option maxRecDepth 20000 in
theorem ct_Mo_failedCommand {l : Launch} (hl : l.stackTraces = false) (K : KT) (M : Mm) : CTp l K y_Mo_failedCommand (Cond.code y_Mo_failedCommand prog_15_method_135_code 1 (some .int)) rvI 3 0 0 [.ref (kA K 32)] M (fn_Mo_failedCommand M) := by
  refine CTp_of (L := L_Mo_failedCommand) (lc := [(0, .ref (kA K 32))]) (by decide +kernel) dec_Mo_failedCommand hl rfl (Nat.le_of_ble_eq_true rfl) (fun X hX => ?_)
  unfold fn_Mo_failedCommand
  refine V_aload_n hX (j := 0) (hj := rfl) 0 1 rfl rfl ?_
  refine V_aload_n hX (j := 0) (hj := rfl) 1 2 rfl rfl ?_
  refine V_get hX 2 5 32 (.int (M 32 9)) fl_Mo_38 rfl rfl (by decide) (ent_32 K _) rfl ?_
  refine V_callI hX 8 0 0 rfl rfl rfl (Nat.le_of_ble_eq_true rfl) (Nat.le_of_ble_eq_true rfl) (VR_V hX 3 (ct_Mo_present (cx_t hX) K (M 32 9) M) my_Mo_present mi_Mo_present ms_Mo_present ml_Mo_325 (Nat.le_of_ble_eq_true rfl) (Nat.le_of_ble_eq_true rfl) (by decide) (ent_32 K _) rfl rfl rfl (Nat.le_of_ble_eq_true rfl) rfl (Nat.le_of_ble_eq_true rfl) (Nat.le_of_ble_eq_true rfl)) (fun r5 M5 => ?_)
  exact V_iret hX 4 rfl (Nat.le_of_ble_eq_true rfl) (Nat.le_of_ble_eq_true rfl) rfl
set_option maxRecDepth 20000 in
theorem ct_Mo_undoableCount {l : Launch} (hl : l.stackTraces = false) (K : KT) (M : Mm) : CTp l K y_Mo_undoableCount (Cond.code y_Mo_undoableCount prog_15_method_136_code 1 (some .int)) rvI 2 0 0 [.ref (kA K 32)] M (fn_Mo_undoableCount M) := by
  refine CTp_of (L := L_Mo_undoableCount) (lc := [(0, .ref (kA K 32))]) (by decide +kernel) dec_Mo_undoableCount hl rfl (Nat.le_of_ble_eq_true rfl) (fun X hX => ?_)
  unfold fn_Mo_undoableCount
  refine V_aload_n hX (j := 0) (hj := rfl) 0 1 rfl rfl ?_
  refine V_aload_n hX (j := 0) (hj := rfl) 1 2 rfl rfl ?_
  refine V_get hX 2 5 32 (.int (M 32 7)) fl_Mo_32 rfl rfl (by decide) (ent_32 K _) rfl ?_
  refine V_callI hX 8 0 0 rfl rfl rfl (Nat.le_of_ble_eq_true rfl) (Nat.le_of_ble_eq_true rfl) (VR_V hX 3 (ct_Mo_plain (cx_t hX) K (M 32 7) M) my_Mo_plain mi_Mo_plain ms_Mo_plain ml_Mo_276 (Nat.le_of_ble_eq_true rfl) (Nat.le_of_ble_eq_true rfl) (by decide) (ent_32 K _) rfl rfl rfl (Nat.le_of_ble_eq_true rfl) rfl (Nat.le_of_ble_eq_true rfl) (Nat.le_of_ble_eq_true rfl)) (fun r5 M5 => ?_)
  exact V_iret hX 4 rfl (Nat.le_of_ble_eq_true rfl) (Nat.le_of_ble_eq_true rfl) rfl
set_option maxRecDepth 20000 in
theorem bt_Mo_undo_13 {l : Launch} {K : KT} {X : XT} (hX : Cx l K 2 1 0 0 X prog_15_method_137_code "SeriesArchiveModel" (some .int) [] L_Mo_undo) (s1 : Int32) (M : Mm) : VV l K 2 1 0 0 rvI X (fn_Mo_undo_13 s1 M) 0 0 M 13 [(0, .ref (kA K 32))] [.int s1, .ref (kA K 32)] := by
  unfold fn_Mo_undo_13
  refine V_callI hX 16 0 0 rfl rfl rfl (Nat.le_of_ble_eq_true rfl) (Nat.le_of_ble_eq_true rfl) (VR_V hX 7 (ct_Mo_checked (cx_t hX) K s1 M) my_Mo_checked mi_Mo_checked ms_Mo_checked ml_Mo_189 (Nat.le_of_ble_eq_true rfl) (Nat.le_of_ble_eq_true rfl) (by decide) (ent_32 K _) rfl rfl rfl (Nat.le_of_ble_eq_true rfl) rfl (Nat.le_of_ble_eq_true rfl) (Nat.le_of_ble_eq_true rfl)) (fun r13 M13 => ?_)
  refine V_if_le hX 8 19 21 rfl rfl (by decide) (fun c16 => ?_) (fun c16 => ?_)
  · refine V_aload_n hX (j := 0) (hj := rfl) 11 22 rfl rfl ?_
    refine V_dup hX (hc := rfl) 12 23 rfl rfl ?_
    refine V_get hX 13 26 32 (.int (M13 32 7)) fl_Mo_32 rfl rfl (by decide) (ent_32 K _) rfl ?_
    refine V_iconst hX (v := 1) (hv := by decide) 14 27 rfl rfl ?_
    refine V_isub hX 15 28 rfl rfl ?_
    refine V_putI hX 16 31 32 fp_Mo_32 (by decide) rfl rfl (by decide) (ent_32 K _) (Nat.le_of_ble_eq_true rfl) (ent_32 K _) (fun M28 hM28 => ?_)
    refine V_aload_n hX (j := 0) (hj := rfl) 17 32 rfl rfl ?_
    refine V_get hX 18 35 32 (.ref (kA K 36)) fl_Mo_19 rfl rfl (by decide) (ent_32 K _) rfl ?_
    refine V_bipush hX (v := 85) (hv := by decide) 19 37 rfl rfl ?_
    refine V_aload_n hX (j := 0) (hj := rfl) 20 38 rfl rfl ?_
    refine V_get hX 21 41 32 (.int (M28 32 7)) fl_Mo_32 rfl rfl (by decide) (ent_32 K _) rfl ?_
    refine V_imul hX 22 42 rfl rfl ?_
    refine V_aload_n hX (j := 0) (hj := rfl) 23 43 rfl rfl ?_
    refine V_get hX 24 46 32 (.ref (kA K 33)) fl_Mo_7 rfl rfl (by decide) (ent_32 K _) rfl ?_
    refine V_iconst hX (v := 0) (hv := by decide) 25 47 rfl rfl ?_
    refine V_callU hX 50 0 0 rfl rfl rfl (Nat.le_of_ble_eq_true rfl) (Nat.le_of_ble_eq_true rfl) (VR_S hX 26 (ct_Mo_copyAll (cx_t hX) K 36 (85 * (M28 32 7)) 33 0 M28) my_Mo_copyAll mt_Mo_copyAll ml_Mo_81 (Nat.le_of_ble_eq_true rfl) (Nat.le_of_ble_eq_true rfl) rfl rfl (Nat.le_of_ble_eq_true rfl) rfl (Nat.le_of_ble_eq_true rfl) (Nat.le_of_ble_eq_true rfl)) (fun r47 M47 => ?_)
    refine V_aload_n hX (j := 0) (hj := rfl) 27 51 rfl rfl ?_
    refine V_get hX 28 54 32 (.int (M47 32 7)) fl_Mo_32 rfl rfl (by decide) (ent_32 K _) rfl ?_
    exact V_iret hX 29 rfl (Nat.le_of_ble_eq_true rfl) (Nat.le_of_ble_eq_true rfl) rfl
  · refine V_iconst hX (v := 0) (hv := by decide) 9 20 rfl rfl ?_
    exact V_iret hX 10 rfl (Nat.le_of_ble_eq_true rfl) (Nat.le_of_ble_eq_true rfl) rfl
set_option maxRecDepth 20000 in
theorem ct_Mo_undo {l : Launch} (hl : l.stackTraces = false) (K : KT) (M : Mm) : CTp l K y_Mo_undo (Cond.code y_Mo_undo prog_15_method_137_code 1 (some .int)) rvI 2 0 0 [.ref (kA K 32)] M (fn_Mo_undo M) := by
  refine CTp_of (L := L_Mo_undo) (lc := [(0, .ref (kA K 32))]) (by decide +kernel) dec_Mo_undo hl rfl (Nat.le_of_ble_eq_true rfl) (fun X hX => ?_)
  unfold fn_Mo_undo
  refine V_aload_n hX (j := 0) (hj := rfl) 0 1 rfl rfl ?_
  refine V_aload_n hX (j := 0) (hj := rfl) 1 2 rfl rfl ?_
  refine V_get hX 2 5 32 (.int (M 32 7)) fl_Mo_32 rfl rfl (by decide) (ent_32 K _) rfl ?_
  refine V_if_le hX 3 8 12 rfl rfl (by decide) (fun c5 => ?_) (fun c5 => ?_)
  · refine V_iconst hX (v := 0) (hv := by decide) 6 13 rfl rfl ?_
    exact bt_Mo_undo_13 hX 0 M
  · refine V_iconst hX (v := 1) (hv := by decide) 4 9 rfl rfl ?_
    refine V_goto hX 5 13 rfl (by decide) ?_
    exact bt_Mo_undo_13 hX 1 M
set_option maxRecDepth 20000 in
theorem ct_Mo_save {l : Launch} (hl : l.stackTraces = false) (K : KT) (M : Mm) : CTp l K y_Mo_save (Cond.code y_Mo_save prog_15_method_138_code 1 (some .int)) rvI 3 0 0 [.ref (kA K 32)] M (fn_Mo_save M) := by
  refine CTp_of (L := L_Mo_save) (lc := [(0, .ref (kA K 32))]) (by decide +kernel) dec_Mo_save hl rfl (Nat.le_of_ble_eq_true rfl) (fun X hX => ?_)
  unfold fn_Mo_save
  refine V_aload_n hX (j := 0) (hj := rfl) 0 1 rfl rfl ?_
  refine V_iconst hX (v := 0) (hv := by decide) 1 2 rfl rfl ?_
  refine V_putI hX 2 5 32 fp_Mo_28 (by decide) rfl rfl (by decide) (ent_32 K _) (Nat.le_of_ble_eq_true rfl) (ent_32 K _) (fun M2 hM2 => ?_)
  refine V_aload_n hX (j := 0) (hj := rfl) 3 6 rfl rfl ?_
  refine V_get hX 4 9 32 (.ref (kA K 33)) fl_Mo_7 rfl rfl (by decide) (ent_32 K _) rfl ?_
  refine V_iconst hX (v := 0) (hv := by decide) 5 10 rfl rfl ?_
  refine V_aload_n hX (j := 0) (hj := rfl) 6 11 rfl rfl ?_
  refine V_get hX 7 14 32 (.ref (kA K 35)) fl_Mo_16 rfl rfl (by decide) (ent_32 K _) rfl ?_
  refine V_iconst hX (v := 0) (hv := by decide) 8 15 rfl rfl ?_
  refine V_callU hX 18 0 0 rfl rfl rfl (Nat.le_of_ble_eq_true rfl) (Nat.le_of_ble_eq_true rfl) (VR_S hX 9 (ct_Mo_copyAll (cx_t hX) K 33 0 35 0 M2) my_Mo_copyAll mt_Mo_copyAll ml_Mo_81 (Nat.le_of_ble_eq_true rfl) (Nat.le_of_ble_eq_true rfl) rfl rfl (Nat.le_of_ble_eq_true rfl) rfl (Nat.le_of_ble_eq_true rfl) (Nat.le_of_ble_eq_true rfl)) (fun r15 M15 => ?_)
  refine V_aload_n hX (j := 0) (hj := rfl) 10 19 rfl rfl ?_
  refine V_iconst hX (v := 1) (hv := by decide) 11 20 rfl rfl ?_
  refine V_putZ hX 12 23 32 fp_Mo_41 (by decide) (by decide) rfl rfl (by decide) (ent_32 K _) (Nat.le_of_ble_eq_true rfl) (ent_32 K _) (fun M20 hM20 => ?_)
  refine V_aload_n hX (j := 0) (hj := rfl) 13 24 rfl rfl ?_
  refine V_callI hX 27 0 0 rfl rfl rfl (Nat.le_of_ble_eq_true rfl) (Nat.le_of_ble_eq_true rfl) (VR_V hX 14 (ct_Mo_all (cx_t hX) K M20) my_Mo_all mi_Mo_all ms_Mo_all ml_Mo_272 (Nat.le_of_ble_eq_true rfl) (Nat.le_of_ble_eq_true rfl) (by decide) (ent_32 K _) rfl rfl rfl (Nat.le_of_ble_eq_true rfl) rfl (Nat.le_of_ble_eq_true rfl) (Nat.le_of_ble_eq_true rfl)) (fun r24 M24 => ?_)
  exact V_iret hX 15 rfl (Nat.le_of_ble_eq_true rfl) (Nat.le_of_ble_eq_true rfl) rfl
set_option maxRecDepth 20000 in
theorem ct_Mo_restore {l : Launch} (hl : l.stackTraces = false) (K : KT) (M : Mm) : CTp l K y_Mo_restore (Cond.code y_Mo_restore prog_15_method_139_code 1 (some .int)) rvI 3 0 0 [.ref (kA K 32)] M (fn_Mo_restore M) := by
  refine CTp_of (L := L_Mo_restore) (lc := [(0, .ref (kA K 32))]) (by decide +kernel) dec_Mo_restore hl rfl (Nat.le_of_ble_eq_true rfl) (fun X hX => ?_)
  unfold fn_Mo_restore
  refine V_aload_n hX (j := 0) (hj := rfl) 0 1 rfl rfl ?_
  refine V_aload_n hX (j := 0) (hj := rfl) 1 2 rfl rfl ?_
  refine V_get hX 2 5 32 (.int (M 32 10)) fl_Mo_41 rfl rfl (by decide) (ent_32 K _) rfl ?_
  refine V_callI hX 8 0 0 rfl rfl rfl (Nat.le_of_ble_eq_true rfl) (Nat.le_of_ble_eq_true rfl) (VR_V hX 3 (ct_Mo_checked (cx_t hX) K (M 32 10) M) my_Mo_checked mi_Mo_checked ms_Mo_checked ml_Mo_189 (Nat.le_of_ble_eq_true rfl) (Nat.le_of_ble_eq_true rfl) (by decide) (ent_32 K _) rfl rfl rfl (Nat.le_of_ble_eq_true rfl) rfl (Nat.le_of_ble_eq_true rfl) (Nat.le_of_ble_eq_true rfl)) (fun r5 M5 => ?_)
  refine V_if_le hX 4 11 13 rfl rfl (by decide) (fun c8 => ?_) (fun c8 => ?_)
  · refine V_aload_n hX (j := 0) (hj := rfl) 7 14 rfl rfl ?_
    refine V_get hX 8 17 32 (.ref (kA K 35)) fl_Mo_16 rfl rfl (by decide) (ent_32 K _) rfl ?_
    refine V_iconst hX (v := 0) (hv := by decide) 9 18 rfl rfl ?_
    refine V_aload_n hX (j := 0) (hj := rfl) 10 19 rfl rfl ?_
    refine V_get hX 11 22 32 (.ref (kA K 33)) fl_Mo_7 rfl rfl (by decide) (ent_32 K _) rfl ?_
    refine V_iconst hX (v := 0) (hv := by decide) 12 23 rfl rfl ?_
    refine V_callU hX 26 0 0 rfl rfl rfl (Nat.le_of_ble_eq_true rfl) (Nat.le_of_ble_eq_true rfl) (VR_S hX 13 (ct_Mo_copyAll (cx_t hX) K 35 0 33 0 M5) my_Mo_copyAll mt_Mo_copyAll ml_Mo_81 (Nat.le_of_ble_eq_true rfl) (Nat.le_of_ble_eq_true rfl) rfl rfl (Nat.le_of_ble_eq_true rfl) rfl (Nat.le_of_ble_eq_true rfl) (Nat.le_of_ble_eq_true rfl)) (fun r23 M23 => ?_)
    refine V_aload_n hX (j := 0) (hj := rfl) 14 27 rfl rfl ?_
    refine V_iconst hX (v := 0) (hv := by decide) 15 28 rfl rfl ?_
    refine V_putI hX 16 31 32 fp_Mo_32 (by decide) rfl rfl (by decide) (ent_32 K _) (Nat.le_of_ble_eq_true rfl) (ent_32 K _) (fun M28 hM28 => ?_)
    refine V_aload_n hX (j := 0) (hj := rfl) 17 32 rfl rfl ?_
    refine V_callI hX 35 0 0 rfl rfl rfl (Nat.le_of_ble_eq_true rfl) (Nat.le_of_ble_eq_true rfl) (VR_V hX 18 (ct_Mo_all (cx_t hX) K M28) my_Mo_all mi_Mo_all ms_Mo_all ml_Mo_272 (Nat.le_of_ble_eq_true rfl) (Nat.le_of_ble_eq_true rfl) (by decide) (ent_32 K _) rfl rfl rfl (Nat.le_of_ble_eq_true rfl) rfl (Nat.le_of_ble_eq_true rfl) (Nat.le_of_ble_eq_true rfl)) (fun r32 M32 => ?_)
    exact V_iret hX 19 rfl (Nat.le_of_ble_eq_true rfl) (Nat.le_of_ble_eq_true rfl) rfl
  · refine V_iconst hX (v := 0) (hv := by decide) 5 12 rfl rfl ?_
    exact V_iret hX 6 rfl (Nat.le_of_ble_eq_true rfl) (Nat.le_of_ble_eq_true rfl) rfl
