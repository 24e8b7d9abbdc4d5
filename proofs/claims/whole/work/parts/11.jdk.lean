section JDK0
variable {α β : Type} {l : Launch} {K : KT} {d nL mc ms : Nat} {rv : α → Option Value} {X : XT} {cc : ByteArray} {own : String} {ret : Option FieldType} {hh : List (Nat × Nat × Nat × Nat)} {L : zz_L}
variable {x : Rs α} {cells slots : Nat} {M : Mm} {pc : Nat} {lc : List (Nat × Value)} {st rest : List Value}
theorem VV_G (h : ∀ o M', x = some (o, M') → VG l K d nL mc ms (vx_MQ X.2.2.2.2.2.1 (Qcc K rv o M') (Xcc K o M') X.2.2.2.2.1 X.2.2.1 mc ms (kF K)) X cells slots (InvH K M) pc lc st) : VV l K d nL mc ms rv X x cells slots M pc lc st := fun o M' ho H locs ls hI hS hl => h o M' ho H locs ls hI hS hl
theorem G_VV {o : α ⊕ Nat} {M' : Mm} (h : VV l K d nL mc ms rv X x cells slots M pc lc st) (ho : x = some (o, M')) : VG l K d nL mc ms (vx_MQ X.2.2.2.2.2.1 (Qcc K rv o M') (Xcc K o M') X.2.2.2.2.1 X.2.2.1 mc ms (kF K)) X cells slots (InvH K M) pc lc st := fun H locs ls hI hS hl => h o M' ho H locs ls hI hS hl
theorem V_ord (hX : Cx l K d nL mc ms X cc own ret hh L) {index i : Nat} (k q : Nat) (hi : i < 9) (hl9 : Cond.methodLink own index ⟨"SeriesArchive$Kind", "ordinal", "()I"⟩ ∈ zz_good) (hd : 2 ≤ d) (hst : (st.map fun v => v.category).sum ≤ 8) (h1 : cells ≤ mc) (h2 : slots ≤ ms) (hk : L[k]? = some (pc, .invokevirtual index, 3)) (hq : pc + 3 = q) (kk : VV l K d nL mc ms rv X x cells slots M q lc (.int (nI i) :: st)) : VV l K d nL mc ms rv X x cells slots M pc lc (.ref (kA K (1000 + i)) :: st) := by
  subst hq
  refine VV_G (fun o M' ho => ?_)
  refine G_callU (x := ⟨"SeriesArchive$Kind", "ordinal", "()I"⟩) (mc' := 0) (ms' := 0) (As := []) hX.g k (k_recv hX.g hi) (cj_E_ordinal (cx_t hX) K hi (InvH K M)) my_E_ordinal mi_E_ordinal se_Kord sm_Kord rfl hl9 (by omega) (by decide) rfl rfl hst hk h1 h2 (fun v => VG_and (fun e => ?_))
  subst e
  exact G_VV kk ho
theorem V_slen (hX : Cx l K d nL mc ms X cc own ret hh L) {index i : Nat} (k q : Nat) (hi : i < 9) (hl9 : Cond.methodLink own index ⟨"java/lang/String", "length", "()I"⟩ ∈ zz_good) (hd : 7 ≤ d) (hst : (st.map fun v => v.category).sum ≤ 8) (h1 : cells ≤ mc) (h2 : slots ≤ ms) (hk : L[k]? = some (pc, .invokevirtual index, 3)) (hq : pc + 3 = q) (kk : VV l K d nL mc ms rv X x cells slots M q lc (.int (zz_slen i) :: st)) : VV l K d nL mc ms rv X x cells slots M pc lc (.ref (kA K (1200 + i)) :: st) := by
  subst hq
  refine VV_G (fun o M' ho => ?_)
  refine G_callVG (mc' := 0) (ms' := 0) (As := []) hX.g k (s_recv hX.g hi) (cj_S_length (cx_t hX) K hi (InvH K M)) my_S_length mi_S_length ms_S_length hl9 (by omega) (by decide) rfl rfl hst hk h1 h2 (fun v => VG_and (fun e => ?_))
  subst e
  exact G_VV kk ho
theorem V_scha (hX : Cx l K d nL mc ms X cc own ret hh L) {index i : Nat} {j : Int32} {t : Rs α} {dg : Decidable (inb j (zz_shl.getD i 0))} (k q : Nat) (hi : i < 9) (hl9 : Cond.methodLink own index ⟨"java/lang/String", "charAt", "(I)C"⟩ ∈ zz_good) (hd : 7 ≤ d) (hst : (st.map fun v => v.category).sum ≤ 8) (h1 : cells ≤ mc) (h2 : slots ≤ ms) (hk : L[k]? = some (pc, .invokevirtual index, 3)) (hq : pc + 3 = q) (kk : inb j (zz_shl.getD i 0) → VV l K d nL mc ms rv X t cells slots M q lc (.int (zz_sch i j.toNatClampNeg) :: st)) : VV l K d nL mc ms rv X (@grd _ (inb j (zz_shl.getD i 0)) dg t) cells slots M pc lc (.int j :: .ref (kA K (1200 + i)) :: st) := by
  subst hq
  refine VV_G (fun o M' ho => ?_)
  by_cases g : inb j (zz_shl.getD i 0)
  · rw [show @grd _ (inb j (zz_shl.getD i 0)) dg t = t from if_pos g] at ho
    have g9 := g
    obtain ⟨u, hu, rfl⟩ := nI_of (fun h => g9 (Or.inl h))
    have hx : u < zz_shl.getD i 0 := Nat.not_le.mp fun h => g9 (Or.inr (by rw [nI_clamp hu]; exact h))
    have kk9 := kk g
    rw [nI_clamp hu] at kk9
    refine G_callVG (mc' := 0) (ms' := 0) (As := [.int (nI u)]) hX.g k (s_recv hX.g hi) (cj_S_charAt (cx_t hX) K hi hx (InvH K M)) my_S_charAt mi_S_charAt ms_S_charAt hl9 (by omega) (by decide) rfl rfl hst hk h1 h2 (fun v => VG_and (fun e => ?_))
    subst e
    exact G_VV kk9 ho
  · rw [show @grd _ (inb j (zz_shl.getD i 0)) dg t = none from if_neg g] at ho
    cases ho
theorem VR_B (hX : Cx l K d nL mc ms X cc own ret hh L) {f : Rs β} {rv' : β → Option Value} {y : MethodName} {bytes : ByteArray} {maxL n index d' mc' ms' : Nat} {ret' : Option FieldType} {As st0 : List Value} (k : Nat) (hc : CTp l K y (Cond.code y bytes maxL ret') rv' d' mc' ms' (.ref (kA K 19) :: As) M f) (hy : MY y bytes maxL ret' n) (hi : Cond.instanceMethod y ∈ zz_good) (hse : Cond.selects "java/lang/StringBuilder" y y ∈ zz_good) (hl : Cond.methodLink own index y ∈ zz_good) (hd : d' + 1 ≤ d) (hm : maxL ≤ 41) (hn : As.length = n) (hst : st0 = As.reverse ++ .ref (kA K 19) :: rest) (hW : (rest.map fun v => v.category).sum ≤ 8) (hk : L[k]? = some (pc, .invokevirtual index, 3)) (h1 : cells + mc' ≤ mc) (h2 : slots + ms' ≤ ms) : VR l K d nL mc ms X f rv' mc' ms' cells slots M pc lc st0 rest := by
  intro o1 M1 hf H locs ls hI hS hls
  obtain ⟨sb, hsb, hP, hD⟩ := id hI
  have hrecv : ∃ cell : Cell, H[kA K 19]? = some cell ∧ cell.vm.isStatics = false ∧ X.2.2.1.vm.findClass "java/lang/StringBuilder" = some cell.cls := by
    obtain ⟨q, m, n9, z, t, a, rfl, -⟩ := hsb
    have he : (wsx K M [(kA K 19, .inr (10, [.ref q, .int 0, .int z, .int (nI n9)])), (q, .inl (kC K 4, m, .inl a))])[45]? = some (kA K 19, .inr (10, [.ref q, .int 0, .int z, .int (nI n9)])) := rfl
    exact va_recv (cx_K hX) hP (ci := 10) rfl he
  exact ⟨_, vx_runV (Ts := zz_good) (own := own) ⟨cx_x hX, cx_b hX, cx_ml hX, cx_own hX, cx_w hX⟩ (hc o1 M1 hf) ⟨zz_CB hX hy hl hd hm, cx_w hX _ hi, cx_w hX _ hse⟩
    ⟨zz_blind, hrecv, zz_pc hX hI hS⟩ rfl hn hls.1 hst (lv_room hW) (zz_at (cx_d hX) k hk) ⟨h1, h2⟩⟩
/-- the line as a text: its length at 0, its letters from 1 on -/
def sbpush (M : Mm) (c : Int32) : Mm := mrow M 19 (upd (upd (M 19) (1 + (M 19 0).toNatClampNeg) c) 0 (nI ((M 19 0).toNatClampNeg + 1)))
def sbapp (M : Mm) (t : List Int32) : Mm := t.foldl sbpush M
def digs (v : Int32) : List Int32 := (if v < 0 then [45] else []) ++ (if 10 ≤ iabs v then [48 + iabs v / 10, 48 + (iabs v - iabs v / 10 * 10)] else [48 + iabs v])
def fn_SB_length (M : Mm) : Rs Int32 := some (.inl (M 19 0), M)
def fn_SB_setLength (v1 : Int32) (M : Mm) : Rs Unit := grd (v1 = 0) (some (.inl (), mset M 19 0 0))
def fn_SB_charAt (v1 : Int32) (M : Mm) : Rs Int32 := grd (inb v1 (M 19 0).toNatClampNeg) (some (.inl (M 19 (1 + v1.toNatClampNeg)), M))
def fn_SB_appendC (v1 : Int32) (M : Mm) : Rs Unit := grd (0 ≤ v1 ∧ v1 < 128) (grd ((M 19 0).toNatClampNeg + 1 ≤ 142) (some (.inl (), sbpush M v1)))
def fn_SB_appendI (v1 : Int32) (M : Mm) : Rs Unit := grd (-100 < v1 ∧ v1 < 100) (grd ((M 19 0).toNatClampNeg + 3 ≤ 142) (some (.inl (), sbapp M (digs v1))))
theorem sb_cut {f : Nat → Int32} {n : Nat} {t : Nat → Nat} {m : Nat} (h0 : f 0 = nI n) (hnm : n ≤ m) (hm : m ≤ 142) : (f 0).toNatClampNeg = n := by rw [h0, nI_clamp (by omega)]
theorem dg_dig : ∀ w, w < 100 → digs (nI w) = (dgN false w).map nI ∧ (0 < w → digs (-nI w) = (dgN true w).map nI) := by decide +kernel
theorem dg_rng : ∀ w, w < 100 → ∀ g, ∀ x ∈ dgN g w, x < 128 := by decide +kernel
theorem wsx_push (K : KT) (M : Mm) (c : Int32) (sb : va_W) : wsx K (sbpush M c) sb = wsx K M sb := wsx_19 K M _ sb
theorem wsx_pushs (K : KT) (sb : va_W) : ∀ (ts : List Int32) (M : Mm), wsx K (sbapp M ts) sb = wsx K M sb
  | [], M => rfl
  | c :: ts, M => by
    show wsx K (sbapp (sbpush M c) ts) sb = _
    rw [wsx_pushs K sb ts, wsx_push]
theorem sbpush_0 (M : Mm) (c : Int32) : sbpush M c 19 0 = nI ((M 19 0).toNatClampNeg + 1) := by
  unfold sbpush
  rw [mrow_eq]
  rfl
theorem sbpush_n (M : Mm) (c : Int32) {n j : Nat} (h : M 19 0 = nI n) (hn : n < 2 ^ 30) : sbpush M c 19 (1 + j) = if j = n then c else M 19 (1 + j) := by
  unfold sbpush
  rw [mrow_eq, h, nI_clamp (by omega)]
  simp only [upd]
  rw [if_neg (by omega)]
  by_cases e : j = n
  · rw [if_pos (by omega), if_pos e]
  · rw [if_neg (by omega), if_neg e]
theorem sbapp_ok : ∀ (ts : List Nat) (M : Mm) (n : Nat) (t : Nat → Nat), M 19 0 = nI n → n + ts.length < 2 ^ 30 → (∀ j, j < n → M 19 (1 + j) = nI (t j)) → sbapp M (ts.map nI) 19 0 = nI (n + ts.length) ∧ ∀ j, j < n + ts.length → sbapp M (ts.map nI) 19 (1 + j) = nI (if j < n then t j else ts.getD (j - n) 0)
  | [], M, n, t, h0, hn, hj => ⟨h0, fun j hj2 => by
    have hj3 : j < n := hj2
    rw [if_pos hj3]
    exact hj j hj3⟩
  | c :: ts, M, n, t, h0, hn, hj => by
    have hn2 : n + (ts.length + 1) < 2 ^ 30 := hn
    have h := sbapp_ok ts (sbpush M (nI c)) (n + 1) (fun j => if j < n then t j else c) (by rw [sbpush_0, h0, nI_clamp (by omega)]) (by omega) (fun j hj2 => by
      rw [sbpush_n M (nI c) h0 (by omega)]
      by_cases e : j = n
      · rw [if_pos e, if_neg (by omega)]
      · rw [if_neg e, if_pos (by omega), hj j (by omega)])
    refine ⟨?_, fun j hj2 => ?_⟩
    · show sbapp (sbpush M (nI c)) (ts.map nI) 19 0 = nI (n + (ts.length + 1))
      rw [h.1, show n + 1 + ts.length = n + (ts.length + 1) by omega]
    · have hj3 : j < n + (ts.length + 1) := hj2
      show sbapp (sbpush M (nI c)) (ts.map nI) 19 (1 + j) = _
      rw [h.2 j (by omega)]
      by_cases e1 : j < n
      · rw [if_pos (by omega), if_pos e1, if_pos e1]
      · rw [if_neg e1]
        by_cases e2 : j = n
        · subst e2
          rw [if_pos (by omega), if_neg e1, Nat.sub_self]
          rfl
        · rw [if_neg (by omega), if_neg e1, show j - n = (j - (n + 1)) + 1 by omega]
          rfl
theorem c128 {v : Int32} (h : 0 ≤ v ∧ v < 128) : ∃ c, c < 128 ∧ v = nI c := by
  obtain ⟨c, hc, rfl⟩ := nI_of (Int32.not_lt.mpr h.1)
  exact ⟨c, (nI_ltI hc (by decide)).1 (by rw [show nI 128 = 128 from by decide]; exact h.2), rfl⟩
theorem v100 {v : Int32} (h : -100 < v ∧ v < 100) : ∃ w, w < 100 ∧ (v = nI w ∨ (0 < w ∧ v = -nI w)) := by
  by_cases c : v < 0
  · have h1 := Int32.lt_iff_toInt_lt.mp h.1
    have h2 := Int32.lt_iff_toInt_lt.mp c
    rw [show (-100 : Int32).toInt = -100 from by decide] at h1
    rw [Int32.toInt_zero] at h2
    refine ⟨(-v.toInt).toNat, by omega, Or.inr ⟨by omega, Int32.toInt_inj.mp ?_⟩⟩
    rw [sb_negT (by omega)]
    omega
  · obtain ⟨w, hw, rfl⟩ := nI_of c
    exact ⟨w, (nI_ltI hw (by decide)).1 (by rw [show nI 100 = 100 from by decide]; exact h.2), Or.inl rfl⟩
theorem ct_SB_length {l : Launch} (hl : l.stackTraces = false) (K : KT) (M : Mm) : CTp l K y_SB_length (Cond.code y_SB_length prog_34_method_93_code 1 (some .int)) rvI 6 0 0 [.ref (kA K 19)] M (fn_SB_length M) := by
  refine CTp_ofG (lc := [(0, .ref (kA K 19))]) (by decide +kernel) dec_SB_length hl rfl (Nat.le_of_ble_eq_true rfl) (fun o M' ho => ?_)
  cases ho
  refine ⟨_, rfl, fun X hX => VG_inv (fun q m n z t a h0 h1 h2 h3 h4 h5 => ?_)⟩
  refine G_aload_n hX (j := 0) (hj := rfl) 0 1 rfl rfl ?_
  refine G_callSU (As := []) hX 1 45 (cj_A_length hl K M q z n [sbB K q m a]) my_A_length mi_A_length mq_A_length sup_SB (by decide) mlj_StringBuilder_343 rfl rfl (Nat.le_of_ble_eq_true rfl) (Nat.le_of_ble_eq_true rfl) rfl rfl (Nat.le_of_ble_eq_true rfl) rfl (Nat.le_of_ble_eq_true rfl) (Nat.le_of_ble_eq_true rfl) (fun v => ?_)
  refine VG_and (fun e => ?_)
  subst e
  exact G_iret hX 2 rfl (Nat.le_of_ble_eq_true rfl) (Nat.le_of_ble_eq_true rfl) rfl (fun H h => ⟨by rw [h0], inv_mk0 h0 h1 h2 h3 h4 h5 h⟩)
theorem ct_SB_setLength {l : Launch} (hl : l.stackTraces = false) (K : KT) (v1 : Int32) (M : Mm) : CTp l K y_SB_setLength (Cond.code y_SB_setLength prog_34_method_89_code 2 none) rvU 12 0 0 [.ref (kA K 19), .int v1] M (fn_SB_setLength v1 M) := by
  refine CTp_ofG (lc := [(0, .ref (kA K 19)), (1, .int v1)]) (by decide +kernel) dec_SB_setLength hl rfl (Nat.le_of_ble_eq_true rfl) (fun o M' ho => ?_)
  unfold fn_SB_setLength grd at ho
  by_cases g : v1 = 0
  · rw [if_pos g] at ho
    subst g
    cases ho
    refine ⟨_, rfl, fun X hX => VG_inv (fun q m n z t a h0 h1 h2 h3 h4 h5 => ?_)⟩
    refine G_aload_n hX (j := 0) (hj := rfl) 0 1 rfl rfl ?_
    refine G_iload_n hX (j := 1) (hj := rfl) 1 2 rfl rfl ?_
    refine G_callSU (As := [.int 0]) hX 2 45 (cj_A_setLength hl K M (m := m) h1 h2 h4) my_A_setLength mi_A_setLength mq_A_setLength sup_SB (by decide) mlj_StringBuilder_333 rfl rfl (Nat.le_of_ble_eq_true rfl) (Nat.le_of_ble_eq_true rfl) rfl rfl (Nat.le_of_ble_eq_true rfl) rfl (Nat.le_of_ble_eq_true rfl) (Nat.le_of_ble_eq_true rfl) (fun v => ?_)
    refine VG_ex (fun q' => VG_ex (fun m' => VG_ex (fun z' => VG_ex (fun a' => VG_and (fun e => VG_and (fun hm' => VG_and (fun hf' => ?_)))))))
    subst e
    exact G_vret hX 3 rfl (Nat.le_of_ble_eq_true rfl) (Nat.le_of_ble_eq_true rfl) rfl (fun H h => ⟨rfl, inv_mk (g := upd (M 19) 0 0) (n := 0) (t := fun _ => 0) rfl (Nat.zero_le _) hm' (fun j hj => absurd hj (Nat.not_lt_zero _)) hf' (fun j hj => absurd hj (Nat.not_lt_zero _)) h⟩)
  · rw [if_neg g] at ho
    cases ho
theorem ct_SB_charAt {l : Launch} (hl : l.stackTraces = false) (K : KT) (v1 : Int32) (M : Mm) : CTp l K y_SB_charAt (Cond.code y_SB_charAt prog_34_method_88_code 2 (some .char)) rvI 12 0 0 [.ref (kA K 19), .int v1] M (fn_SB_charAt v1 M) := by
  refine CTp_ofG (lc := [(0, .ref (kA K 19)), (1, .int v1)]) (by decide +kernel) dec_SB_charAt hl rfl (Nat.le_of_ble_eq_true rfl) (fun o M' ho => ?_)
  unfold fn_SB_charAt grd at ho
  by_cases g : inb v1 (M 19 0).toNatClampNeg
  · rw [if_pos g] at ho
    cases ho
    refine ⟨_, rfl, fun X hX => VG_inv (fun q m n z t a h0 h1 h2 h3 h4 h5 => ?_)⟩
    have hm9 := jx_Mle h2
    rw [h0, nI_clamp (by omega)] at g
    obtain ⟨u, hu, rfl⟩ := nI_of (fun h => g (Or.inl h))
    have hx : u < n := Nat.not_le.mp fun h => g (Or.inr (by rw [nI_clamp hu]; exact h))
    refine G_aload_n hX (j := 0) (hj := rfl) 0 1 rfl rfl ?_
    refine G_iload_n hX (j := 1) (hj := rfl) 1 2 rfl rfl ?_
    refine G_callSU (As := [.int (nI u)]) hX 2 45 (cj_A_charAt hl K M hx h1 (by omega) h3) my_A_charAt mi_A_charAt mq_A_charAt sup_SB (by decide) mlj_StringBuilder_329 rfl rfl (Nat.le_of_ble_eq_true rfl) (Nat.le_of_ble_eq_true rfl) rfl rfl (Nat.le_of_ble_eq_true rfl) rfl (Nat.le_of_ble_eq_true rfl) (Nat.le_of_ble_eq_true rfl) (fun v => ?_)
    refine VG_and (fun e => ?_)
    subst e
    have hb9 := h3 u hx
    exact G_zret hX 3 rfl (congrArg Value.int (sb_vc (by omega))) (Nat.le_of_ble_eq_true rfl) (Nat.le_of_ble_eq_true rfl) rfl (fun H h => ⟨by rw [nI_clamp hu, h5 u hx], inv_mk0 h0 h1 h2 h3 h4 h5 h⟩)
  · rw [if_neg g] at ho
    cases ho
theorem ct_SB_appendC {l : Launch} (hl : l.stackTraces = false) (K : KT) (v1 : Int32) (M : Mm) : CTp l K y_SB_appendC (Cond.code y_SB_appendC prog_34_method_14_code 2 (some (.object "java/lang/StringBuilder"))) (fun _ => some (.ref (kA K 19))) 14 1 142 [.ref (kA K 19), .int v1] M (fn_SB_appendC v1 M) := by
  refine CTp_ofG (lc := [(0, .ref (kA K 19)), (1, .int v1)]) (by decide +kernel) dec_SB_appendC hl rfl (Nat.le_of_ble_eq_true rfl) (fun o M' ho => ?_)
  unfold fn_SB_appendC grd at ho
  by_cases g : 0 ≤ v1 ∧ v1 < 128
  · rw [if_pos g] at ho
    by_cases g2 : (M 19 0).toNatClampNeg + 1 ≤ 142
    · rw [if_pos g2] at ho
      cases ho
      refine ⟨_, rfl, fun X hX => VG_inv (fun q m n z t a h0 h1 h2 h3 h4 h5 => ?_)⟩
      have hm9 := jx_Mle h2
      rw [h0, nI_clamp (by omega)] at g2
      obtain ⟨c, hc, rfl⟩ := c128 g
      refine G_aload_n hX (j := 0) (hj := rfl) 0 1 rfl rfl ?_
      refine G_iload_n hX (j := 1) (hj := rfl) 1 2 rfl rfl ?_
      refine G_callSU (As := [.int (nI c)]) hX 2 45 (cj_A_appendC hl K M hc h1 h2 g2 h4) my_A_appendC mi_A_appendC mq_A_appendC sup_SB (by decide) mlj_StringBuilder_50 rfl rfl (Nat.le_of_ble_eq_true rfl) (Nat.le_of_ble_eq_true rfl) rfl rfl (Nat.le_of_ble_eq_true rfl) rfl (Nat.le_of_ble_eq_true rfl) (Nat.le_of_ble_eq_true rfl) (fun v => ?_)
      refine VG_ex (fun q' => VG_ex (fun m' => VG_ex (fun a' => VG_and (fun e => VG_and (fun hm' => VG_and (fun hn' => VG_and (fun hf' => VG_and (fun hk' => VG_and (fun hc' => ?_)))))))))
      subst e
      refine G_pop hX (hc := rfl) 3 6 rfl rfl ?_
      refine G_aload_n hX (j := 0) (hj := rfl) 4 7 rfl rfl ?_
      refine G_aret hX 5 rfl (Or.inl ⟨_, rfl⟩) (Nat.le_of_ble_eq_true rfl) (Nat.le_of_ble_eq_true rfl) rfl (fun H h => ⟨rfl, ?_⟩)
      have hs := sbapp_ok [c] M n t h0 (by show n + 1 < 2 ^ 30; omega) h5
      refine inv_mk0 (z := z) (q := q') (M := sbpush M (nI c)) (n := n + 1) (t := fun j => if j < n then t j else [c].getD (j - n) 0) hs.1 hn' hm' (fun j hj => ?_) hf' hs.2 ?_
      · by_cases e : j < n
        · show (if j < n then t j else _) < 256 ∧ a' j = sb_b (if j < n then t j else _)
          rw [if_pos e, hk' j e]
          exact h3 j e
        · have e2 : j = n := by omega
          subst e2
          show (if j < j then t j else _) < 256 ∧ a' j = sb_b (if j < j then t j else _)
          rw [if_neg e, Nat.sub_self]
          exact ⟨show c < 256 by omega, hc'⟩
      · rw [wsx_push]
        exact h
    · rw [if_neg g2] at ho
      cases ho
  · rw [if_neg g] at ho
    cases ho
theorem ct_SB_appendI {l : Launch} (hl : l.stackTraces = false) (K : KT) (v1 : Int32) (M : Mm) : CTp l K y_SB_appendI (Cond.code y_SB_appendI prog_34_method_15_code 2 (some (.object "java/lang/StringBuilder"))) (fun _ => some (.ref (kA K 19))) 14 1 142 [.ref (kA K 19), .int v1] M (fn_SB_appendI v1 M) := by
  refine CTp_ofG (lc := [(0, .ref (kA K 19)), (1, .int v1)]) (by decide +kernel) dec_SB_appendI hl rfl (Nat.le_of_ble_eq_true rfl) (fun o M' ho => ?_)
  unfold fn_SB_appendI grd at ho
  by_cases g : -100 < v1 ∧ v1 < 100
  · rw [if_pos g] at ho
    by_cases g2 : (M 19 0).toNatClampNeg + 3 ≤ 142
    · rw [if_pos g2] at ho
      cases ho
      refine ⟨_, rfl, fun X hX => VG_inv (fun q m n z t a h0 h1 h2 h3 h4 h5 => ?_)⟩
      have hm9 := jx_Mle h2
      rw [h0, nI_clamp (by omega)] at g2
      obtain ⟨w, hw, hv | ⟨hp, hv⟩⟩ := v100 g
      · have hd9 := (dg_len false w hw).2
        subst hv
        have hd := (dg_dig w hw).1
        refine G_aload_n hX (j := 0) (hj := rfl) 0 1 rfl rfl ?_
        refine G_iload_n hX (j := 1) (hj := rfl) 1 2 rfl rfl ?_
        refine G_callSU (As := [.int (nI w)]) hX 2 45 (cj_A_appendI_p hl K M hw h1 h2 g2 h4) my_A_appendI mi_A_appendI mq_A_appendI sup_SB (by decide) mlj_StringBuilder_53 rfl rfl (Nat.le_of_ble_eq_true rfl) (Nat.le_of_ble_eq_true rfl) rfl rfl (Nat.le_of_ble_eq_true rfl) rfl (Nat.le_of_ble_eq_true rfl) (Nat.le_of_ble_eq_true rfl) (fun v => ?_)
        refine VG_ex (fun q' => VG_ex (fun m' => VG_ex (fun a' => VG_and (fun e => VG_and (fun hm' => VG_and (fun hn' => VG_and (fun hf' => VG_and (fun hk' => VG_and (fun hc' => ?_)))))))))
        subst e
        refine G_pop hX (hc := rfl) 3 6 rfl rfl ?_
        refine G_aload_n hX (j := 0) (hj := rfl) 4 7 rfl rfl ?_
        refine G_aret hX 5 rfl (Or.inl ⟨_, rfl⟩) (Nat.le_of_ble_eq_true rfl) (Nat.le_of_ble_eq_true rfl) rfl (fun H h => ⟨rfl, ?_⟩)
        have hs := sbapp_ok (dgN false w) M n t h0 (by omega) h5
        rw [hd]
        refine inv_mk0 (z := z) (q := q') (M := sbapp M ((dgN false w).map nI)) (n := n + (dgN false w).length) (t := fun j => if j < n then t j else (dgN false w).getD (j - n) 0) hs.1 hn' hm' (fun j hj => ?_) hf' hs.2 ?_
        · by_cases e : j < n
          · show (if j < n then t j else _) < 256 ∧ a' j = sb_b (if j < n then t j else _)
            rw [if_pos e, hk' j e]
            exact h3 j e
          · obtain ⟨i, rfl⟩ := Nat.exists_eq_add_of_le (Nat.not_lt.mp e)
            have hi : i < (dgN false w).length := by omega
            show (if n + i < n then t (n + i) else _) < 256 ∧ a' (n + i) = sb_b (if n + i < n then t (n + i) else _)
            rw [if_neg e, Nat.add_sub_cancel_left]
            have h9 := dg_lt false w hw i hi
            exact ⟨by omega, hc' i hi⟩
        · rw [wsx_pushs]
          exact h
      · have hd9 := (dg_len true w hw).2
        subst hv
        have hd := (dg_dig w hw).2 hp
        refine G_aload_n hX (j := 0) (hj := rfl) 0 1 rfl rfl ?_
        refine G_iload_n hX (j := 1) (hj := rfl) 1 2 rfl rfl ?_
        refine G_callSU (As := [.int (-nI w)]) hX 2 45 (cj_A_appendI_n hl K M hw hp h1 h2 g2 h4) my_A_appendI mi_A_appendI mq_A_appendI sup_SB (by decide) mlj_StringBuilder_53 rfl rfl (Nat.le_of_ble_eq_true rfl) (Nat.le_of_ble_eq_true rfl) rfl rfl (Nat.le_of_ble_eq_true rfl) rfl (Nat.le_of_ble_eq_true rfl) (Nat.le_of_ble_eq_true rfl) (fun v => ?_)
        refine VG_ex (fun q' => VG_ex (fun m' => VG_ex (fun a' => VG_and (fun e => VG_and (fun hm' => VG_and (fun hn' => VG_and (fun hf' => VG_and (fun hk' => VG_and (fun hc' => ?_)))))))))
        subst e
        refine G_pop hX (hc := rfl) 3 6 rfl rfl ?_
        refine G_aload_n hX (j := 0) (hj := rfl) 4 7 rfl rfl ?_
        refine G_aret hX 5 rfl (Or.inl ⟨_, rfl⟩) (Nat.le_of_ble_eq_true rfl) (Nat.le_of_ble_eq_true rfl) rfl (fun H h => ⟨rfl, ?_⟩)
        have hs := sbapp_ok (dgN true w) M n t h0 (by omega) h5
        rw [hd]
        refine inv_mk0 (z := z) (q := q') (M := sbapp M ((dgN true w).map nI)) (n := n + (dgN true w).length) (t := fun j => if j < n then t j else (dgN true w).getD (j - n) 0) hs.1 hn' hm' (fun j hj => ?_) hf' hs.2 ?_
        · by_cases e : j < n
          · show (if j < n then t j else _) < 256 ∧ a' j = sb_b (if j < n then t j else _)
            rw [if_pos e, hk' j e]
            exact h3 j e
          · obtain ⟨i, rfl⟩ := Nat.exists_eq_add_of_le (Nat.not_lt.mp e)
            have hi : i < (dgN true w).length := by omega
            show (if n + i < n then t (n + i) else _) < 256 ∧ a' (n + i) = sb_b (if n + i < n then t (n + i) else _)
            rw [if_neg e, Nat.add_sub_cancel_left]
            have h9 := dg_lt true w hw i hi
            exact ⟨by omega, hc' i hi⟩
        · rw [wsx_pushs]
          exact h
    · rw [if_neg g2] at ho
      cases ho
  · rw [if_neg g] at ho
    cases ho
end JDK0
