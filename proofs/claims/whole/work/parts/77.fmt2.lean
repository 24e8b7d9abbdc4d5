/-! SERIES AS A TEXT, RUNS AS A TEXT -/
def lnOk (i l : Int) : Prop := (i = 0 ∧ l = 0) ∨ (0 < i ∧ 1 ≤ l ∧ l ≤ 7 * i - 1)
def fsT (a : Int → Int) (x : Int) (z : LN) : LN := pushT (digI (a x)) (sepT z)
def fsL (a : Int → Int) (i n : Int) (z : LN) : LN := lp (fsT a) i n z
theorem fsL_stop {a : Int → Int} {i n : Int} {z : LN} (h : n ≤ i) : fsL a i n z = z := lp_stop h
theorem fsL_step {a : Int → Int} {i n : Int} {z : LN} (h : i < n) : fsL a i n z = fsL a (i + 1) n (fsT a i z) := lp_step h
theorem lnOk_fs {a : Int → Int} {x : Int} {z : LN} (ha : ∀ i, -99 ≤ a i ∧ a i ≤ 99) (hx : 0 ≤ x) (h : lnOk x z.1) : lnOk (x + 1) (fsT a x z).1 := by
  obtain ⟨d1, d2, d3, d4, d5⟩ := dig_z (ha x)
  unfold lnOk at h ⊢
  unfold fsT
  rw [pushT1, sepT1 (by omega)]
  by_cases c : z.1 = 0
  · rw [if_pos c]; omega
  · rw [if_neg c]; omega
theorem c_fs_16 {v : Nat} {n : Int} {a : Int → Int} : ∀ (k : Nat) (i : Int) (z : LN) (M : Mm), Ser M v n a → ICl z.1 z.2 M → lnOk i z.1 → 0 ≤ i → i ≤ n → n - i < k → ∃ M1, fn_SA_formatSeries_16 v k (zI i) M = some (.inl (zI (fsL a i n z).1), M1) ∧ ICl (fsL a i n z).1 (fsL a i n z).2 M1 ∧ Of19 M M1 := by
  intro k
  induction k with
  | zero => intros; omega
  | succ k ih =>
    intro i z M h hl ho h0 h1 h2
    have hv := h.v
    have hn := h.n
    rw [fn_SA_formatSeries_16, h.size, bnd_ok]
    by_cases c : n ≤ i
    · rw [if_pos (by rw [zI_le (by omega) (by omega)]; exact c), fsL_stop c]
      unfold fn_SA_formatSeries_39 fn_SB_length
      rw [bnd_ok, hl.2.1]
      exact ⟨M, rfl, hl, fun _ _ => rfl⟩
    · have ho' := lnOk_fs h.b h0 ho
      rw [if_neg (by rw [zI_le (by omega) (by omega)]; exact c), fsL_step (by omega), h.at h0 (by omega), bnd_ok]
      unfold lnOk at ho
      obtain ⟨M1, e1, e2, e3⟩ := c_sep (v := a i) hl (h.b i) (by omega)
      have h' := h.to (M' := M1) (e3 _ (by omega)) (e3 _ (by omega))
      obtain ⟨M2, f1, f2, f3⟩ := ih (i + 1) (fsT a i z) M1 h' e2 ho' (by omega) (by omega) (by omega)
      refine ⟨M2, ?_, f2, e3.tr f3⟩
      rw [e1, bnd_ok, show (1 : Int32) = zI 1 from rfl, zI_add, li_eq, f1]
theorem m_fs_20 {v n : Int} {a : Int → Int} : ∀ (k : Nat) (i : Int) (z : LN) (M : Mm), Mse M v n a → IMl z.1 z.2 M → lnOk i z.1 → 0 ≤ i → i ≤ n → n - i < k → ∃ M1, fn_Mo_formatSeries_20 (zI v) k (zI i) M = some (.inl (zI (fsL a i n z).1), M1) ∧ IMl (fsL a i n z).1 (fsL a i n z).2 M1 ∧ WrL M M1 := by
  intro k
  induction k with
  | zero => intros; omega
  | succ k ih =>
    intro i z M h hl ho h0 h1 h2
    have hn := h.n
    rw [fn_Mo_formatSeries_20, h.many, bnd_ok]
    by_cases c : n ≤ i
    · rw [if_pos (by rw [zI_le (by omega) (by omega)]; exact c), fsL_stop c]
      unfold fn_Mo_formatSeries_55
      rw [hl.1]
      exact ⟨M, rfl, hl, WrL.rf M⟩
    · have ho' := lnOk_fs h.b h0 ho
      rw [if_neg (by rw [zI_le (by omega) (by omega)]; exact c), fsL_step (by omega)]
      obtain ⟨d1, d2, d3, d4, d5⟩ := dig_z (h.b i)
      have hz : ∃ M', (if zI i ≤ 0 then (fn_Mo_formatSeries_39 (fn_Mo_formatSeries_20 (zI v) k) (zI v) (zI i) M) else (bnd (fn_Mo_write 32 M) (fun r36 M36 => fn_Mo_formatSeries_39 (fn_Mo_formatSeries_20 (zI v) k) (zI v) (zI i) M36))) = fn_Mo_formatSeries_39 (fn_Mo_formatSeries_20 (zI v) k) (zI v) (zI i) M' ∧ IMl (sepT z).1 (sepT z).2 M' ∧ WrL M M' ∧ 0 ≤ (sepT z).1 ∧ (sepT z).1 ≤ 136 := by
        unfold lnOk at ho
        unfold sepT
        by_cases c2 : i ≤ 0
        · rw [if_pos (by rw [show (0 : Int32) = zI 0 from rfl, zI_le (by omega) (by omega)]; exact c2), if_pos (by omega)]
          exact ⟨M, rfl, hl, WrL.rf M, by omega, by omega⟩
        · obtain ⟨M', e1, e2, e3⟩ := hl.write (c := 32) (by omega)
          rw [if_neg (by rw [show (0 : Int32) = zI 0 from rfl, zI_le (by omega) (by omega)]; exact c2), if_neg (by omega), show (32 : Int32) = zI 32 from rfl, e1, bnd_ok]
          exact ⟨M', rfl, e2, e3, by rw [pushC1]; omega, by rw [pushC1]; omega⟩
      obtain ⟨M', e1, e2, e3, e4, e5⟩ := hz
      rw [e1]
      have h' := h.to (M' := M') (e3.2 33 (by decide) (by decide))
      obtain ⟨M2, f1, f2, f3⟩ := m_num (v := a i) (z := sepT z) e2 (h.b i) (by omega)
      have h'' := h'.to (M' := M2) (f3.2 33 (by decide) (by decide))
      obtain ⟨M3, g1, g2, g3⟩ := ih (i + 1) (fsT a i z) M2 h'' f2 ho' (by omega) (by omega) (by omega)
      refine ⟨M3, ?_, g2, (e3.tr f3).tr g3⟩
      unfold fn_Mo_formatSeries_39
      rw [h'.at h0 (by omega), bnd_ok, f1, bnd_ok, show (1 : Int32) = zI 1 from rfl, zI_add, li_eq, g1]
/-- a call that writes the line -/
theorem StepLine {p : Int} {x y : Mm → Rs Int32} (F : Int → (Int → Int) → LN → LN)
    (hx0 : ¬ (0 ≤ p ∧ p < 4) → ∀ M, x M = some (.inr 0, M)) (hy0 : ¬ (0 ≤ p ∧ p < 4) → ∀ M, y M = some (.inl 0, mset M 32 6 1))
    (hx1 : (0 ≤ p ∧ p < 4) → ∀ (n : Int) (a : Int → Int) (M : Mm) (z : LN), z.1 = 0 → Ser M (p.toNat + 2) n a → ICl z.1 z.2 (mset M 19 0 0) → ∃ M1, x M = some (.inl (zI (F n a z).1), M1) ∧ ICl (F n a z).1 (F n a z).2 M1 ∧ Of19 M M1)
    (hy1 : (0 ≤ p ∧ p < 4) → ∀ (n : Int) (a : Int → Int) (M : Mm) (z : LN), z.1 = 0 → Mse M p n a → IMl z.1 z.2 (mset (mset M 32 6 0) 32 12 0) → ∃ M1, y M = some (.inl (zI (F n a z).1), M1) ∧ IMl (F n a z).1 (F n a z).2 M1 ∧ WrL (mset (mset M 32 6 0) 32 12 0) M1) : StepOK x [(0, 1)] y := by
  intro M hI
  have hI2 := hI
  obtain ⟨N, A, ap, d, nx, H, sv, S, ep, fl, cnt, tx, ln, lc, ⟨c1, c2, c3, c4, c5, c6⟩, m1, m2, m3, m4, m5, m6⟩ := hI
  have hHs : ∀ q, 0 ≤ q → q < d → SnS (H q) := fun q q0 q1 => (c2.2.2.2.2 q q0 q1).2
  by_cases c : 0 ≤ p ∧ p < 4
  · left
    have l0 : ICl ((0, lc) : LN).1 ((0, lc) : LN).2 (mset M 19 0 0) := ⟨⟨Int.le_refl 0, by show (0 : Int) ≤ 139; decide⟩, mset_at _ _ _ _, fun i i0 i1 => absurd (show i < 0 from i1) (by omega), c6.2.2.2⟩
    obtain ⟨M1, e1, e2, e3⟩ := hx1 c _ _ M (0, lc) rfl (c1.1 p c.1 c.2) l0
    have k1 : ∀ j, j ≠ 19 → j ≠ 45 → mset M1 45 0 (zI (F (N p) (A p) (0, lc)).1) j = M j := fun j j0 j1 => by rw [mset_ne _ _ _ j1, e3 j j0]
    have l1 : IMl ((0, lc) : LN).1 ((0, lc) : LN).2 (mset (mset (mset M1 45 0 (zI (F (N p) (A p) (0, lc)).1)) 32 6 0) 32 12 0) := ⟨mset_at _ _ _ _, fun i i0 i1 => absurd (show i < 0 from i1) (by omega)⟩
    obtain ⟨M2, f1, f2, f3⟩ := hy1 c _ _ (mset M1 45 0 (zI (F (N p) (A p) (0, lc)).1)) (0, lc) rfl ((m1.1 p c.1 c.2).to (k1 33 (by decide) (by decide))) l1
    have zj : ∀ j, j ≠ 19 → j ≠ 32 → j ≠ 39 → j ≠ 45 → M2 j = M j := fun j j1 j2 j3 j4 => by rw [f3.2 j j2 j3, mset_ne _ _ _ j2, mset_ne _ _ _ j2, k1 j j1 j4]
    have z32 : ∀ i, i ≠ 6 → i ≠ 12 → M2 32 i = M 32 i := fun i i1 i2 => by rw [f3.1 i i2, mset_oth _ _ _ _ i2, mset_oth _ _ _ _ i1, k1 32 (by decide) (by decide)]
    refine ⟨_, M1, M2, e1, f1, ?_, ?_, N, A, ap, d, nx, H, sv, S, ep, fl, cnt, tx, (F (N p) (A p) (0, lc)).1, (F (N p) (A p) (0, lc)).2, ⟨c1.to (fun j j0 j1 => zj j (by omega) (by omega) (by omega) (by omega)), c2.to (zj 12 (by decide) (by decide) (by decide) (by decide)) (zj 13 (by decide) (by decide) (by decide) (by decide)), c3.to (by rw [zj 0 (by decide) (by decide) (by decide) (by decide)]) (zj 14 (by decide) (by decide) (by decide) (by decide)), c4.to (by rw [zj 0 (by decide) (by decide) (by decide) (by decide)]) (by rw [zj 0 (by decide) (by decide) (by decide) (by decide)]), c5.to (by rw [zj 16 (by decide) (by decide) (by decide) (by decide)]) (zj 17 (by decide) (by decide) (by decide) (by decide)), e2.to ?_⟩, m1.to (zj 33 (by decide) (by decide) (by decide) (by decide)), m2.to hHs (z32 7 (by decide) (by decide)) (zj 36 (by decide) (by decide) (by decide) (by decide)), m3.to (fun z => (c3.2.2 z).2) (z32 10 (by decide) (by decide)) (zj 35 (by decide) (by decide) (by decide) (by decide)), m4.to (z32 8 (by decide) (by decide)) (z32 9 (by decide) (by decide)), m5.to (z32 18 (by decide) (by decide)) (zj 40 (by decide) (by decide) (by decide) (by decide)), f2⟩
    · rw [f3.1 6 (by decide), mset_oth _ _ _ _ (by decide), mset_at]
    · rw [f3.2 45 (by decide) (by decide), mset_ne _ _ _ (by decide), mset_ne _ _ _ (by decide), mset_at]
    · rw [f3.2 19 (by decide) (by decide), mset_ne _ _ _ (by decide), mset_ne _ _ _ (by decide), mset_ne _ _ _ (by decide)]
  · right
    exact ⟨0, 0, 1, M, mset M 32 6 1, hx0 c M, rfl, by decide, hy0 c M, mset_at _ _ _ _, hI2.off (Off.th _ 1)⟩
theorem St_formatSeries {p : Int} (hp : -2147483648 ≤ p ∧ p < 2147483648) : StepOK (fn_SA_formatSeries (zI p)) [(0, 1)] (fn_Mo_formatSeries (zI p)) := by
  refine StepLine (p := p) (fun n a z => fsL a 0 n z) (fun c M => ?_) (fun c M => ?_) (fun c n a M z hz h hl => ?_) (fun c n a M z hz h hl => ?_)
  · unfold fn_SA_formatSeries
    rw [SA_in_no hp c, bnd_ex]
  · unfold fn_Mo_formatSeries
    rw [mo_slot hp, bnd_ok, if_neg c, mo_checked (.inl rfl), bnd_ok, if_neg (by decide)]
    rfl
  · have hn := h.n
    have h' := h.to (M' := mset M 19 0 0) (mset_ne _ _ _ (by omega)) (mset_ne _ _ _ (by omega))
    obtain ⟨M1, e1, e2, e3⟩ := c_fs_16 21 0 z _ h' hl (.inl ⟨rfl, hz⟩) (by omega) (by omega) (by omega)
    refine ⟨M1, ?_, e2, fun j hj => by rw [e3 j hj, mset_ne _ _ _ hj]⟩
    unfold fn_SA_formatSeries
    rw [SA_in c, bnd_ok, grd_ser (by omega), show fn_SB_setLength 0 M = some (.inl (), mset M 19 0 0) from grd_t rfl, bnd_ok]
    exact e1
  · have hn := h.n
    have h' := (h.set (k := 32) (by decide) 6 0).set (k := 32) (by decide) 12 0
    obtain ⟨M1, e1, e2, e3⟩ := m_fs_20 2000 0 z _ h' hl (.inl ⟨rfl, hz⟩) (by omega) (by omega) (by omega)
    refine ⟨M1, ?_, e2, e3⟩
    unfold fn_Mo_formatSeries fuel0
    rw [mo_slot hp, bnd_ok, if_pos c, mo_checked (.inr rfl), bnd_ok, if_pos (by decide), lm_eq]
    exact e1
/-! runs -/
def rnE (c v : Int) (z : LN) : LN := pushT (digI c) (pushT [120] (pushT (digI v) (sepT z)))
def rnT (a : Int → Int) (n x : Int) (s : LN × Int) : LN × Int := if x + 1 < n ∧ a (x + 1) = a x then (s.1, s.2 + 1) else (rnE (s.2 + 1) (a x) s.1, 0)
def rnL (a : Int → Int) (i n : Int) (s : LN × Int) : LN × Int := lp (rnT a n) i n s
theorem rnL_stop {a : Int → Int} {i n : Int} {s : LN × Int} (h : n ≤ i) : rnL a i n s = s := lp_stop h
theorem rnL_step {a : Int → Int} {i n : Int} {s : LN × Int} (h : i < n) : rnL a i n s = rnL a (i + 1) n (rnT a n i s) := lp_step h
theorem rnE1 {c v : Int} {z : LN} (h : 0 ≤ z.1) : (rnE c v z).1 = z.1 + (if z.1 = 0 then 0 else 1) + ((digI v).length : Int) + 1 + ((digI c).length : Int) := by
  unfold rnE
  rw [pushT1, pushC1, pushT1, sepT1 h]
theorem lnOk_rn {w j v : Int} {z : LN} (h : lnOk w z.1) (hv : -99 ≤ v ∧ v ≤ 99) (hw : 0 ≤ w) {c : Int} (hc : 1 ≤ c ∧ c ≤ 20) (hj : w < j) : lnOk j (rnE c v z).1 := by
  obtain ⟨d1, d2, d3, d4, d5⟩ := dig_z hv
  obtain ⟨g1, g2, g3, g4, g5⟩ := dig_z (v := c) (by omega)
  unfold lnOk at h ⊢
  rw [rnE1 (by omega)]
  by_cases k : z.1 = 0
  · rw [if_pos k]; omega
  · rw [if_neg k]; omega
def rnOk (i : Int) (s : LN × Int) : Prop := 0 ≤ s.2 ∧ s.2 ≤ i ∧ lnOk (i - s.2) s.1.1
theorem c_rn_19 {v : Nat} {n : Int} {a : Int → Int} : ∀ (k : Nat) (i : Int) (z : LN) (t : Int) (M : Mm), Ser M v n a → ICl z.1 z.2 M → rnOk i (z, t) → 0 ≤ i → i ≤ n → n - i < k → ∃ M1, fn_SA_formatRuns_19 v k (zI t) (zI i) M = some (.inl (zI (rnL a i n (z, t)).1.1), M1) ∧ ICl (rnL a i n (z, t)).1.1 (rnL a i n (z, t)).1.2 M1 ∧ Of19 M M1 := by
  intro k
  induction k with
  | zero => intros; omega
  | succ k ih =>
    intro i z t M h hl ho h0 h1 h2
    have hv := h.v
    have hn := h.n
    have t0 : 0 ≤ t := ho.1
    have t1 : t ≤ i := ho.2.1
    have ho3 : lnOk (i - t) z.1 := ho.2.2
    rw [fn_SA_formatRuns_19, h.size, bnd_ok]
    by_cases c : n ≤ i
    · rw [if_pos (by rw [zI_le (by omega) (by omega)]; exact c), rnL_stop c]
      unfold fn_SA_formatRuns_96 fn_SB_length
      rw [bnd_ok, hl.2.1]
      exact ⟨M, rfl, hl, fun _ _ => rfl⟩
    · rw [if_neg (by rw [zI_le (by omega) (by omega)]; exact c), rnL_step (by omega), show (1 : Int32) = zI 1 from rfl, zI_add, zI_add, li_eq]
      by_cases c2 : i + 1 < n ∧ a (i + 1) = a i
      · have es : rnT a n i (z, t) = (z, t + 1) := if_pos c2
        rw [es, h.has (by omega) c2.1, bnd_ok, if_neg (by decide), h.at (by omega) c2.1, bnd_ok, h.at h0 (by omega), bnd_ok, if_pos (by rw [c2.2])]
        unfold fn_SA_formatRuns_90
        rw [show (1 : Int32) = zI 1 from rfl, zI_add, li_eq]
        refine ih (i + 1) z (t + 1) M h hl ⟨by show 0 ≤ t + 1; omega, by show t + 1 ≤ i + 1; omega, ?_⟩ (by omega) (by omega) (by omega)
        show lnOk (i + 1 - (t + 1)) z.1
        rw [show i + 1 - (t + 1) = i - t by omega]
        exact ho3
      · have es : rnT a n i (z, t) = (rnE (t + 1) (a i) z, 0) := if_neg c2
        rw [es]
        have key : ∃ M1, fn_SA_formatRuns_59 (fn_SA_formatRuns_19 v k) v (zI (t + 1)) (zI i) M = some (.inl (zI (rnL a (i + 1) n (rnE (t + 1) (a i) z, 0)).1.1), M1) ∧ ICl (rnL a (i + 1) n (rnE (t + 1) (a i) z, 0)).1.1 (rnL a (i + 1) n (rnE (t + 1) (a i) z, 0)).1.2 M1 ∧ Of19 M M1 := by
          have ho' : lnOk (i + 1) (rnE (t + 1) (a i) z).1 := lnOk_rn ho3 (h.b i) (by omega) (by omega) (by omega)
          obtain ⟨d1, d2, d3, d4, d5⟩ := dig_z (h.b i)
          obtain ⟨g1, g2, g3, g4, g5⟩ := dig_z (v := t + 1) (by omega)
          unfold lnOk at ho3
          have hs : (sepT z).1 ≤ z.1 + 1 := by
            rw [sepT1 (by omega)]
            by_cases k : z.1 = 0
            · rw [if_pos k]; omega
            · rw [if_neg k]; omega
          obtain ⟨M1, e1, e2, e3⟩ := c_sep (v := a i) hl (h.b i) (by omega)
          obtain ⟨M2, f1, f2, f3⟩ := c_chr (c := 120) (z := pushT (digI (a i)) (sepT z)) e2 (by omega) (by rw [pushT1]; omega)
          obtain ⟨M3, q1, q2, q3⟩ := c_num (v := t + 1) (z := pushT [120] (pushT (digI (a i)) (sepT z))) f2 (by omega) (by rw [pushC1, pushT1]; omega)
          have o3 := (e3.tr f3).tr q3
          obtain ⟨M4, k1, k2, k3⟩ := ih (i + 1) (rnE (t + 1) (a i) z) 0 M3 (h.to (o3 _ (by omega)) (o3 _ (by omega))) q2 ⟨Int.le_refl 0, by show 0 ≤ i + 1; omega, by show lnOk (i + 1 - 0) _; rw [Int.sub_zero]; exact ho'⟩ (by omega) (by omega) (by omega)
          refine ⟨M4, ?_, k2, o3.tr k3⟩
          unfold fn_SA_formatRuns_59 fn_SA_formatRuns_90
          rw [h.at h0 (by omega), bnd_ok, e1, bnd_ok, show (120 : Int32) = zI 120 from rfl, f1, bnd_ok, q1, bnd_ok, show (1 : Int32) = zI 1 from rfl, zI_add, li_eq]
          exact k1
        by_cases c3 : i + 1 < n
        · have c4 : a (i + 1) ≠ a i := fun e => c2 ⟨c3, e⟩
          have b1 := h.b i
          have b2 := h.b (i + 1)
          rw [h.has (by omega) c3, bnd_ok, if_neg (by decide), h.at (by omega) c3, bnd_ok, h.at h0 (by omega), bnd_ok, if_neg (by rw [zI_eq (by omega) (by omega)]; exact c4)]
          exact key
        · rw [h.hasn (by omega) (by omega), bnd_ok, if_pos (by decide)]
          exact key
theorem m_rn_61 {v n : Int} {a : Int → Int} {kk : Nat} {w : Int} {z : LN} {M : Mm} (IH : ∀ (i : Int) (z : LN) (M : Mm), Mse M v n a → IMl z.1 z.2 M → lnOk i z.1 → w < i → i ≤ n → ∃ M1, fn_Mo_formatRuns_20 (zI v) kk (zI i) M = some (.inl (zI (rnL a i n (z, 0)).1.1), M1) ∧ IMl (rnL a i n (z, 0)).1.1 (rnL a i n (z, 0)).1.2 M1 ∧ WrL M M1) (h : Mse M v n a) (hl : IMl z.1 z.2 M) (ho : lnOk w z.1) (hw : 0 ≤ w ∧ w < n) {j : Int} (hj : w < j ∧ j ≤ n) : ∃ M1, fn_Mo_formatRuns_61 (fn_Mo_formatRuns_20 (zI v) kk) (zI v) (zI w) (zI j) M = some (.inl (zI (rnL a j n (rnE (j - w) (a w) z, 0)).1.1), M1) ∧ IMl (rnL a j n (rnE (j - w) (a w) z, 0)).1.1 (rnL a j n (rnE (j - w) (a w) z, 0)).1.2 M1 ∧ WrL M M1 := by
  have hn := h.n
  have ho' : lnOk j (rnE (j - w) (a w) z).1 := lnOk_rn ho (h.b w) (by omega) (by omega) (by omega)
  obtain ⟨d1, d2, d3, d4, d5⟩ := dig_z (h.b w)
  obtain ⟨g1, g2, g3, g4, g5⟩ := dig_z (v := j - w) (by omega)
  have hz : ∃ M', fn_Mo_formatRuns_61 (fn_Mo_formatRuns_20 (zI v) kk) (zI v) (zI w) (zI j) M = fn_Mo_formatRuns_71 (fn_Mo_formatRuns_20 (zI v) kk) (zI v) (zI w) (zI j) M' ∧ IMl (sepT z).1 (sepT z).2 M' ∧ WrL M M' ∧ 0 ≤ (sepT z).1 ∧ (sepT z).1 ≤ 133 := by
    unfold fn_Mo_formatRuns_61
    unfold lnOk at ho
    unfold sepT
    by_cases c2 : w ≤ 0
    · rw [if_pos (by rw [show (0 : Int32) = zI 0 from rfl, zI_le (by omega) (by omega)]; exact c2), if_pos (by omega)]
      exact ⟨M, rfl, hl, WrL.rf M, by omega, by omega⟩
    · obtain ⟨M', e1, e2, e3⟩ := hl.write (c := 32) (by omega)
      rw [if_neg (by rw [show (0 : Int32) = zI 0 from rfl, zI_le (by omega) (by omega)]; exact c2), if_neg (by omega), show (32 : Int32) = zI 32 from rfl, e1, bnd_ok]
      exact ⟨M', rfl, e2, e3, by rw [pushC1]; omega, by rw [pushC1]; omega⟩
  obtain ⟨M', e1, e2, e3, e4, e5⟩ := hz
  rw [e1]
  have h' := h.to (M' := M') (e3.2 33 (by decide) (by decide))
  obtain ⟨M2, f1, f2, f3⟩ := m_num (v := a w) (z := sepT z) e2 (h.b w) (by omega)
  obtain ⟨M3, p1, p2, p3⟩ := f2.write (c := 120) (z := pushT (digI (a w)) (sepT z)) (by rw [pushT1]; omega)
  obtain ⟨M4, q1, q2, q3⟩ := m_num (v := j - w) (z := pushT [120] (pushT (digI (a w)) (sepT z))) p2 (by omega) (by rw [pushC1, pushT1]; omega)
  have o4 := ((e3.tr f3).tr p3).tr q3
  obtain ⟨M5, r1, r2, r3⟩ := IH j (rnE (j - w) (a w) z) M4 (h.to (o4.2 33 (by decide) (by decide))) q2 ho' hj.1 hj.2
  refine ⟨M5, ?_, r2, o4.tr r3⟩
  unfold fn_Mo_formatRuns_71
  rw [h'.at hw.1 hw.2, bnd_ok, f1, bnd_ok, show (120 : Int32) = zI 120 from rfl, p1, bnd_ok, zI_sub, q1, bnd_ok, r1]
theorem m_rn_31 {v n : Int} {a : Int → Int} {kk : Nat} {w : Int} {z : LN} {M : Mm} (IH : ∀ (i : Int) (z : LN) (M : Mm), Mse M v n a → IMl z.1 z.2 M → lnOk i z.1 → w < i → i ≤ n → ∃ M1, fn_Mo_formatRuns_20 (zI v) kk (zI i) M = some (.inl (zI (rnL a i n (z, 0)).1.1), M1) ∧ IMl (rnL a i n (z, 0)).1.1 (rnL a i n (z, 0)).1.2 M1 ∧ WrL M M1) (h : Mse M v n a) (hl : IMl z.1 z.2 M) (ho : lnOk w z.1) (hw : 0 ≤ w ∧ w < n) : ∀ (k : Nat) (j : Int), w < j → j ≤ n → (∀ x, w ≤ x → x < j → a x = a w) → n - j < k → ∃ M1, fn_Mo_formatRuns_31 (fn_Mo_formatRuns_20 (zI v) kk) (zI v) (zI w) k (zI j) M = some (.inl (zI (rnL a (j - 1) n (z, j - 1 - w)).1.1), M1) ∧ IMl (rnL a (j - 1) n (z, j - 1 - w)).1.1 (rnL a (j - 1) n (z, j - 1 - w)).1.2 M1 ∧ WrL M M1 := by
  have hn := h.n
  intro k
  induction k with
  | zero => intros; omega
  | succ k ih =>
    intro j h0 h1 hall h2
    have ej := hall (j - 1) (by omega) (by omega)
    rw [fn_Mo_formatRuns_31, h.many, bnd_ok, rnL_step (i := j - 1) (by omega), show j - 1 + 1 = j by omega]
    by_cases c : j < n ∧ a j = a w
    · have es : rnT a n (j - 1) (z, j - 1 - w) = (z, j - w) := by
        unfold rnT
        rw [show j - 1 + 1 = j by omega, if_pos ⟨c.1, by rw [c.2, ej]⟩]
        exact Prod.ext rfl (by show j - 1 - w + 1 = j - w; omega)
      rw [es, if_neg (by rw [zI_le (by omega) (by omega)]; omega), h.at (by omega) c.1, bnd_ok, h.at hw.1 hw.2, bnd_ok, if_pos (by rw [c.2]), show (1 : Int32) = zI 1 from rfl, zI_add, li_eq]
      have e := ih (j + 1) (by omega) (by omega) (fun x x0 x1 => by
        by_cases c5 : x = j
        · rw [c5]; exact c.2
        · exact hall x x0 (by omega)) (by omega)
      rw [show j + 1 - 1 = j by omega] at e
      exact e
    · have es : rnT a n (j - 1) (z, j - 1 - w) = (rnE (j - w) (a w) z, 0) := by
        unfold rnT
        rw [show j - 1 + 1 = j by omega, if_neg (fun q => c ⟨q.1, by rw [q.2, ej]⟩), ej, show (j - 1 - w + 1 : Int) = j - w by omega]
      rw [es]
      have key := m_rn_61 IH h hl ho hw ⟨h0, h1⟩
      by_cases c3 : j < n
      · have b1 := h.b j
        have b2 := h.b w
        rw [if_neg (by rw [zI_le (by omega) (by omega)]; omega), h.at (by omega) c3, bnd_ok, h.at hw.1 hw.2, bnd_ok, if_neg (by rw [zI_eq (by omega) (by omega)]; exact fun q => c ⟨c3, q⟩)]
        exact key
      · rw [if_pos (by rw [zI_le (by omega) (by omega)]; omega)]
        exact key
theorem m_rn_first {v n : Int} {a : Int → Int} {w : Int} {M : Mm} (k20 : Int32 → Mm → Rs Int32) (h : Mse M v n a) (hw : 0 ≤ w ∧ w < n) (k : Nat) : fn_Mo_formatRuns_31 k20 (zI v) (zI w) (k + 1) (zI w) M = fn_Mo_formatRuns_31 k20 (zI v) (zI w) k (zI (w + 1)) M := by
  have hn := h.n
  rw [fn_Mo_formatRuns_31, h.many, bnd_ok, if_neg (by rw [zI_le (by omega) (by omega)]; omega), h.at hw.1 hw.2, bnd_ok, h.at hw.1 hw.2, bnd_ok, if_pos rfl, show (1 : Int32) = zI 1 from rfl, zI_add, li_eq]
theorem m_rn_20 {v n : Int} {a : Int → Int} : ∀ (k : Nat) (i : Int) (z : LN) (M : Mm), Mse M v n a → IMl z.1 z.2 M → lnOk i z.1 → 0 ≤ i → i ≤ n → n - i < k → ∃ M1, fn_Mo_formatRuns_20 (zI v) k (zI i) M = some (.inl (zI (rnL a i n (z, 0)).1.1), M1) ∧ IMl (rnL a i n (z, 0)).1.1 (rnL a i n (z, 0)).1.2 M1 ∧ WrL M M1 := by
  intro k
  induction k with
  | zero => intros; omega
  | succ k ih =>
    intro i z M h hl ho h0 h1 h2
    have hn := h.n
    rw [fn_Mo_formatRuns_20, h.many, bnd_ok]
    by_cases c : n ≤ i
    · rw [if_pos (by rw [zI_le (by omega) (by omega)]; exact c), rnL_stop c]
      unfold fn_Mo_formatRuns_99
      rw [hl.1]
      exact ⟨M, rfl, hl, WrL.rf M⟩
    · have e := m_rn_31 (w := i) (fun i' z' M' a1 a2 a3 a4 a5 => ih i' z' M' a1 a2 a3 (by omega) a5 (by omega)) h hl ho ⟨h0, by omega⟩ 1999 (i + 1) (by omega) (by omega) (fun x x0 x1 => by rw [show x = i by omega]) (by omega)
      rw [show i + 1 - 1 = i by omega, show i - i = (0 : Int) by omega] at e
      rw [if_neg (by rw [zI_le (by omega) (by omega)]; exact c)]
      unfold fuel0
      rw [m_rn_first (k := 1999) _ h ⟨h0, by omega⟩]
      exact e
theorem St_formatRuns {p : Int} (hp : -2147483648 ≤ p ∧ p < 2147483648) : StepOK (fn_SA_formatRuns (zI p)) [(0, 1)] (fn_Mo_formatRuns (zI p)) := by
  refine StepLine (p := p) (fun n a z => (rnL a 0 n (z, 0)).1) (fun c M => ?_) (fun c M => ?_) (fun c n a M z hz h hl => ?_) (fun c n a M z hz h hl => ?_)
  · unfold fn_SA_formatRuns
    rw [SA_in_no hp c, bnd_ex]
  · unfold fn_Mo_formatRuns
    rw [mo_slot hp, bnd_ok, if_neg c, mo_checked (.inl rfl), bnd_ok, if_neg (by decide)]
    rfl
  · have hn := h.n
    have h' := h.to (M' := mset M 19 0 0) (mset_ne _ _ _ (by omega)) (mset_ne _ _ _ (by omega))
    obtain ⟨M1, e1, e2, e3⟩ := c_rn_19 21 0 z 0 _ h' hl ⟨Int.le_refl 0, Int.le_refl 0, .inl ⟨rfl, hz⟩⟩ (by omega) (by omega) (by omega)
    refine ⟨M1, ?_, e2, fun j hj => by rw [e3 j hj, mset_ne _ _ _ hj]⟩
    unfold fn_SA_formatRuns
    rw [SA_in c, bnd_ok, grd_ser (by omega), show fn_SB_setLength 0 M = some (.inl (), mset M 19 0 0) from grd_t rfl, bnd_ok]
    exact e1
  · have hn := h.n
    have h' := (h.set (k := 32) (by decide) 6 0).set (k := 32) (by decide) 12 0
    obtain ⟨M1, e1, e2, e3⟩ := m_rn_20 2000 0 z _ h' hl (.inl ⟨rfl, hz⟩) (by omega) (by omega) (by omega)
    refine ⟨M1, ?_, e2, e3⟩
    unfold fn_Mo_formatRuns fuel0
    rw [mo_slot hp, bnd_ok, if_pos c, mo_checked (.inr rfl), bnd_ok, if_pos (by decide), lm_eq]
    exact e1
