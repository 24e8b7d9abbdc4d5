/-! WHAT A CHANGE DOES, on either side -/
def ClE (k : Nat) (p x y : Int) (N : Int → Int) (A : Int → Int → Int) (n' : Int) (a' : Int → Int) (r : Int) : Prop := ∀ M, Cs N A M → ∃ M1, fn_St_apply k (zI p) (zI x) (zI y) M = some (.inl (zI r), M1) ∧ Ser M1 (p.toNat + 2) n' a' ∧ (∀ s, 0 ≤ s → s < 4 → s ≠ p → Ser M1 (s.toNat + 2) (N s) (A s)) ∧ (M1 1 5 = if k = 0 then M 1 5 + 1 else M 1 5) ∧ ∀ j, j = 0 ∨ 12 ≤ j → M1 j = M j
def MoE (k : Nat) (g : Mm → Rs Int32) (p : Int) (N : Int → Int) (A : Int → Int → Int) (n' : Int) (a' : Int → Int) (r : Int) : Prop := ∀ M, Ms N A M → ∃ M1, g M = some (.inl (zI r), M1) ∧ Mse M1 p n' a' ∧ (∀ s, 0 ≤ s → s < 4 → s ≠ p → Mse M1 s (N s) (A s)) ∧ (M1 33 84 = if k = 0 then M 33 84 + 1 else M 33 84) ∧ ∀ j, j ≠ 33 → j ≠ 38 → M1 j = M j
theorem ClE.of {k : Nat} {p x y : Int} {N : Int → Int} {A : Int → Int → Int} {n' : Int} {a' : Int → Int} {r : Int} (hk : k ≠ 0) (hp : 0 ≤ p ∧ p < 4) (h : ∀ M, Cs N A M → ∃ M1, fn_St_apply k (zI p) (zI x) (zI y) M = some (.inl (zI r), M1) ∧ Ser M1 (p.toNat + 2) n' a' ∧ ∀ j, j ≠ p.toNat + 2 → j ≠ p.toNat + 2 + 5 → j ≠ 6 → j ≠ 11 → M1 j = M j) : ClE k p x y N A n' a' r := by
  intro M H
  obtain ⟨M1, e1, e2, e3⟩ := h M H
  refine ⟨M1, e1, e2, fun s s0 s1 s2 => (H s s0 s1).to (e3 _ (by omega) (by omega) (by omega) (by omega)) (e3 _ (by omega) (by omega) (by omega) (by omega)), ?_, fun j hj => e3 j (by omega) (by omega) (by omega) (by omega)⟩
  rw [if_neg hk, e3 1 (by omega) (by omega) (by omega) (by omega)]
theorem MoE.of {k : Nat} {g : Mm → Rs Int32} {p : Int} {N : Int → Int} {A : Int → Int → Int} {n' : Int} {a' : Int → Int} {r : Int} (hk : k ≠ 0) (hp : 0 ≤ p ∧ p < 4) (h : ∀ M, Ms N A M → ∃ M1, g M = some (.inl (zI r), M1) ∧ Mse M1 p n' a' ∧ Fm p M M1) : MoE k g p N A n' a' r := by
  intro M K
  obtain ⟨M1, e1, e2, e3⟩ := h M K
  refine ⟨M1, e1, e2, fun s s0 s1 s2 => (K s s0 s1).oth s2 e3, ?_, e3.2⟩
  rw [if_neg hk, e3.ap hp]
theorem MoE.ret {k : Nat} {g : Mm → Rs Int32} {p : Int} {N : Int → Int} {A : Int → Int → Int} {n' : Int} {a' : Int → Int} {r : Int} (h : MoE k g p N A n' a' r) : MoE k (fun M => bnd (g M) (fun r M => some (.inl r, M))) p N A n' a' r := by
  intro M K
  obtain ⟨M1, e1, e2⟩ := h M K
  exact ⟨M1, by show bnd (g M) _ = _; rw [e1]; rfl, e2⟩
theorem ft_slot {k : Nat} {p x y : Int} {N : Int → Int} {A : Int → Int → Int} (h : ftF k p x y N A = 0) : 0 ≤ p ∧ p < 4 := by
  by_cases c : 0 ≤ p ∧ p < 4
  · exact c
  · unfold ftF at h
    rw [if_pos c] at h
    cases h
theorem ft_0 {p x y : Int} {N : Int → Int} {A : Int → Int → Int} (h : ftF 0 p x y N A = 0) : (-99 ≤ x ∧ x ≤ 99) ∧ ¬ N p = 20 := by
  have c := ft_slot h
  unfold ftF at h
  rw [if_neg (fun z => z c)] at h
  rw [if_pos (show 0 = 0 from rfl)] at h
  by_cases c1 : -99 ≤ x ∧ x ≤ 99
  · rw [if_neg (fun z => z c1)] at h
    by_cases c2 : N p = 20
    · rw [if_pos c2] at h
      cases h
    · exact ⟨c1, c2⟩
  · rw [if_pos c1] at h
    cases h
theorem ft_1 {p x y : Int} {N : Int → Int} {A : Int → Int → Int} (h : ftF 1 p x y N A = 0) : (0 ≤ x ∧ x < N p) ∧ (-99 ≤ y ∧ y ≤ 99) := by
  have c := ft_slot h
  unfold ftF at h
  rw [if_neg (fun z => z c)] at h
  rw [if_neg (show ¬ 1 = 0 by decide), if_pos (show 1 = 1 from rfl)] at h
  by_cases c1 : 0 ≤ x ∧ x < N p
  · rw [if_neg (fun z => z c1)] at h
    by_cases c2 : -99 ≤ y ∧ y ≤ 99
    · exact ⟨c1, c2⟩
    · rw [if_pos c2] at h
      cases h
  · rw [if_pos c1] at h
    cases h
theorem ft_2 {p x y : Int} {N : Int → Int} {A : Int → Int → Int} (h : ftF 2 p x y N A = 0) : 1 ≤ x ∧ x ≤ N p := by
  have c := ft_slot h
  unfold ftF at h
  rw [if_neg (fun z => z c)] at h
  rw [if_neg (show ¬ 2 = 0 by decide), if_neg (show ¬ 2 = 1 by decide), if_pos (show 2 = 2 from rfl)] at h
  by_cases c1 : 1 ≤ x ∧ x ≤ N p
  · exact c1
  · rw [if_neg c1] at h
    cases h
theorem ft_3 {p x y : Int} {N : Int → Int} {A : Int → Int → Int} (h : ftF 3 p x y N A = 0) : 0 ≤ x ∧ x < 4 := by
  have c := ft_slot h
  unfold ftF at h
  rw [if_neg (fun z => z c)] at h
  rw [if_neg (show ¬ 3 = 0 by decide), if_neg (show ¬ 3 = 1 by decide), if_neg (show ¬ 3 = 2 by decide), if_pos (show 3 = 3 from rfl)] at h
  by_cases c1 : 0 ≤ x ∧ x < 4
  · exact c1
  · rw [if_neg c1] at h
    cases h
theorem ft_5 {p x y : Int} {N : Int → Int} {A : Int → Int → Int} (h : ftF 5 p x y N A = 0) : (-99 ≤ x ∧ x ≤ 99) ∧ riB (A p) (N p) x = true := by
  have c := ft_slot h
  unfold ftF at h
  rw [if_neg (fun z => z c)] at h
  rw [if_neg (show ¬ 5 = 0 by decide), if_neg (show ¬ 5 = 1 by decide), if_neg (show ¬ 5 = 2 by decide), if_neg (show ¬ 5 = 3 by decide), if_neg (show ¬ 5 = 4 by decide), if_pos (show 5 = 5 from rfl)] at h
  by_cases c1 : -99 ≤ x ∧ x ≤ 99
  · rw [if_neg (fun z => z c1)] at h
    by_cases c2 : riB (A p) (N p) x = true
    · exact ⟨c1, c2⟩
    · rw [if_neg c2] at h
      cases h
  · rw [if_pos c1] at h
    cases h
theorem ft_6 {p x y : Int} {N : Int → Int} {A : Int → Int → Int} (h : ftF 6 p x y N A = 0) : 1 ≤ x ∧ x ≤ 9 := by
  have c := ft_slot h
  unfold ftF at h
  rw [if_neg (fun z => z c)] at h
  rw [if_neg (show ¬ 6 = 0 by decide), if_neg (show ¬ 6 = 1 by decide), if_neg (show ¬ 6 = 2 by decide), if_neg (show ¬ 6 = 3 by decide), if_neg (show ¬ 6 = 4 by decide), if_neg (show ¬ 6 = 5 by decide), if_pos (show 6 = 6 from rfl)] at h
  by_cases c1 : 1 ≤ x ∧ x ≤ 9
  · exact c1
  · rw [if_neg c1] at h
    cases h
theorem ft_7 {p x y : Int} {N : Int → Int} {A : Int → Int → Int} (h : ftF 7 p x y N A = 0) : ¬ N p = 0 ∧ stB (A p) (N p) = true := by
  have c := ft_slot h
  unfold ftF at h
  rw [if_neg (fun z => z c)] at h
  rw [if_neg (show ¬ 7 = 0 by decide), if_neg (show ¬ 7 = 1 by decide), if_neg (show ¬ 7 = 2 by decide), if_neg (show ¬ 7 = 3 by decide), if_neg (show ¬ 7 = 4 by decide), if_neg (show ¬ 7 = 5 by decide), if_neg (show ¬ 7 = 6 by decide), if_pos (show 7 = 7 from rfl)] at h
  by_cases c1 : N p = 0
  · rw [if_pos c1] at h
    cases h
  · rw [if_neg c1] at h
    by_cases c2 : stB (A p) (N p) = true
    · exact ⟨c1, c2⟩
    · rw [if_neg c2] at h
      cases h
theorem ft_8 {p x y : Int} {N : Int → Int} {A : Int → Int → Int} (h : ftF 8 p x y N A = 0) : (-99 ≤ x ∧ x ≤ 99) ∧ (-99 ≤ y ∧ y ≤ 99) ∧ x ≤ y := by
  have c := ft_slot h
  unfold ftF at h
  rw [if_neg (fun z => z c)] at h
  rw [if_neg (show ¬ 8 = 0 by decide), if_neg (show ¬ 8 = 1 by decide), if_neg (show ¬ 8 = 2 by decide), if_neg (show ¬ 8 = 3 by decide), if_neg (show ¬ 8 = 4 by decide), if_neg (show ¬ 8 = 5 by decide), if_neg (show ¬ 8 = 6 by decide), if_neg (show ¬ 8 = 7 by decide)] at h
  by_cases c1 : (-99 ≤ x ∧ x ≤ 99) ∧ (-99 ≤ y ∧ y ≤ 99) ∧ x ≤ y
  · exact c1
  · rw [if_neg c1] at h
    cases h
theorem E_0 {p x y : Int} {N : Int → Int} {A : Int → Int → Int} (hf : ftF 0 p x y N A = 0) : ClE 0 p x y N A (N p + 1) (upI (A p) (N p) x) (N p + 1) ∧ MoE 0 (fn_Mo_appends (zI p) (zI x)) p N A (N p + 1) (upI (A p) (N p) x) (N p + 1) := by
  have c := ft_slot hf
  have cc := ft_0 hf
  refine ⟨fun M H => ?_, fun M K => ?_⟩
  · have h := H p c.1 c.2
    have hn := h.n
    obtain ⟨M1, e1, e2, e3⟩ := h.add cc.1 (by omega)
    have e4 : Ser (mset M1 1 5 (M1 1 5 + zI 1)) (p.toNat + 2) (N p + 1) (upI (A p) (N p) x) := e2.to (mset_ne _ _ _ (by omega)) (mset_ne _ _ _ (by omega))
    refine ⟨mset M1 1 5 (M1 1 5 + zI 1), ?_, e4, fun s s0 s1 s2 => ((H s s0 s1).to (e3 _ (by omega) (by omega)) (e3 _ (by omega) (by omega))).to (mset_ne _ _ _ (by omega)) (mset_ne _ _ _ (by omega)), ?_, fun j hj => by rw [mset_ne _ _ _ (by omega), e3 j (by omega) (by omega)]⟩
    · unfold fn_St_apply
      rw [grd_lt (by decide), St_at_z c, bnd_ok, grd_ser (by omega)]
      rw [if_pos (show zz_sw 0 = 1 by decide), e1, bnd_ok, lm_eq, show (1 : Int32) = zI 1 from rfl, e4.size]
      rfl
    · rw [mset_at, if_pos rfl, e3 1 (by omega) (by omega)]
      rfl
  · have h := K p c.1 c.2
    have hn := h.n
    obtain ⟨ap, hap, -⟩ := zI_ex (M 33 84)
    obtain ⟨M1, e1, e2, e3, e4, e5⟩ := h.appends cc.1 (by omega) hap
    refine ⟨M1, e1, e2, fun s s0 s1 s2 => e3 s _ _ s2 (K s s0 s1), ?_, fun j j1 _ => e5 j j1⟩
    rw [if_pos rfl, e4, hap, show (1 : Int32) = zI 1 from rfl, zI_add]
theorem E_1 {p x y : Int} {N : Int → Int} {A : Int → Int → Int} (hf : ftF 1 p x y N A = 0) : ClE 1 p x y N A (N p) (upI (A p) x y) (A p x) ∧ MoE 1 (fn_Mo_sets (zI p) (zI x) (zI y)) p N A (N p) (upI (A p) x y) (A p x) := by
  have c := ft_slot hf
  have cc := ft_1 hf
  refine ⟨ClE.of (by decide) c (fun M H => ?_), MoE.of (by decide) c (fun M K => ?_)⟩
  · have h := H p c.1 c.2
    have hn := h.n
    unfold fn_St_apply
    rw [grd_lt (by decide), St_at_z c, bnd_ok, grd_ser (by omega)]
    rw [if_neg (show ¬ zz_sw 1 = 1 by decide), if_pos (show zz_sw 1 = 2 by decide)]
    refine ⟨_, ?_, h.put cc.1 cc.2, fun j j1 j2 _ _ => mset_ne _ _ _ j2⟩
    rw [h.replace cc.1]
    rfl
  · have h := K p c.1 c.2
    have hn := h.n
    exact h.sets cc.1 cc.2
theorem E_2 {p x y : Int} {N : Int → Int} {A : Int → Int → Int} (hf : ftF 2 p x y N A = 0) : ClE 2 p x y N A (N p - x) (fun i => A p (i + x)) (N p - x) ∧ MoE 2 (fn_Mo_cuts (zI p) (zI x)) p N A (N p - x) (fun i => A p (i + x)) (N p - x) := by
  have c := ft_slot hf
  have cc := ft_2 hf
  refine ⟨ClE.of (by decide) c (fun M H => ?_), MoE.of (by decide) c (fun M K => ?_)⟩
  · have h := H p c.1 c.2
    have hn := h.n
    unfold fn_St_apply
    rw [grd_lt (by decide), St_at_z c, bnd_ok, grd_ser (by omega)]
    rw [if_neg (show ¬ zz_sw 2 = 1 by decide), if_neg (show ¬ zz_sw 2 = 2 by decide), if_pos (show zz_sw 2 = 3 by decide)]
    obtain ⟨M1, e1, e2, e3⟩ := h.drop cc
    refine ⟨M1, ?_, e2, fun j j1 j2 _ _ => e3 j j1 j2⟩
    rw [e1, bnd_ok, e2.size]
    rfl
  · have h := K p c.1 c.2
    have hn := h.n
    exact h.cuts cc
theorem E_3 {p x y : Int} {N : Int → Int} {A : Int → Int → Int} (hf : ftF 3 p x y N A = 0) : ClE 3 p x y N A (N x) (A x) (N x) ∧ MoE 3 (fn_Mo_copies (zI p) (zI x)) p N A (N x) (A x) (N x) := by
  have c := ft_slot hf
  have cc := ft_3 hf
  refine ⟨ClE.of (by decide) c (fun M H => ?_), MoE.of (by decide) c (fun M K => ?_)⟩
  · have h := H p c.1 c.2
    have hn := h.n
    unfold fn_St_apply
    rw [grd_lt (by decide), St_at_z c, bnd_ok, grd_ser (by omega)]
    rw [if_neg (show ¬ zz_sw 3 = 1 by decide), if_neg (show ¬ zz_sw 3 = 2 by decide), if_neg (show ¬ zz_sw 3 = 3 by decide), if_pos (show zz_sw 3 = 4 by decide)]
    have h2 := H x cc.1 cc.2
    obtain ⟨M1, e1, e2, e3⟩ := h2.become (v := p.toNat + 2) (by omega)
    refine ⟨M1, ?_, e2, fun j j1 j2 _ _ => e3 j j1 j2⟩
    rw [St_at_z cc, bnd_ok, grd_ser (by omega), e1, bnd_ok, e2.size]
    rfl
  · have h := K p c.1 c.2
    have hn := h.n
    exact (K x cc.1 cc.2).copies c
theorem E_4 {p x y : Int} {N : Int → Int} {A : Int → Int → Int} (hf : ftF 4 p x y N A = 0) : ClE 4 p x y N A (N p) (fun i => A p (N p - 1 - i)) (chF (A p) (fun i => A p (N p - 1 - i)) 0 (N p) 0) ∧ MoE 4 (fn_Mo_turns (zI p)) p N A (N p) (fun i => A p (N p - 1 - i)) (chF (A p) (fun i => A p (N p - 1 - i)) 0 (N p) 0) := by
  have c := ft_slot hf
  refine ⟨ClE.of (by decide) c (fun M H => ?_), MoE.of (by decide) c (fun M K => ?_)⟩
  · have h := H p c.1 c.2
    have hn := h.n
    unfold fn_St_apply
    rw [grd_lt (by decide), St_at_z c, bnd_ok, grd_ser (by omega)]
    rw [if_neg (show ¬ zz_sw 4 = 1 by decide), if_neg (show ¬ zz_sw 4 = 2 by decide), if_neg (show ¬ zz_sw 4 = 3 by decide), if_neg (show ¬ zz_sw 4 = 4 by decide), if_neg (show ¬ zz_sw 4 = 5 by decide), if_neg (show ¬ zz_sw 4 = 6 by decide), if_neg (show ¬ zz_sw 4 = 7 by decide), if_neg (show ¬ zz_sw 4 = 8 by decide), if_pos (show zz_sw 4 = 9 by decide)]
    obtain ⟨M1, e1, e2, e3⟩ := h.turn
    refine ⟨M1, ?_, e2, fun j j1 j2 _ _ => e3 j j1 j2⟩
    rw [e1, tn2_ch hn.1 hn.2]
    rfl
  · have h := K p c.1 c.2
    have hn := h.n
    exact h.turns
theorem E_5 {p x y : Int} {N : Int → Int} {A : Int → Int → Int} (hf : ftF 5 p x y N A = 0) : ClE 5 p x y N A (N p) (puA (A p) (fun i => A p i + x) (N p)) (sumF (puA (A p) (fun i => A p i + x) (N p)) 0 (N p) 0) ∧ MoE 5 (fn_Mo_shifts (zI p) (zI x)) p N A (N p) (puA (A p) (fun i => A p i + x) (N p)) (sumF (puA (A p) (fun i => A p i + x) (N p)) 0 (N p) 0) := by
  have c := ft_slot hf
  have cc := ft_5 hf
  have cr : ∀ i, 0 ≤ i → i < N p → -99 ≤ A p i + x ∧ A p i + x ≤ 99 := fun i i0 i1 => of_decide_eq_true (al_iff.mp cc.2 i i0 i1)
  refine ⟨ClE.of (by decide) c (fun M H => ?_), MoE.of (by decide) c (fun M K => ?_)⟩
  · have h := H p c.1 c.2
    have hn := h.n
    unfold fn_St_apply
    rw [grd_lt (by decide), St_at_z c, bnd_ok, grd_ser (by omega)]
    rw [if_neg (show ¬ zz_sw 5 = 1 by decide), if_neg (show ¬ zz_sw 5 = 2 by decide), if_neg (show ¬ zz_sw 5 = 3 by decide), if_neg (show ¬ zz_sw 5 = 4 by decide), if_pos (show zz_sw 5 = 5 by decide)]
    obtain ⟨M1, e1, e2, e3⟩ := h.rise cr
    refine ⟨M1, ?_, e2, fun j j1 j2 _ _ => e3 j j1 j2⟩
    rw [e1]
    rfl
  · have h := K p c.1 c.2
    have hn := h.n
    exact h.shifts cr
theorem E_6 {p x y : Int} {N : Int → Int} {A : Int → Int → Int} (hf : ftF 6 p x y N A = 0) : ClE 6 p x y N A (N p) (puA (A p) (mnF (A p) (N p) x) (N p)) (chF (A p) (mnF (A p) (N p) x) 0 (N p) 0) ∧ MoE 6 (fn_Mo_smooths (zI p) (zI x)) p N A (N p) (puA (A p) (mnF (A p) (N p) x) (N p)) (chF (A p) (mnF (A p) (N p) x) 0 (N p) 0) := by
  have c := ft_slot hf
  have cc := ft_6 hf
  refine ⟨ClE.of (by decide) c (fun M H => ?_), MoE.of (by decide) c (fun M K => ?_)⟩
  · have h := H p c.1 c.2
    have hn := h.n
    unfold fn_St_apply
    rw [grd_lt (by decide), St_at_z c, bnd_ok, grd_ser (by omega)]
    rw [if_neg (show ¬ zz_sw 6 = 1 by decide), if_neg (show ¬ zz_sw 6 = 2 by decide), if_neg (show ¬ zz_sw 6 = 3 by decide), if_neg (show ¬ zz_sw 6 = 4 by decide), if_neg (show ¬ zz_sw 6 = 5 by decide), if_pos (show zz_sw 6 = 6 by decide)]
    obtain ⟨M1, e1, e2, e3⟩ := h.flat (by omega) cc
    refine ⟨M1, ?_, e2, e3⟩
    rw [e1]
    rfl
  · have h := K p c.1 c.2
    have hn := h.n
    exact h.smooths cc
theorem E_7 {p x y : Int} {N : Int → Int} {A : Int → Int → Int} (hf : ftF 7 p x y N A = 0) : ClE 7 p x y N A (N p - 1) (puA (A p) (spF (A p)) (N p - 1)) (N p - 1) ∧ MoE 7 (fn_Mo_steps (zI p)) p N A (N p - 1) (puA (A p) (spF (A p)) (N p - 1)) (N p - 1) := by
  have c := ft_slot hf
  have cc := ft_7 hf
  have cr : ∀ i, 0 ≤ i → i < N p - 1 → -99 ≤ spF (A p) i ∧ spF (A p) i ≤ 99 := fun i i0 i1 => by
    have := of_decide_eq_true (al_iff.mp cc.2 (i + 1) (by omega) (by omega))
    rw [show i + 1 - 1 = i by omega] at this
    exact this
  refine ⟨ClE.of (by decide) c (fun M H => ?_), MoE.of (by decide) c (fun M K => ?_)⟩
  · have h := H p c.1 c.2
    have hn := h.n
    unfold fn_St_apply
    rw [grd_lt (by decide), St_at_z c, bnd_ok, grd_ser (by omega)]
    rw [if_neg (show ¬ zz_sw 7 = 1 by decide), if_neg (show ¬ zz_sw 7 = 2 by decide), if_neg (show ¬ zz_sw 7 = 3 by decide), if_neg (show ¬ zz_sw 7 = 4 by decide), if_neg (show ¬ zz_sw 7 = 5 by decide), if_neg (show ¬ zz_sw 7 = 6 by decide), if_pos (show zz_sw 7 = 7 by decide)]
    obtain ⟨M1, e1, e2, e3⟩ := h.steps cr (by omega)
    refine ⟨M1, ?_, e2, fun j j1 j2 _ _ => e3 j j1 j2⟩
    rw [e1]
    rfl
  · have h := K p c.1 c.2
    have hn := h.n
    exact h.steps cr (by omega)
theorem E_8 {p x y : Int} {N : Int → Int} {A : Int → Int → Int} (hf : ftF 8 p x y N A = 0) : ClE 8 p x y N A (N p) (puA (A p) (clF (A p) x y) (N p)) (chF (A p) (clF (A p) x y) 0 (N p) 0) ∧ MoE 8 (fn_Mo_clips (zI p) (zI x) (zI y)) p N A (N p) (puA (A p) (clF (A p) x y) (N p)) (chF (A p) (clF (A p) x y) 0 (N p) 0) := by
  have c := ft_slot hf
  have cc := ft_8 hf
  refine ⟨ClE.of (by decide) c (fun M H => ?_), MoE.of (by decide) c (fun M K => ?_)⟩
  · have h := H p c.1 c.2
    have hn := h.n
    unfold fn_St_apply
    rw [grd_lt (by decide), St_at_z c, bnd_ok, grd_ser (by omega)]
    rw [if_neg (show ¬ zz_sw 8 = 1 by decide), if_neg (show ¬ zz_sw 8 = 2 by decide), if_neg (show ¬ zz_sw 8 = 3 by decide), if_neg (show ¬ zz_sw 8 = 4 by decide), if_neg (show ¬ zz_sw 8 = 5 by decide), if_neg (show ¬ zz_sw 8 = 6 by decide), if_neg (show ¬ zz_sw 8 = 7 by decide), if_pos (show zz_sw 8 = 8 by decide)]
    obtain ⟨M1, e1, e2, e3⟩ := h.bound cc.1 cc.2.1
    refine ⟨M1, ?_, e2, fun j j1 j2 _ _ => e3 j j1 j2⟩
    unfold fn_St_apply_153
    rw [e1]
    rfl
  · have h := K p c.1 c.2
    have hn := h.n
    exact h.clips ⟨cc.1.1, cc.2.2⟩ cc.2.1.2
/-! all kinds -/
theorem F_c {N : Int → Int} {A : Int → Int → Int} {M : Mm} {k : Nat} (hk : k < 9) {p x y : Int} (hp : -2147483648 ≤ p ∧ p < 2147483648) (hx : -2147483648 ≤ x ∧ x < 2147483648) (hy : -2147483648 ≤ y ∧ y < 2147483648) (H : Cs N A M) : fn_St_faultOf k (zI p) (zI x) (zI y) M = some (.inl (ftF k p x y N A), M) := by
  rcases (by omega : k = 0 ∨ k = 1 ∨ k = 2 ∨ k = 3 ∨ k = 4 ∨ k = 5 ∨ k = 6 ∨ k = 7 ∨ k = 8) with rfl | rfl | rfl | rfl | rfl | rfl | rfl | rfl | rfl
  · exact F_c0 hp hx hy H
  · exact F_c1 hp hx hy H
  · exact F_c2 hp hx hy H
  · exact F_c3 hp hx hy H
  · exact F_c4 hp hx hy H
  · exact F_c5 hp hx hy H
  · exact F_c6 hp hx hy H
  · exact F_c7 hp hx hy H
  · exact F_c8 hp hx hy H
theorem whF_3 {p x y : Int} {N : Int → Int} {A : Int → Int → Int} : whF 3 p x y N A = if 0 ≤ p ∧ p < 4 then (if 0 ≤ x ∧ x < 4 then 0 else 1) else 1 := by
  unfold whF ftF
  by_cases c : 0 ≤ p ∧ p < 4
  · by_cases c2 : 0 ≤ x ∧ x < 4
    · simp (disch := omega) only [zlit, zI_add, zI_sub, zI_mul, zI_neg, zI_lt, zI_le, zI_eq, zI_cl, zI_max, zI_min, zI_abs, bnd_ok, bnd_ex, lm_eq, li_eq, grd_inb, grd_ser, grd_z, grd_lt, if_true, if_false, if_pos, if_neg]
      rfl
    · simp (disch := omega) only [zlit, zI_add, zI_sub, zI_mul, zI_neg, zI_lt, zI_le, zI_eq, zI_cl, zI_max, zI_min, zI_abs, bnd_ok, bnd_ex, lm_eq, li_eq, grd_inb, grd_ser, grd_z, grd_lt, if_true, if_false, if_pos, if_neg]
      rfl
  · simp (disch := omega) only [zlit, zI_add, zI_sub, zI_mul, zI_neg, zI_lt, zI_le, zI_eq, zI_cl, zI_max, zI_min, zI_abs, bnd_ok, bnd_ex, lm_eq, li_eq, grd_inb, grd_ser, grd_z, grd_lt, if_true, if_false, if_pos, if_neg]
    rfl
theorem whF_4 {p x y : Int} {N : Int → Int} {A : Int → Int → Int} : whF 4 p x y N A = if 0 ≤ p ∧ p < 4 then 0 else 1 := by
  unfold whF ftF
  by_cases c : 0 ≤ p ∧ p < 4
  · simp (disch := omega) only [zlit, zI_add, zI_sub, zI_mul, zI_neg, zI_lt, zI_le, zI_eq, zI_cl, zI_max, zI_min, zI_abs, bnd_ok, bnd_ex, lm_eq, li_eq, grd_inb, grd_ser, grd_z, grd_lt, if_true, if_false, if_pos, if_neg]
    rfl
  · simp (disch := omega) only [zlit, zI_add, zI_sub, zI_mul, zI_neg, zI_lt, zI_le, zI_eq, zI_cl, zI_max, zI_min, zI_abs, bnd_ok, bnd_ex, lm_eq, li_eq, grd_inb, grd_ser, grd_z, grd_lt, if_true, if_false, if_pos, if_neg]
    rfl
theorem F_m {N : Int → Int} {A : Int → Int → Int} {M : Mm} {k : Nat} (hk : k < 9) {p x y : Int} (hp : -2147483648 ≤ p ∧ p < 2147483648) (hx : -2147483648 ≤ x ∧ x < 2147483648) (hy : -2147483648 ≤ y ∧ y < 2147483648) (K : Ms N A M) : fn_Mo_why (zI k) (zI p) (zI x) (zI y) M = some (.inl (zI (whF k p x y N A)), M) := by
  rcases (by omega : k = 0 ∨ k = 1 ∨ k = 2 ∨ k = 3 ∨ k = 4 ∨ k = 5 ∨ k = 6 ∨ k = 7 ∨ k = 8) with rfl | rfl | rfl | rfl | rfl | rfl | rfl | rfl | rfl
  · unfold fn_Mo_why
    rw [show zI ((0 : Nat) : Int) = zI 0 from rfl, if_pos (show zI 0 = 0 from rfl), F_m0 hp hx hy K]
    rfl
  · unfold fn_Mo_why
    rw [show zI ((1 : Nat) : Int) = zI 1 from rfl, if_neg (show ¬ zI 1 = 0 by decide), if_pos (show zI 1 = 1 from rfl), F_m1 hp hx hy K]
    rfl
  · unfold fn_Mo_why
    rw [show zI ((2 : Nat) : Int) = zI 2 from rfl, if_neg (show ¬ zI 2 = 0 by decide), if_neg (show ¬ zI 2 = 1 by decide), if_pos (show zI 2 = 2 from rfl), F_m2 hp hx hy K]
    rfl
  · unfold fn_Mo_why
    rw [show zI ((3 : Nat) : Int) = zI 3 from rfl, if_neg (show ¬ zI 3 = 0 by decide), if_neg (show ¬ zI 3 = 1 by decide), if_neg (show ¬ zI 3 = 2 by decide), if_pos (show zI 3 = 3 from rfl), whF_3]
    by_cases c : 0 ≤ p ∧ p < 4
    · by_cases c2 : 0 ≤ x ∧ x < 4
      · simp (disch := omega) only [zlit, zI_add, zI_sub, zI_mul, zI_neg, zI_lt, zI_le, zI_eq, zI_cl, zI_max, zI_min, zI_abs, bnd_ok, bnd_ex, lm_eq, li_eq, grd_inb, grd_ser, grd_z, grd_lt, if_true, if_false, if_pos, if_neg, mo_slot]
      · simp (disch := omega) only [zlit, zI_add, zI_sub, zI_mul, zI_neg, zI_lt, zI_le, zI_eq, zI_cl, zI_max, zI_min, zI_abs, bnd_ok, bnd_ex, lm_eq, li_eq, grd_inb, grd_ser, grd_z, grd_lt, if_true, if_false, if_pos, if_neg, mo_slot]
    · simp (disch := omega) only [zlit, zI_add, zI_sub, zI_mul, zI_neg, zI_lt, zI_le, zI_eq, zI_cl, zI_max, zI_min, zI_abs, bnd_ok, bnd_ex, lm_eq, li_eq, grd_inb, grd_ser, grd_z, grd_lt, if_true, if_false, if_pos, if_neg, mo_slot]
  · unfold fn_Mo_why
    rw [show zI ((4 : Nat) : Int) = zI 4 from rfl, if_neg (show ¬ zI 4 = 0 by decide), if_neg (show ¬ zI 4 = 1 by decide), if_neg (show ¬ zI 4 = 2 by decide), if_neg (show ¬ zI 4 = 3 by decide), if_pos (show zI 4 = 4 from rfl), whF_4]
    by_cases c : 0 ≤ p ∧ p < 4
    · simp (disch := omega) only [zlit, zI_add, zI_sub, zI_mul, zI_neg, zI_lt, zI_le, zI_eq, zI_cl, zI_max, zI_min, zI_abs, bnd_ok, bnd_ex, lm_eq, li_eq, grd_inb, grd_ser, grd_z, grd_lt, if_true, if_false, if_pos, if_neg, mo_slot]
    · simp (disch := omega) only [zlit, zI_add, zI_sub, zI_mul, zI_neg, zI_lt, zI_le, zI_eq, zI_cl, zI_max, zI_min, zI_abs, bnd_ok, bnd_ex, lm_eq, li_eq, grd_inb, grd_ser, grd_z, grd_lt, if_true, if_false, if_pos, if_neg, mo_slot]
  · unfold fn_Mo_why
    rw [show zI ((5 : Nat) : Int) = zI 5 from rfl, if_neg (show ¬ zI 5 = 0 by decide), if_neg (show ¬ zI 5 = 1 by decide), if_neg (show ¬ zI 5 = 2 by decide), if_neg (show ¬ zI 5 = 3 by decide), if_neg (show ¬ zI 5 = 4 by decide), if_pos (show zI 5 = 5 from rfl), F_m5 hp hx hy K]
    rfl
  · unfold fn_Mo_why
    rw [show zI ((6 : Nat) : Int) = zI 6 from rfl, if_neg (show ¬ zI 6 = 0 by decide), if_neg (show ¬ zI 6 = 1 by decide), if_neg (show ¬ zI 6 = 2 by decide), if_neg (show ¬ zI 6 = 3 by decide), if_neg (show ¬ zI 6 = 4 by decide), if_neg (show ¬ zI 6 = 5 by decide), if_pos (show zI 6 = 6 from rfl), F_m6 hp hx hy K]
    rfl
  · unfold fn_Mo_why
    rw [show zI ((7 : Nat) : Int) = zI 7 from rfl, if_neg (show ¬ zI 7 = 0 by decide), if_neg (show ¬ zI 7 = 1 by decide), if_neg (show ¬ zI 7 = 2 by decide), if_neg (show ¬ zI 7 = 3 by decide), if_neg (show ¬ zI 7 = 4 by decide), if_neg (show ¬ zI 7 = 5 by decide), if_neg (show ¬ zI 7 = 6 by decide), if_pos (show zI 7 = 7 from rfl), F_m7 hp hx hy K]
    rfl
  · unfold fn_Mo_why
    rw [show zI ((8 : Nat) : Int) = zI 8 from rfl, if_neg (show ¬ zI 8 = 0 by decide), if_neg (show ¬ zI 8 = 1 by decide), if_neg (show ¬ zI 8 = 2 by decide), if_neg (show ¬ zI 8 = 3 by decide), if_neg (show ¬ zI 8 = 4 by decide), if_neg (show ¬ zI 8 = 5 by decide), if_neg (show ¬ zI 8 = 6 by decide), if_neg (show ¬ zI 8 = 7 by decide), F_m8 hp hx hy K]
    rfl
theorem E_all {k : Nat} (hk : k < 9) {p x y : Int} {N : Int → Int} {A : Int → Int → Int} (hf : ftF k p x y N A = 0) : ∃ n' a' r, ClE k p x y N A n' a' r ∧ MoE k (fn_Mo_does (zI k) (zI p) (zI x) (zI y)) p N A n' a' r := by
  rcases (by omega : k = 0 ∨ k = 1 ∨ k = 2 ∨ k = 3 ∨ k = 4 ∨ k = 5 ∨ k = 6 ∨ k = 7 ∨ k = 8) with rfl | rfl | rfl | rfl | rfl | rfl | rfl | rfl | rfl
  · have e := E_0 (x := x) (y := y) hf
    refine ⟨_, _, _, e.1, ?_⟩
    have e2 := e.2.ret
    intro M K
    have e3 := e2 M K
    unfold fn_Mo_does
    rw [show zI ((0 : Nat) : Int) = zI 0 from rfl, if_pos (show zI 0 = 0 from rfl)]
    exact e3
  · have e := E_1 (x := x) (y := y) hf
    refine ⟨_, _, _, e.1, ?_⟩
    have e2 := e.2.ret
    intro M K
    have e3 := e2 M K
    unfold fn_Mo_does
    rw [show zI ((1 : Nat) : Int) = zI 1 from rfl, if_neg (show ¬ zI 1 = 0 by decide), if_pos (show zI 1 = 1 from rfl)]
    exact e3
  · have e := E_2 (x := x) (y := y) hf
    refine ⟨_, _, _, e.1, ?_⟩
    have e2 := e.2.ret
    intro M K
    have e3 := e2 M K
    unfold fn_Mo_does
    rw [show zI ((2 : Nat) : Int) = zI 2 from rfl, if_neg (show ¬ zI 2 = 0 by decide), if_neg (show ¬ zI 2 = 1 by decide), if_pos (show zI 2 = 2 from rfl)]
    exact e3
  · have e := E_3 (x := x) (y := y) hf
    refine ⟨_, _, _, e.1, ?_⟩
    have e2 := e.2.ret
    intro M K
    have e3 := e2 M K
    unfold fn_Mo_does
    rw [show zI ((3 : Nat) : Int) = zI 3 from rfl, if_neg (show ¬ zI 3 = 0 by decide), if_neg (show ¬ zI 3 = 1 by decide), if_neg (show ¬ zI 3 = 2 by decide), if_pos (show zI 3 = 3 from rfl)]
    exact e3
  · have e := E_4 (x := x) (y := y) hf
    refine ⟨_, _, _, e.1, ?_⟩
    have e2 := e.2.ret
    intro M K
    have e3 := e2 M K
    unfold fn_Mo_does
    rw [show zI ((4 : Nat) : Int) = zI 4 from rfl, if_neg (show ¬ zI 4 = 0 by decide), if_neg (show ¬ zI 4 = 1 by decide), if_neg (show ¬ zI 4 = 2 by decide), if_neg (show ¬ zI 4 = 3 by decide), if_pos (show zI 4 = 4 from rfl)]
    exact e3
  · have e := E_5 (x := x) (y := y) hf
    refine ⟨_, _, _, e.1, ?_⟩
    have e2 := e.2.ret
    intro M K
    have e3 := e2 M K
    unfold fn_Mo_does
    rw [show zI ((5 : Nat) : Int) = zI 5 from rfl, if_neg (show ¬ zI 5 = 0 by decide), if_neg (show ¬ zI 5 = 1 by decide), if_neg (show ¬ zI 5 = 2 by decide), if_neg (show ¬ zI 5 = 3 by decide), if_neg (show ¬ zI 5 = 4 by decide), if_pos (show zI 5 = 5 from rfl)]
    exact e3
  · have e := E_6 (x := x) (y := y) hf
    refine ⟨_, _, _, e.1, ?_⟩
    have e2 := e.2.ret
    intro M K
    have e3 := e2 M K
    unfold fn_Mo_does
    rw [show zI ((6 : Nat) : Int) = zI 6 from rfl, if_neg (show ¬ zI 6 = 0 by decide), if_neg (show ¬ zI 6 = 1 by decide), if_neg (show ¬ zI 6 = 2 by decide), if_neg (show ¬ zI 6 = 3 by decide), if_neg (show ¬ zI 6 = 4 by decide), if_neg (show ¬ zI 6 = 5 by decide), if_pos (show zI 6 = 6 from rfl)]
    exact e3
  · have e := E_7 (x := x) (y := y) hf
    refine ⟨_, _, _, e.1, ?_⟩
    have e2 := e.2.ret
    intro M K
    have e3 := e2 M K
    unfold fn_Mo_does
    rw [show zI ((7 : Nat) : Int) = zI 7 from rfl, if_neg (show ¬ zI 7 = 0 by decide), if_neg (show ¬ zI 7 = 1 by decide), if_neg (show ¬ zI 7 = 2 by decide), if_neg (show ¬ zI 7 = 3 by decide), if_neg (show ¬ zI 7 = 4 by decide), if_neg (show ¬ zI 7 = 5 by decide), if_neg (show ¬ zI 7 = 6 by decide), if_pos (show zI 7 = 7 from rfl)]
    exact e3
  · have e := E_8 (x := x) (y := y) hf
    refine ⟨_, _, _, e.1, ?_⟩
    have e2 := e.2.ret
    intro M K
    have e3 := e2 M K
    unfold fn_Mo_does
    rw [show zI ((8 : Nat) : Int) = zI 8 from rfl, if_neg (show ¬ zI 8 = 0 by decide), if_neg (show ¬ zI 8 = 1 by decide), if_neg (show ¬ zI 8 = 2 by decide), if_neg (show ¬ zI 8 = 3 by decide), if_neg (show ¬ zI 8 = 4 by decide), if_neg (show ¬ zI 8 = 5 by decide), if_neg (show ¬ zI 8 = 6 by decide), if_neg (show ¬ zI 8 = 7 by decide)]
    exact e3
