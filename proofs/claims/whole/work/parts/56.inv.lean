/-! THE INVARIANT between class and model, and a step of the law -/
def ICs (N : Int → Int) (A : Int → Int → Int) (ap : Int) (M : Mm) : Prop := Cs N A M ∧ M 1 5 = zI ap
def IMs (N : Int → Int) (A : Int → Int → Int) (ap : Int) (M : Mm) : Prop := Ms N A M ∧ M 33 84 = zI ap
def ICv (sv : Int) (S : SNP) (M : Mm) : Prop := (sv = 0 ∨ sv = 1) ∧ M 0 3 = zI sv ∧ (sv = 1 → CRw M 14 0 S ∧ SnS S)
def IMv (sv : Int) (S : SNP) (M : Mm) : Prop := M 32 10 = zI sv ∧ (sv = 1 → MRw M 35 0 S)
def ICe (ep fl : Int) (M : Mm) : Prop := (-1 ≤ ep ∧ ep ≤ 60) ∧ (-1 ≤ fl ∧ fl ≤ 60) ∧ M 0 6 = zI ep ∧ M 0 7 = zI fl
def IMe (ep fl : Int) (M : Mm) : Prop := M 32 8 = zI ep ∧ M 32 9 = zI fl
def ICt (cnt : Int) (tx : Int → Int) (M : Mm) : Prop := (0 ≤ cnt ∧ cnt ≤ 60) ∧ M 16 1 = zI cnt ∧ (∀ i, 0 ≤ i → i < cnt → M 17 i.toNat = zI (tx i)) ∧ ∀ i, 32 ≤ tx i ∧ tx i ≤ 126
def IMt (cnt : Int) (tx : Int → Int) (M : Mm) : Prop := M 32 18 = zI cnt ∧ ∀ i, 0 ≤ i → i < cnt → M 40 i.toNat = zI (tx i)
def ICl (ln : Int) (lc : Int → Int) (M : Mm) : Prop := (0 ≤ ln ∧ ln ≤ 139) ∧ M 19 0 = zI ln ∧ (∀ i, 0 ≤ i → i < ln → M 19 (1 + i.toNat) = zI (lc i)) ∧ ∀ i, 0 ≤ lc i ∧ lc i < 128
def IMl (ln : Int) (lc : Int → Int) (M : Mm) : Prop := M 32 12 = zI ln ∧ ∀ i, 0 ≤ i → i < ln → M 39 i.toNat = zI (lc i)
theorem ICs.to {N : Int → Int} {A : Int → Int → Int} {ap : Int} {M M' : Mm} (h : ICs N A ap M) (he : ∀ j, 1 ≤ j → j ≤ 11 → M' j = M j) : ICs N A ap M' := ⟨fun s s0 s1 => (h.1 s s0 s1).to (he _ (by omega) (by omega)) (he _ (by omega) (by omega)), by rw [he 1 (by omega) (by omega)]; exact h.2⟩
theorem IMs.to {N : Int → Int} {A : Int → Int → Int} {ap : Int} {M M' : Mm} (h : IMs N A ap M) (he : M' 33 = M 33) : IMs N A ap M' := ⟨fun s s0 s1 => (h.1 s s0 s1).to he, by rw [he]; exact h.2⟩
theorem ICv.to {sv : Int} {S : SNP} {M M' : Mm} (h : ICv sv S M) (h0 : M' 0 3 = M 0 3) (h1 : M' 14 = M 14) : ICv sv S M' := ⟨h.1, by rw [h0]; exact h.2.1, fun e => ⟨CRow.to (h.2.2 e).1 (h.2.2 e).2 (by omega) (fun i _ _ => by rw [h1]), (h.2.2 e).2⟩⟩
theorem IMv.to {sv : Int} {S : SNP} {M M' : Mm} (h : IMv sv S M) (hs : sv = 1 → SnS S) (h0 : M' 32 10 = M 32 10) (h1 : M' 35 = M 35) : IMv sv S M' := ⟨by rw [h0]; exact h.1, fun e => MRow.to (h.2 e) (hs e) (by omega) (fun i _ _ => by rw [h1])⟩
theorem IMh.to {d : Int} {H : Int → SNP} {M M' : Mm} (h : IMh d H M) (hs : ∀ e, 0 ≤ e → e < d → SnS (H e)) (h0 : M' 32 7 = M 32 7) (h1 : M' 36 = M 36) : IMh d H M' := ⟨by rw [h0]; exact h.1, fun e e0 e1 => MRow.to (h.2 e e0 e1) (hs e e0 e1) (by omega) (fun i _ _ => by rw [h1])⟩
theorem ICe.to {ep fl : Int} {M M' : Mm} (h : ICe ep fl M) (h0 : M' 0 6 = M 0 6) (h1 : M' 0 7 = M 0 7) : ICe ep fl M' := ⟨h.1, h.2.1, by rw [h0]; exact h.2.2.1, by rw [h1]; exact h.2.2.2⟩
theorem IMe.to {ep fl : Int} {M M' : Mm} (h : IMe ep fl M) (h0 : M' 32 8 = M 32 8) (h1 : M' 32 9 = M 32 9) : IMe ep fl M' := ⟨by rw [h0]; exact h.1, by rw [h1]; exact h.2⟩
theorem ICt.to {cnt : Int} {tx : Int → Int} {M M' : Mm} (h : ICt cnt tx M) (h0 : M' 16 1 = M 16 1) (h1 : M' 17 = M 17) : ICt cnt tx M' := ⟨h.1, by rw [h0]; exact h.2.1, fun i i0 i1 => by rw [h1]; exact h.2.2.1 i i0 i1, h.2.2.2⟩
theorem IMt.to {cnt : Int} {tx : Int → Int} {M M' : Mm} (h : IMt cnt tx M) (h0 : M' 32 18 = M 32 18) (h1 : M' 40 = M 40) : IMt cnt tx M' := ⟨by rw [h0]; exact h.1, fun i i0 i1 => by rw [h1]; exact h.2 i i0 i1⟩
theorem ICl.to {ln : Int} {lc : Int → Int} {M M' : Mm} (h : ICl ln lc M) (h1 : M' 19 = M 19) : ICl ln lc M' := ⟨h.1, by rw [h1]; exact h.2.1, fun i i0 i1 => by rw [h1]; exact h.2.2.1 i i0 i1, h.2.2.2⟩
theorem IMl.to {ln : Int} {lc : Int → Int} {M M' : Mm} (h : IMl ln lc M) (h0 : M' 32 12 = M 32 12) (h1 : M' 39 = M 39) : IMl ln lc M' := ⟨by rw [h0]; exact h.1, fun i i0 i1 => by rw [h1]; exact h.2 i i0 i1⟩
def INV (M : Mm) : Prop := ∃ (N : Int → Int) (A : Int → Int → Int) (ap d nx : Int) (H : Int → SNP) (sv : Int) (S : SNP) (ep fl cnt : Int) (tx : Int → Int) (ln : Int) (lc : Int → Int),
  (ICs N A ap M ∧ ICh d nx H M ∧ ICv sv S M ∧ ICe ep fl M ∧ ICt cnt tx M ∧ ICl ln lc M) ∧ (IMs N A ap M ∧ IMh d H M ∧ IMv sv S M ∧ IMe ep fl M ∧ IMt cnt tx M ∧ IMl ln lc M)
theorem INV.off {M M' : Mm} (h : INV M) (o : Off M M') : INV M' := by
  obtain ⟨N, A, ap, d, nx, H, sv, S, ep, fl, cnt, tx, ln, lc, ⟨c1, c2, c3, c4, c5, c6⟩, m1, m2, m3, m4, m5, m6⟩ := h
  have e := fun j => o.1 j
  exact ⟨N, A, ap, d, nx, H, sv, S, ep, fl, cnt, tx, ln, lc, ⟨c1.to (fun j j0 j1 => e j (by omega)), c2.to (e 12 (by omega)) (e 13 (by omega)), c3.to (by rw [e 0 (by omega)]) (e 14 (by omega)), c4.to (by rw [e 0 (by omega)]) (by rw [e 0 (by omega)]), c5.to (by rw [e 16 (by omega)]) (e 17 (by omega)), c6.to (e 19 (by omega))⟩,
    m1.to (e 33 (by omega)), m2.to (fun q q0 q1 => (c2.2.2.2.2 q q0 q1).2) (o.2 7 (by decide)) (e 36 (by omega)), m3.to (fun z => (c3.2.2 z).2) (o.2 10 (by decide)) (e 35 (by omega)), m4.to (o.2 8 (by decide)) (o.2 9 (by decide)), m5.to (o.2 18 (by decide)) (e 40 (by omega)), m6.to (o.2 12 (by decide)) (e 39 (by omega))⟩
theorem INV.cs {M : Mm} (h : INV M) : ∃ N A, Cs N A M ∧ Ms N A M := by
  obtain ⟨N, A, ap, d, nx, H, sv, S, ep, fl, cnt, tx, ln, lc, ⟨c1, -⟩, m1, -⟩ := h
  exact ⟨N, A, c1.1, m1.1⟩
/-- a call of the law: both answer alike, and the invariant holds again -/
def StepOK (x : Mm → Rs Int32) (cs : List (Nat × Int32)) (y : Mm → Rs Int32) : Prop := ∀ M, INV M → (∃ r M1 M2, x M = some (.inl r, M1) ∧ y (mset M1 45 0 r) = some (.inl r, M2) ∧ M2 32 6 = 0 ∧ M2 45 0 = r ∧ INV M2) ∨ ∃ q b c M1 M2, x M = some (.inr q, M1) ∧ cod cs q = some c ∧ c ≠ 0 ∧ y M1 = some (.inl b, M2) ∧ M2 32 6 = c ∧ INV M2
theorem AgR.step {x y : Mm → Rs Int32} {cs : List (Nat × Int32)} (h : AgR x cs y) : StepOK x cs y := by
  intro M hI
  obtain ⟨N, A, hC, hM⟩ := hI.cs
  rcases h M N A hC hM with ⟨r, ⟨M1, e1, o1⟩, hy⟩ | ⟨q, b, c, ⟨M1, e1, o1⟩, hc, hc0, hy⟩
  · have o2 := o1.tr (Off.sc M1 45 (upd (M1 45) 0 r) (by omega))
    obtain ⟨M2, f1, f2, f3, f4, -⟩ := hy (mset M1 45 0 r) (hM.off o2)
    exact .inl ⟨r, M1, M2, e1, f1, f3, by rw [f4, mset_at], hI.off (o2.tr f2)⟩
  · obtain ⟨M2, f1, f2, f3, -, -⟩ := hy M1 (hM.off o1)
    exact .inr ⟨q, b, c, M1, M2, e1, hc, hc0, f1, f3, hI.off (o1.tr f2)⟩
/-! changes -/
def upN (N : Int → Int) (p n' : Int) : Int → Int := fun s => if s = p then n' else N s
def upA (A : Int → Int → Int) (p : Int) (a' : Int → Int) : Int → Int → Int := fun s => if s = p then a' else A s
theorem upCs {N : Int → Int} {A : Int → Int → Int} {p n' : Int} {a' : Int → Int} {M : Mm} (h1 : Ser M (p.toNat + 2) n' a') (h2 : ∀ s, 0 ≤ s → s < 4 → s ≠ p → Ser M (s.toNat + 2) (N s) (A s)) : Cs (upN N p n') (upA A p a') M := by
  intro s s0 s1
  unfold upN upA
  by_cases c : s = p
  · rw [if_pos c, if_pos c, c]
    exact h1
  · rw [if_neg c, if_neg c]
    exact h2 s s0 s1 c
theorem upMs {N : Int → Int} {A : Int → Int → Int} {p n' : Int} {a' : Int → Int} {M : Mm} (h1 : Mse M p n' a') (h2 : ∀ s, 0 ≤ s → s < 4 → s ≠ p → Mse M s (N s) (A s)) : Ms (upN N p n') (upA A p a') M := by
  intro s s0 s1
  unfold upN upA
  by_cases c : s = p
  · rw [if_pos c, if_pos c, c]
    exact h1
  · rw [if_neg c, if_neg c]
    exact h2 s s0 s1 c
theorem Ms.row {N : Int → Int} {A : Int → Int → Int} {ap : Int} {M : Mm} (h : Ms N A M) (hap : M 33 84 = zI ap) : MRw M 33 0 (N, A, ap) := by
  refine ⟨by rw [Int.zero_add]; exact hap, fun s s0 s1 => ⟨by rw [Int.zero_add]; exact (h s s0 s1).c, fun i i0 i1 => by rw [Int.zero_add]; exact (h s s0 s1).e i i0 i1⟩⟩
theorem m_begin {N : Int → Int} {A : Int → Int → Int} {ap : Int} {M : Mm} (h : Ms N A M) (hs : SnB N A) (hap : M 33 84 = zI ap) : ∃ M1, fn_Mo_begin M = some (.inl (), M1) ∧ MRw M1 34 0 (N, A, ap) ∧ M1 32 6 = 0 ∧ (∀ i, i ≠ 6 → M1 32 i = M 32 i) ∧ ∀ j, j ≠ 32 → j ≠ 34 → M1 j = M j := by
  obtain ⟨M1, e1, e2, e3, e4⟩ := m_copy (mset M 32 6 (zI 0)) (k1 := 33) (k2 := 34) (L1 := 85) (L2 := 85) (b1 := 0) (b2 := 0) (by decide) (by decide) (by omega) (by omega) (by omega)
  have hr : MRw (mset M 32 6 (zI 0)) 33 0 (N, A, ap) := MRow.to (h.row hap) hs (by omega) (fun i _ _ => by rw [mset_ne _ _ _ (by decide)])
  refine ⟨M1, ?_, MRow.copy hr hs e2, by rw [e4 32 (by decide), mset_at]; rfl, fun i hi => by rw [e4 32 (by decide), mset_oth _ _ _ _ hi], fun j j1 j2 => by rw [e4 j j2, mset_ne _ _ _ j1]⟩
  unfold fn_Mo_begin
  simp (disch := omega) only [zlit, zI_add, zI_sub, zI_mul, zI_neg, zI_lt, zI_le, zI_eq, zI_cl, zI_max, zI_min, zI_abs, bnd_ok, bnd_ex, lm_eq, li_eq, grd_inb, grd_ser, grd_z, grd_lt, if_true, if_false, if_pos, if_neg, e1]
theorem phS {d : Int} {H : Int → SNP} {S : SNP} (hs : ∀ e, 0 ≤ e → e < d → SnS (H e)) (hS : SnS S) (hd : 0 ≤ d ∧ d ≤ 8) : ∀ e, 0 ≤ e → e < min (d + 1) 8 → SnS (phF d H S e) := by
  intro e e0 e1
  unfold phF
  by_cases c : d < 8
  · rw [if_pos c]
    by_cases c2 : e = d
    · rw [if_pos c2]; exact hS
    · rw [if_neg c2]; exact hs e e0 (by omega)
  · rw [if_neg c]
    by_cases c2 : e = 7
    · rw [if_pos c2]; exact hS
    · rw [if_neg c2]; exact hs (e + 1) (by omega) (by omega)
/-- the class's side of a change that is refused, and of one that is not -/
theorem c_change_no {N : Int → Int} {A : Int → Int → Int} {M : Mm} {k : Nat} (hk : k < 9) {p x y : Int} (hp : -2147483648 ≤ p ∧ p < 2147483648) (hx : -2147483648 ≤ x ∧ x < 2147483648) (hy : -2147483648 ≤ y ∧ y < 2147483648) (H : Cs N A M) {f : Nat} (hf : ftF k p x y N A = f) (h0 : f ≠ 0) (h4 : f < 4) : fn_SA_change k (zI p) (zI x) (zI y) M = some (.inr (f - 1), M) := by
  unfold fn_SA_change
  rw [grd_lt hk, F_c hk hp hx hy H, hf, bnd_ok, grd_lt h4]
  unfold fn_SA_refuse
  rw [grd_lt h4]
  rcases (by omega : f = 1 ∨ f = 2 ∨ f = 3) with rfl | rfl | rfl <;> rfl
theorem c_change_ok {N : Int → Int} {A : Int → Int → Int} {M : Mm} {k : Nat} (hk : k < 9) {p x y : Int} (hp : -2147483648 ≤ p ∧ p < 2147483648) (hx : -2147483648 ≤ x ∧ x < 2147483648) (hy : -2147483648 ≤ y ∧ y < 2147483648) (H : Cs N A M) (hf : ftF k p x y N A = 0) {ap d nx : Int} {G : Int → SNP} (hap : M 1 5 = zI ap) (hh : ICh d nx G M) {n' : Int} {a' : Int → Int} {r : Int} (hE : ClE k p x y N A n' a' r) : ∃ M1, fn_SA_change k (zI p) (zI x) (zI y) M = some (.inl (zI r), M1) ∧ ICs (upN N p n') (upA A p a') (if k = 0 then ap + 1 else ap) M1 ∧ ICh (min (d + 1) 8) (nxF nx) (phF d G (N, A, ap)) M1 ∧ ∀ j, j = 0 ∨ 14 ≤ j → M1 j = M j := by
  obtain ⟨Ma, e1, e2, e3⟩ := c_keep hh H hap
  have Ha : Cs N A Ma := fun s s0 s1 => (H s s0 s1).to (e3 _ (by omega) (by omega)) (e3 _ (by omega) (by omega))
  obtain ⟨M1, f1, f2, f3, f4, f5⟩ := hE Ma Ha
  refine ⟨M1, ?_, ⟨upCs f2 f3, ?_⟩, e2.to (f5 12 (by omega)) (f5 13 (by omega)), fun j hj => by rw [f5 j (by omega), e3 j (by omega) (by omega)]⟩
  · unfold fn_SA_change
    rw [grd_lt hk, F_c hk hp hx hy H, hf, bnd_ok, grd_lt (by decide)]
    rw [show fn_SA_refuse 0 M = some (.inl (), M) from rfl, bnd_ok, e1, bnd_ok, f1]
    rfl
  · rw [f4, e3 1 (by omega) (by omega), hap]
    by_cases c : k = 0
    · rw [if_pos c, if_pos c, show (1 : Int32) = zI 1 from rfl, zI_add]
    · rw [if_neg c, if_neg c]
theorem Change {x y : Mm → Rs Int32} {cs : List (Nat × Int32)} {k : Nat} (hk : k < 9) {p a b : Int} (hp : -2147483648 ≤ p ∧ p < 2147483648) (ha : -2147483648 ≤ a ∧ a < 2147483648) (hb : -2147483648 ≤ b ∧ b < 2147483648)
    (hx : ∀ M, x M = bnd (fn_SA_change k (zI p) (zI a) (zI b) M) (fun r M => some (.inl r, M)))
    (hcod : ∀ N A, ftF k p a b N A ≠ 0 → ftF k p a b N A < 4 ∧ cod cs (ftF k p a b N A - 1) = some (zI (whF k p a b N A)) ∧ zI (whF k p a b N A) ≠ 0)
    (hy0 : ∀ N A M Mb, fn_Mo_begin M = some (.inl (), Mb) → Ms N A Mb → ftF k p a b N A ≠ 0 → y M = some (.inl 0, mset Mb 32 6 (zI (whF k p a b N A))))
    (g : Mm → Rs Int32) (hy1 : ∀ N A M Mb, fn_Mo_begin M = some (.inl (), Mb) → Ms N A Mb → ftF k p a b N A = 0 → y M = bnd (g Mb) (fun r M => bnd (fn_Mo_commit r M) (fun r M => some (.inl r, M))))
    (hE : ∀ N A, ftF k p a b N A = 0 → ∃ n' a' r, ClE k p a b N A n' a' r ∧ MoE k g p N A n' a' r) : StepOK x cs y := by
  intro M hI
  obtain ⟨N, A, ap, d, nx, H, sv, S, ep, fl, cnt, tx, ln, lc, ⟨c1, c2, c3, c4, c5, c6⟩, m1, m2, m3, m4, m5, m6⟩ := hI
  have hsn := c1.1.sn
  have hHs : ∀ q, 0 ≤ q → q < d → SnS (H q) := fun q q0 q1 => (c2.2.2.2.2 q q0 q1).2
  by_cases hf : ftF k p a b N A = 0
  · left
    obtain ⟨n', a', r, hC, hMo⟩ := hE N A hf
    obtain ⟨M1, e1, e2, e3, e4⟩ := c_change_ok hk hp ha hb c1.1 hf c1.2 c2 hC
    have k1 : ∀ j, j = 0 ∨ 14 ≤ j → j ≠ 45 → mset M1 45 0 (zI r) j = M j := fun j j0 j1 => by rw [mset_ne _ _ _ j1, e4 j j0]
    have n1 : IMs N A ap (mset M1 45 0 (zI r)) := m1.to (k1 33 (by omega) (by decide))
    obtain ⟨Mb, b1, b2, b3, b4, b5⟩ := m_begin n1.1 hsn n1.2
    have Kb : IMs N A ap Mb := n1.to (b5 33 (by decide) (by decide))
    obtain ⟨Mg, g1, g2, g3, g4, g5⟩ := hMo Mb Kb.1
    have hrow : MRw Mg 34 0 (N, A, ap) := MRow.to b2 hsn (by omega) (fun i _ _ => by rw [g5 34 (by decide) (by decide)])
    have hist : IMh d H Mg := (m2.to hHs (by rw [k1 32 (by omega) (by decide)]) (k1 36 (by omega) (by decide))).to hHs (by rw [g5 32 (by decide) (by decide), b4 7 (by decide)]) (by rw [g5 36 (by decide) (by decide), b5 36 (by decide) (by decide)])
    obtain ⟨M2, h1, h2, h3, h4⟩ := m_commit (S := (N, A, ap)) c2.1 hist hHs hsn hrow (zI r)
    have z32 : ∀ i, i ≠ 6 → i ≠ 7 → M2 32 i = M 32 i := fun i i6 i7 => by rw [h3 i i7, g5 32 (by decide) (by decide), b4 i i6, k1 32 (by omega) (by decide)]
    have zj : ∀ j, j ≠ 32 → j ≠ 33 → j ≠ 34 → j ≠ 36 → j ≠ 38 → M2 j = mset M1 45 0 (zI r) j := fun j j1 j2 j3 j4 j5 => by rw [h4 j j1 j4, g5 j j2 j5, b5 j j1 j3]
    have zc : ∀ j, j < 32 → M2 j = M1 j := fun j hj => by rw [zj j (by omega) (by omega) (by omega) (by omega) (by omega), mset_ne _ _ _ (by omega)]
    have zd : ∀ j, j = 0 ∨ 14 ≤ j → j < 32 → M2 j = M j := fun j j0 j1 => by rw [zc j j1, e4 j j0]
    refine ⟨zI r, M1, M2, by rw [hx, e1]; rfl, by rw [hy1 N A _ Mb b1 Kb.1 hf, g1, bnd_ok, h1]; rfl, ?_, ?_, upN N p n', upA A p a', if k = 0 then ap + 1 else ap, min (d + 1) 8, nxF nx, phF d H (N, A, ap), sv, S, ep, fl, cnt, tx, ln, lc, ⟨e2.to (fun j j0 j1 => zc j (by omega)), e3.to (zc 12 (by decide)) (zc 13 (by decide)), c3.to (by rw [zd 0 (by omega) (by decide)]) (zd 14 (by omega) (by decide)), c4.to (by rw [zd 0 (by omega) (by decide)]) (by rw [zd 0 (by omega) (by decide)]), c5.to (by rw [zd 16 (by omega) (by decide)]) (zd 17 (by omega) (by decide)), c6.to (zd 19 (by omega) (by decide))⟩, ⟨upMs (g2.to (h4 33 (by decide) (by decide))) (fun s s0 s1 s2 => (g3 s s0 s1 s2).to (h4 33 (by decide) (by decide))), ?_⟩, h2, m3.to (fun z => (c3.2.2 z).2) (z32 10 (by decide) (by decide)) ?_, m4.to (z32 8 (by decide) (by decide)) (z32 9 (by decide) (by decide)), m5.to (z32 18 (by decide) (by decide)) ?_, m6.to (z32 12 (by decide) (by decide)) ?_⟩
    · rw [h3 6 (by decide), g5 32 (by decide) (by decide), b3]
    · rw [zj 45 (by decide) (by decide) (by decide) (by decide) (by decide), mset_at]
    · rw [h4 33 (by decide) (by decide), g4, Kb.2]
      by_cases c : k = 0
      · rw [if_pos c, if_pos c, show (1 : Int32) = zI 1 from rfl, zI_add]
      · rw [if_neg c, if_neg c]
    · rw [zj 35 (by decide) (by decide) (by decide) (by decide) (by decide), k1 35 (by omega) (by decide)]
    · rw [zj 40 (by decide) (by decide) (by decide) (by decide) (by decide), k1 40 (by omega) (by decide)]
    · rw [zj 39 (by decide) (by decide) (by decide) (by decide) (by decide), k1 39 (by omega) (by decide)]
  · right
    obtain ⟨h4, hc, hc0⟩ := hcod N A hf
    have e1 := c_change_no (M := M) hk hp ha hb c1.1 rfl hf h4
    obtain ⟨Mb, b1, b2, b3, b4, b5⟩ := m_begin m1.1 hsn m1.2
    have Kb : IMs N A ap Mb := m1.to (b5 33 (by decide) (by decide))
    have o1 : ∀ j, j ≠ 32 → j ≠ 34 → mset Mb 32 6 (zI (whF k p a b N A)) j = M j := fun j j1 j2 => by rw [mset_ne _ _ _ j1, b5 j j1 j2]
    have z32 : ∀ i, i ≠ 6 → mset Mb 32 6 (zI (whF k p a b N A)) 32 i = M 32 i := fun i hi => by rw [mset_oth _ _ _ _ hi, b4 i hi]
    refine ⟨_, 0, zI (whF k p a b N A), M, _, by rw [hx, e1]; rfl, hc, hc0, hy0 N A M Mb b1 Kb.1 hf, mset_at _ _ _ _, N, A, ap, d, nx, H, sv, S, ep, fl, cnt, tx, ln, lc, ⟨c1.to (fun j j0 j1 => o1 j (by omega) (by omega)), c2.to (o1 12 (by decide) (by decide)) (o1 13 (by decide) (by decide)), c3.to (by rw [o1 0 (by decide) (by decide)]) (o1 14 (by decide) (by decide)), c4.to (by rw [o1 0 (by decide) (by decide)]) (by rw [o1 0 (by decide) (by decide)]), c5.to (by rw [o1 16 (by decide) (by decide)]) (o1 17 (by decide) (by decide)), c6.to (o1 19 (by decide) (by decide))⟩, m1.to (o1 33 (by decide) (by decide)), m2.to hHs (z32 7 (by decide)) (o1 36 (by decide) (by decide)), m3.to (fun z => (c3.2.2 z).2) (z32 10 (by decide)) (o1 35 (by decide) (by decide)), m4.to (z32 8 (by decide)) (z32 9 (by decide)), m5.to (z32 18 (by decide)) (o1 40 (by decide) (by decide)), m6.to (z32 12 (by decide)) (o1 39 (by decide) (by decide))⟩
