/-! SEGMENTS -/
def erF (a : Int → Int) (f t : Int) : Int := maxF a (f + 1) (t + 1) (a f) - minF a (f + 1) (t + 1) (a f)
theorem erF_b {a : Int → Int} (hb : ∀ i, -99 ≤ a i ∧ a i ≤ 99) {f t : Int} (h : f ≤ t) : 0 ≤ erF a f t ∧ erF a f t ≤ 198 := by
  have h1 := maxF_b hb (i := f + 1) (j := t + 1) (m := a f) (by omega) (hb f)
  have h2 := minF_b hb (i := f + 1) (j := t + 1) (m := a f) (by omega) (hb f)
  have h3 := lp_inv (f := fun x m => max m (a x)) (fun _ m => a f ≤ m) (i := f + 1) (j := t + 1) (b := a f) (by omega) (by omega) (fun x m _ _ h => by show a f ≤ max m (a x); omega)
  have h4 := lp_inv (f := fun x m => min m (a x)) (fun _ m => m ≤ a f) (i := f + 1) (j := t + 1) (b := a f) (by omega) (by omega) (fun x m _ _ h => by show min m (a x) ≤ a f; omega)
  unfold erF maxF minF at *
  omega
/-- a division of f .. e-1 into p segments, at the cost c -/
def PT (a : Int → Int) : Nat → Int → Int → Int → Prop
  | 0, f, e, c => f = e ∧ c = 0
  | p + 1, f, e, c => ∃ t c', f ≤ t ∧ t < e ∧ PT a p (t + 1) e c' ∧ c = erF a f t + c'
def PI (a : Int → Int) (q f e c : Int) : Prop := PT a q.toNat f e c
theorem PI_0 {a : Int → Int} {f e c : Int} : PI a 0 f e c ↔ f = e ∧ c = 0 := Iff.rfl
theorem PI_s {a : Int → Int} {q f e c : Int} (hq : 1 ≤ q) : PI a q f e c ↔ ∃ t c', f ≤ t ∧ t < e ∧ PI a (q - 1) (t + 1) e c' ∧ c = erF a f t + c' := by
  unfold PI
  rw [show q.toNat = (q - 1).toNat + 1 by omega]
  exact Iff.rfl
theorem PT_feas {a : Int → Int} : ∀ (p : Nat) (f e c : Int), PT a p f e c → f + p ≤ e := by
  intro p
  induction p with
  | zero => intro f e c h; have := h.1; omega
  | succ p ih =>
    intro f e c h
    obtain ⟨t, c', h1, h2, h3, -⟩ := h
    have := ih _ _ _ h3
    omega
theorem PI_feas {a : Int → Int} {q f e c : Int} (hq : 0 ≤ q) (h : PI a q f e c) : f + q ≤ e := by
  have := PT_feas _ _ _ _ h
  omega
theorem PT_back {a : Int → Int} : ∀ (p : Nat) (f e c : Int), PT a (p + 1) f e c → ∃ t c', f ≤ t ∧ t < e ∧ PT a p f t c' ∧ c = c' + erF a t (e - 1) := by
  intro p
  induction p with
  | zero =>
    intro f e c h
    obtain ⟨t, c', h1, h2, h3, h4⟩ := h
    have h31 := h3.1
    have h32 := h3.2
    refine ⟨f, 0, by omega, by omega, ⟨rfl, rfl⟩, ?_⟩
    rw [show e - 1 = t by omega]
    omega
  | succ p ih =>
    intro f e c h
    obtain ⟨t, c', h1, h2, h3, h4⟩ := h
    obtain ⟨u, c2, k1, k2, k3, k4⟩ := ih _ _ _ h3
    exact ⟨u, erF a f t + c2, by omega, k2, ⟨t, c2, h1, by omega, k3, rfl⟩, by omega⟩
theorem PT_snoc {a : Int → Int} : ∀ (p : Nat) (f t e c : Int), PT a p f t c → t < e → PT a (p + 1) f e (c + erF a t (e - 1)) := by
  intro p
  induction p with
  | zero =>
    intro f t e c h he
    have h1 := h.1
    have h2 := h.2
    exact ⟨e - 1, 0, by omega, by omega, ⟨by omega, rfl⟩, by rw [h1]; omega⟩
  | succ p ih =>
    intro f t e c h he
    obtain ⟨u, c', h1, h2, h3, h4⟩ := h
    exact ⟨u, c' + erF a t (e - 1), h1, by omega, ih _ _ _ _ h3 he, by omega⟩
theorem PI_back {a : Int → Int} {q f e c : Int} (hq : 1 ≤ q) (h : PI a q f e c) : ∃ t c', f ≤ t ∧ t < e ∧ PI a (q - 1) f t c' ∧ c = c' + erF a t (e - 1) := by
  unfold PI at *
  rw [show q.toNat = (q - 1).toNat + 1 by omega] at h
  exact PT_back _ _ _ _ h
theorem PI_snoc {a : Int → Int} {q f t e c : Int} (hq : 1 ≤ q) (h : PI a (q - 1) f t c) (he : t < e) : PI a q f e (c + erF a t (e - 1)) := by
  unfold PI at *
  rw [show q.toNat = (q - 1).toNat + 1 by omega]
  exact PT_snoc _ _ _ _ _ h he
/-- the least cost -/
def MinP (a : Int → Int) (q f e m : Int) : Prop := PI a q f e m ∧ ∀ c, PI a q f e c → m ≤ c
theorem MinP.uniq {a : Int → Int} {q f e m m' : Int} (h : MinP a q f e m) (k : MinP a q f e m') : m = m' := by
  have := h.2 m' k.1
  have := k.2 m h.1
  omega
theorem PT_b {a : Int → Int} (hb : ∀ i, -99 ≤ a i ∧ a i ≤ 99) : ∀ (p : Nat) (f e c : Int), PT a p f e c → 0 ≤ c ∧ c ≤ 198 * p := by
  intro p
  induction p with
  | zero => intro f e c h; have := h.2; omega
  | succ p ih =>
    intro f e c h
    obtain ⟨t, c', h1, h2, h3, h4⟩ := h
    have := ih _ _ _ h3
    have := erF_b hb h1
    omega
theorem PI_b {a : Int → Int} (hb : ∀ i, -99 ≤ a i ∧ a i ≤ 99) {q f e c : Int} (hq : 0 ≤ q) (h : PI a q f e c) : 0 ≤ c ∧ c ≤ 198 * q := by
  have := PT_b hb _ _ _ _ h
  omega
theorem PI_1 {a : Int → Int} {f e c : Int} (hf : f < e) : PI a 1 f e c ↔ c = erF a f (e - 1) := by
  rw [PI_s (by omega)]
  refine ⟨fun ⟨t, c', h1, h2, h3, h4⟩ => ?_, fun h => ⟨e - 1, 0, by omega, by omega, PI_0.mpr ⟨by omega, rfl⟩, by omega⟩⟩
  have := PI_0.mp h3
  rw [show e - 1 = t by omega]
  omega
theorem MinP_1 {a : Int → Int} {f e : Int} (hf : f < e) : MinP a 1 f e (erF a f (e - 1)) := ⟨(PI_1 hf).mpr rfl, fun c h => by have := (PI_1 hf).mp h; omega⟩
theorem Ser.spread {M : Mm} {v : Nat} {n : Int} {a : Int → Int} (h : Ser M v n a) {f t : Int} (hf : 0 ≤ f) (hft : f ≤ t) (ht : t < n) : fn_Di_spread v (zI f) (zI t) M = some (.inl (zI (erF a f t)), M) := by
  have hv := h.v
  unfold fn_Di_spread
  simp (disch := omega) only [zlit, zI_add, zI_sub, zI_mul, zI_neg, zI_lt, zI_le, zI_eq, zI_cl, zI_max, zI_min, zI_abs, bnd_ok, bnd_ex, lm_eq, li_eq, grd_inb, grd_ser, grd_z, grd_lt, if_true, if_false, if_pos, if_neg, h.greatest, h.least]
  rfl
/-! by cuts -/
/-- the best of the first cuts before u -/
def CutB (a : Int → Int) (n q f u best : Int) : Prop := (best = 1000000 ∧ ∀ t c, f ≤ t → t + 1 < u → ¬ PI a (q - 1) (t + 1) n c) ∨ (PI a q f n best ∧ ∀ t c, f ≤ t → t + 1 < u → PI a (q - 1) (t + 1) n c → best ≤ erF a f t + c)
theorem CutB.next {a : Int → Int} {n q f u best m : Int} (h : CutB a n q f u best) (hb : ∀ i, -99 ≤ a i ∧ a i ≤ 99) (hq : 1 ≤ q ∧ q ≤ 4) (hu : f < u ∧ u ≤ n) (hm : MinP a (q - 1) u n m) : CutB a n q f (u + 1) (min best (erF a f (u - 1) + m)) := by
  have hm1 : PI a q f n (erF a f (u - 1) + m) := (PI_s hq.1).mpr ⟨u - 1, m, by omega, by omega, by rw [Int.sub_add_cancel]; exact hm.1, rfl⟩
  have b1 := PI_b hb (by omega) hm1
  refine .inr ⟨?_, fun t c t1 t2 hc => ?_⟩
  · rcases h with ⟨h1, -⟩ | ⟨h1, -⟩
    · rw [h1, show min 1000000 (erF a f (u - 1) + m) = erF a f (u - 1) + m by omega]
      exact hm1
    · by_cases c : best ≤ erF a f (u - 1) + m
      · rw [show min best (erF a f (u - 1) + m) = best by omega]
        exact h1
      · rw [show min best (erF a f (u - 1) + m) = erF a f (u - 1) + m by omega]
        exact hm1
  · by_cases ct : t + 1 = u
    · rw [ct] at hc
      have := hm.2 c hc
      rw [show t = u - 1 by omega]
      omega
    · rcases h with ⟨-, h2⟩ | ⟨-, h2⟩
      · exact absurd hc (h2 t c t1 (by omega))
      · have := h2 t c t1 (by omega) hc
        omega
theorem CutB.min {a : Int → Int} {n q f u best : Int} (h : CutB a n q f u best) (hq : 1 ≤ q) (hu : n - q + 1 < u) (hf : ∃ c, PI a q f n c) : MinP a q f n best := by
  obtain ⟨c0, hc0⟩ := hf
  have hall : ∀ c, PI a q f n c → ∃ t c', f ≤ t ∧ t + 1 < u ∧ PI a (q - 1) (t + 1) n c' ∧ c = erF a f t + c' := fun c hc => by
    obtain ⟨t, c', k1, k2, k3, k4⟩ := (PI_s hq).mp hc
    have := PI_feas (by omega) k3
    exact ⟨t, c', k1, by omega, k3, k4⟩
  rcases h with ⟨-, h2⟩ | ⟨h1, h2⟩
  · obtain ⟨t, c', k1, k2, k3, -⟩ := hall c0 hc0
    exact absurd k3 (h2 t c' k1 k2)
  · refine ⟨h1, fun c hc => ?_⟩
    obtain ⟨t, c', k1, k2, k3, k4⟩ := hall c hc
    have := h2 t c' k1 k2 k3
    omega
theorem CutB.init (a : Int → Int) (n q f : Int) : CutB a n q f (f + 1) 1000000 := .inl ⟨rfl, fun t c t1 t2 => by omega⟩
theorem CutB.b {a : Int → Int} {n q f u best : Int} (h : CutB a n q f u best) (hb : ∀ i, -99 ≤ a i ∧ a i ≤ 99) (hq : 1 ≤ q ∧ q ≤ 4) : 0 ≤ best ∧ best ≤ 1000000 := by
  rcases h with ⟨h1, -⟩ | ⟨h1, -⟩
  · omega
  · have := PI_b hb (by omega) h1
    omega
theorem PI_ex {a : Int → Int} : ∀ (p : Nat) (f e : Int), 1 ≤ p → f + p ≤ e → ∃ c, PT a p f e c := by
  intro p
  induction p with
  | zero => intros; omega
  | succ p ih =>
    intro f e hp hf
    by_cases c : p = 0
    · rw [c]
      exact ⟨_, e - 1, 0, by omega, by omega, ⟨by omega, rfl⟩, rfl⟩
    · obtain ⟨c', hc'⟩ := ih (f + 1) e (by omega) (by omega)
      exact ⟨_, f, c', by omega, by omega, hc', rfl⟩
theorem PI_some {a : Int → Int} {q f e : Int} (hq : 1 ≤ q) (hf : f + q ≤ e) : ∃ c, PI a q f e c := PI_ex _ _ _ (by omega) (by omega)
theorem c_byCuts {M : Mm} {v : Nat} {n : Int} {a : Int → Int} (h : Ser M v n a) : ∀ (k : Nat) (f q : Int), 0 ≤ f → 1 ≤ q → q ≤ 4 → f + q ≤ n → q ≤ k → ∃ m, MinP a q f n m ∧ fn_Di_leastByCuts k v (zI f) (zI q) M = some (.inl (zI m), M) := by
  have hv := h.v
  have hn := h.n
  intro k
  induction k with
  | zero => intros; omega
  | succ k ih =>
    intro f q h0 h1 h2 h3 h4
    rw [fn_Di_leastByCuts]
    by_cases c : q ≤ 1
    · have e : q = 1 := by omega
      refine ⟨erF a f (n - 1), by rw [e]; exact MinP_1 (by omega), ?_⟩
      simp (disch := omega) only [zlit, zI_add, zI_sub, zI_mul, zI_neg, zI_lt, zI_le, zI_eq, zI_cl, zI_max, zI_min, zI_abs, bnd_ok, bnd_ex, lm_eq, li_eq, grd_inb, grd_ser, grd_z, grd_lt, if_true, if_false, if_pos, if_neg, fn_Di_leastByCuts_10, h.size, h.spread]
    · have loop : ∀ (kk : Nat) (u best : Int), CutB a n q f u best → f < u → u ≤ n - q + 2 → n - q + 2 - u < kk → ∃ m, MinP a q f n m ∧ fn_Di_leastByCuts_30 (fn_Di_leastByCuts k) v (zI f) (zI q) kk (zI best) (zI u) M = some (.inl (zI m), M) := by
        intro kk
        induction kk with
        | zero => intros; omega
        | succ kk ih2 =>
          intro u best hc u1 u2 u3
          have hb := hc.b h.b ⟨h1, h2⟩
          rw [fn_Di_leastByCuts_30]
          by_cases cu : n - q + 1 < u
          · refine ⟨best, hc.min h1 cu (PI_some h1 h3), ?_⟩
            simp (disch := omega) only [zlit, zI_add, zI_sub, zI_mul, zI_neg, zI_lt, zI_le, zI_eq, zI_cl, zI_max, zI_min, zI_abs, bnd_ok, bnd_ex, lm_eq, li_eq, grd_inb, grd_ser, grd_z, grd_lt, if_true, if_false, if_pos, if_neg, h.size]
          · obtain ⟨m, hm, em⟩ := ih u (q - 1) (by omega) (by omega) (by omega) (by omega) (by omega)
            have b1 := PI_b h.b (by omega) hm.1
            have b2 := erF_b h.b (f := f) (t := u - 1) (by omega)
            obtain ⟨m2, e1, e2⟩ := ih2 (u + 1) _ (hc.next h.b ⟨h1, h2⟩ ⟨u1, by omega⟩ hm) (by omega) (by omega) (by omega)
            refine ⟨m2, e1, ?_⟩
            simp (disch := omega) only [zlit, zI_add, zI_sub, zI_mul, zI_neg, zI_lt, zI_le, zI_eq, zI_cl, zI_max, zI_min, zI_abs, bnd_ok, bnd_ex, lm_eq, li_eq, grd_inb, grd_ser, grd_z, grd_lt, if_true, if_false, if_pos, if_neg, h.size, em, h.spread, e2]
      obtain ⟨m, e1, e2⟩ := loop 2000 (f + 1) 1000000 (CutB.init a n q f) (by omega) (by omega) (by omega)
      refine ⟨m, e1, ?_⟩
      unfold fuel0
      simp (disch := omega) only [zlit, zI_add, zI_sub, zI_mul, zI_neg, zI_lt, zI_le, zI_eq, zI_cl, zI_max, zI_min, zI_abs, bnd_ok, bnd_ex, lm_eq, li_eq, grd_inb, grd_ser, grd_z, grd_lt, if_true, if_false, if_pos, if_neg, e2]
theorem Ser.byCuts {M : Mm} {v : Nat} {n : Int} {a : Int → Int} (h : Ser M v n a) {q m : Int} (hq : 1 ≤ q ∧ q ≤ 4) (hn : q ≤ n) (hm : MinP a q 0 n m) : fn_Di_errorByCuts v (zI q) M = some (.inl (zI m), M) := by
  have hv := h.v
  obtain ⟨m2, e1, e2⟩ := c_byCuts h 45 0 q (by omega) hq.1 hq.2 (by omega) (by omega)
  unfold fn_Di_errorByCuts
  simp (disch := omega) only [zlit, zI_add, zI_sub, zI_mul, zI_neg, zI_lt, zI_le, zI_eq, zI_cl, zI_max, zI_min, zI_abs, bnd_ok, bnd_ex, lm_eq, li_eq, grd_inb, grd_ser, grd_z, grd_lt, if_true, if_false, if_pos, if_neg, e2]
  rw [e1.uniq hm]
theorem Ser.minEx {M : Mm} {v : Nat} {n : Int} {a : Int → Int} (h : Ser M v n a) {q : Int} (hq : 1 ≤ q ∧ q ≤ 4) (hn : q ≤ n) : ∃ m, MinP a q 0 n m := by
  obtain ⟨m2, e1, -⟩ := c_byCuts h 45 0 q (by omega) hq.1 hq.2 (by omega) (by omega)
  exact ⟨m2, e1⟩
/-! by beginnings -/
theorem rd29 {M : Mm} {g : Int → Int} {i : Int} (hi : 0 ≤ i ∧ i < 105) : fn_SA_read 29 (zI i) (S1 M 29 g) = some (.inl (zI (g i)), S1 M 29 g) := S1_rd (L := 105) (by decide) (by decide) hi
theorem wr29 {M : Mm} {g : Int → Int} {i x : Int} (hi : 0 ≤ i ∧ i < 105) : fn_SA_write 29 (zI i) (zI x) (S1 M 29 g) = some (.inl (), S1 M 29 (upI g i x)) := S1_wr (L := 105) (by decide) (by decide) hi
/-- the best of the last cuts before u -/
def BegB (a : Int → Int) (q e u best : Int) : Prop := (best = 1000000 ∧ ∀ t c, t < u → ¬ PI a (q - 1) 0 t c) ∨ (PI a q 0 e best ∧ ∀ t c, t < u → PI a (q - 1) 0 t c → best ≤ c + erF a t (e - 1))
theorem c_begin_23 {M : Mm} {v : Nat} {n : Int} {a : Int → Int} (h : Ser M v n a) {q e : Int} {g : Int → Int} (hq : 2 ≤ q ∧ q ≤ 4) (he : q ≤ e ∧ e ≤ n) (hg : ∀ t, q - 1 ≤ t → t < e → MinP a (q - 1) 0 t (g ((q - 1) * 21 + t))) : ∀ (k : Nat) (best u : Int), BegB a q e u best → q - 1 ≤ u → u ≤ e → e - u < k → ∃ m, MinP a q 0 e m ∧ fn_Di_errorOfBeginning_23 v (zI q) (zI e) k (zI best) (zI u) (S1 M 29 g) = some (.inl (zI m), S1 M 29 g) := by
  have hv := h.v
  have hn := h.n
  have hse := h.s1 29 (by omega) g
  intro k
  induction k with
  | zero => intros; omega
  | succ k ih =>
    intro best u hb u0 u1 u2
    have bb : 0 ≤ best ∧ best ≤ 1000000 := by
      rcases hb with ⟨h1, -⟩ | ⟨h1, -⟩
      · omega
      · have := PI_b h.b (by omega) h1
        omega
    rw [fn_Di_errorOfBeginning_23]
    by_cases c : e ≤ u
    · refine ⟨best, ?_, ?_⟩
      · rcases hb with ⟨-, h2⟩ | ⟨h1, h2⟩
        · obtain ⟨c0, hc0⟩ := PI_some (a := a) (q := q) (f := 0) (e := e) (by omega) (by omega)
          obtain ⟨t, c', k1, k2, k3, -⟩ := PI_back (by omega) hc0
          exact absurd k3 (h2 t c' (by omega))
        · refine ⟨h1, fun c hc => ?_⟩
          obtain ⟨t, c', k1, k2, k3, k4⟩ := PI_back (by omega) hc
          have := h2 t c' (by omega) k3
          omega
      · simp (disch := omega) only [zlit, zI_add, zI_sub, zI_mul, zI_neg, zI_lt, zI_le, zI_eq, zI_cl, zI_max, zI_min, zI_abs, bnd_ok, bnd_ex, lm_eq, li_eq, grd_inb, grd_ser, grd_z, grd_lt, if_true, if_false, if_pos, if_neg]
    · have hm := hg u u0 (by omega)
      have b1 := PI_b h.b (by omega) hm.1
      have b2 := erF_b h.b (f := u) (t := e - 1) (by omega)
      have hx : PI a q 0 e (g ((q - 1) * 21 + u) + erF a u (e - 1)) := PI_snoc (by omega) hm.1 (by omega)
      obtain ⟨m, e1, e2⟩ := ih (min best (g ((q - 1) * 21 + u) + erF a u (e - 1))) (u + 1) (by
        refine .inr ⟨?_, fun t c t1 hc => ?_⟩
        · rcases hb with ⟨h1, -⟩ | ⟨h1, -⟩
          · rw [h1, show min 1000000 (g ((q - 1) * 21 + u) + erF a u (e - 1)) = g ((q - 1) * 21 + u) + erF a u (e - 1) by omega]
            exact hx
          · by_cases c2 : best ≤ g ((q - 1) * 21 + u) + erF a u (e - 1)
            · rw [show min best (g ((q - 1) * 21 + u) + erF a u (e - 1)) = best by omega]
              exact h1
            · rw [show min best (g ((q - 1) * 21 + u) + erF a u (e - 1)) = g ((q - 1) * 21 + u) + erF a u (e - 1) by omega]
              exact hx
        · by_cases ct : t = u
          · rw [ct] at hc ⊢
            have := hm.2 c hc
            omega
          · rcases hb with ⟨-, h2⟩ | ⟨-, h2⟩
            · exact absurd hc (h2 t c (by omega))
            · have := h2 t c (by omega) hc
              omega) (by omega) (by omega) (by omega)
      refine ⟨m, e1, ?_⟩
      simp (disch := omega) only [zlit, zI_add, zI_sub, zI_mul, zI_neg, zI_lt, zI_le, zI_eq, zI_cl, zI_max, zI_min, zI_abs, bnd_ok, bnd_ex, lm_eq, li_eq, grd_inb, grd_ser, grd_z, grd_lt, if_true, if_false, if_pos, if_neg, rd29, hse.spread, e2]
theorem c_begin {M : Mm} {v : Nat} {n : Int} {a : Int → Int} (h : Ser M v n a) {q e : Int} {g : Int → Int} (hq : 1 ≤ q ∧ q ≤ 4) (he : q ≤ e ∧ e ≤ n) (hg : 2 ≤ q → ∀ t, q - 1 ≤ t → t < e → MinP a (q - 1) 0 t (g ((q - 1) * 21 + t))) : ∃ m, MinP a q 0 e m ∧ fn_Di_errorOfBeginning v (zI q) (zI e) (S1 M 29 g) = some (.inl (zI m), S1 M 29 g) := by
  have hv := h.v
  have hn := h.n
  have hse := h.s1 29 (by omega) g
  unfold fn_Di_errorOfBeginning fuel0
  by_cases c : q = 1
  · refine ⟨erF a 0 (e - 1), by rw [c]; exact MinP_1 (by omega), ?_⟩
    simp (disch := omega) only [zlit, zI_add, zI_sub, zI_mul, zI_neg, zI_lt, zI_le, zI_eq, zI_cl, zI_max, zI_min, zI_abs, bnd_ok, bnd_ex, lm_eq, li_eq, grd_inb, grd_ser, grd_z, grd_lt, if_true, if_false, if_pos, if_neg, hse.spread]
  · obtain ⟨m, e1, e2⟩ := c_begin_23 h (M := M) (by omega) he (hg (by omega)) 2000 1000000 (q - 1) (.inl ⟨rfl, fun t c t1 hc => by have := PI_feas (by omega) hc; omega⟩) (by omega) (by omega) (by omega)
    refine ⟨m, e1, ?_⟩
    simp (disch := omega) only [zlit, zI_add, zI_sub, zI_mul, zI_neg, zI_lt, zI_le, zI_eq, zI_cl, zI_max, zI_min, zI_abs, bnd_ok, bnd_ex, lm_eq, li_eq, grd_inb, grd_ser, grd_z, grd_lt, if_true, if_false, if_pos, if_neg, e2]
theorem c_error_10 {M : Mm} {v : Nat} {n : Int} {a : Int → Int} (h : Ser M v n a) (k2 : Int32 → Mm → Rs Int32) {Q q : Int} (hq : 1 ≤ q ∧ q ≤ 4) (hqn : q ≤ n) : ∀ (k : Nat) (e : Int) (g : Int → Int), (∀ p t, 1 ≤ p → p ≤ t → t ≤ n → (p < q ∨ (p = q ∧ t < e)) → MinP a p 0 t (g (p * 21 + t))) → q ≤ e → e ≤ n + 1 → n + 1 - e < k → ∃ g2, (∀ p t, 1 ≤ p → p ≤ t → t ≤ n → p < q + 1 → MinP a p 0 t (g2 (p * 21 + t))) ∧ fn_Di_error_10 k2 v (zI Q) (zI q) k (zI e) (S1 M 29 g) = k2 (zI (q + 1)) (S1 M 29 g2) := by
  have hv := h.v
  have hn := h.n
  intro k
  induction k with
  | zero => intros; omega
  | succ k ih =>
    intro e g hg e0 e1 e2
    have hse := h.s1 29 (by omega) g
    rw [fn_Di_error_10]
    by_cases c : n < e
    · refine ⟨g, fun p t p1 p2 p3 p4 => hg p t p1 p2 p3 (by omega), ?_⟩
      simp (disch := omega) only [zlit, zI_add, zI_sub, zI_mul, zI_neg, zI_lt, zI_le, zI_eq, zI_cl, zI_max, zI_min, zI_abs, bnd_ok, bnd_ex, lm_eq, li_eq, grd_inb, grd_ser, grd_z, grd_lt, if_true, if_false, if_pos, if_neg, hse.size, fn_Di_error_47]
    · obtain ⟨m, f1, f2⟩ := c_begin h (M := M) (q := q) (e := e) (g := g) hq (by omega) (fun z t t1 t2 => hg (q - 1) t (by omega) (by omega) (by omega) (by omega))
      obtain ⟨g2, f3, f4⟩ := ih (e + 1) (upI g (q * 21 + e) m) (fun p t p1 p2 p3 p4 => by
        by_cases c2 : p = q ∧ t = e
        · rw [c2.1, c2.2, upI_eq]
          exact f1
        · rw [upI_ne _ _ (by omega)]
          exact hg p t p1 p2 p3 (by omega)) (by omega) (by omega) (by omega)
      refine ⟨g2, f3, ?_⟩
      simp (disch := omega) only [zlit, zI_add, zI_sub, zI_mul, zI_neg, zI_lt, zI_le, zI_eq, zI_cl, zI_max, zI_min, zI_abs, bnd_ok, bnd_ex, lm_eq, li_eq, grd_inb, grd_ser, grd_z, grd_lt, if_true, if_false, if_pos, if_neg, hse.size, f2, wr29, f4]
theorem c_error_2 {M : Mm} {v : Nat} {n : Int} {a : Int → Int} (h : Ser M v n a) {Q : Int} (hQ : 1 ≤ Q ∧ Q ≤ 4) (hQn : Q ≤ n) : ∀ (k : Nat) (q : Int) (g : Int → Int), (∀ p t, 1 ≤ p → p ≤ t → t ≤ n → p < q → MinP a p 0 t (g (p * 21 + t))) → 1 ≤ q → q ≤ Q + 1 → Q + 1 - q < k → ∃ g2 m, MinP a Q 0 n m ∧ fn_Di_error_2 v (zI Q) k (zI q) (S1 M 29 g) = some (.inl (zI m), S1 M 29 g2) := by
  have hv := h.v
  have hn := h.n
  intro k
  induction k with
  | zero => intros; omega
  | succ k ih =>
    intro q g hg e0 e1 e2
    have hse := h.s1 29 (by omega) g
    rw [fn_Di_error_2]
    by_cases c : Q < q
    · refine ⟨g, g (Q * 21 + n), hg Q n (by omega) (by omega) (by omega) (by omega), ?_⟩
      simp (disch := omega) only [zlit, zI_add, zI_sub, zI_mul, zI_neg, zI_lt, zI_le, zI_eq, zI_cl, zI_max, zI_min, zI_abs, bnd_ok, bnd_ex, lm_eq, li_eq, grd_inb, grd_ser, grd_z, grd_lt, if_true, if_false, if_pos, if_neg, fn_Di_error_53, hse.size, rd29]
    · obtain ⟨g1, f1, f2⟩ := c_error_10 h (M := M) (fn_Di_error_2 v (zI Q) k) (Q := Q) (q := q) (by omega) (by omega) 2000 q g (fun p t p1 p2 p3 p4 => hg p t p1 p2 p3 (by omega)) (by omega) (by omega) (by omega)
      obtain ⟨g2, m, f3, f4⟩ := ih (q + 1) g1 f1 (by omega) (by omega) (by omega)
      refine ⟨g2, m, f3, ?_⟩
      unfold fuel0
      simp (disch := omega) only [zlit, zI_add, zI_sub, zI_mul, zI_neg, zI_lt, zI_le, zI_eq, zI_cl, zI_max, zI_min, zI_abs, bnd_ok, bnd_ex, lm_eq, li_eq, grd_inb, grd_ser, grd_z, grd_lt, if_true, if_false, if_pos, if_neg, f2, f4]
theorem Ser.error {M : Mm} {v : Nat} {n : Int} {a : Int → Int} (h : Ser M v n a) {q m : Int} (hq : 1 ≤ q ∧ q ≤ 4) (hqn : q ≤ n) (hm : MinP a q 0 n m) : ∃ M1, fn_Di_error v (zI q) M = some (.inl (zI m), M1) ∧ Off M M1 := by
  have hv := h.v
  have hn := h.n
  obtain ⟨g2, m2, e1, e2⟩ := c_error_2 h (M := M) hq hqn 2000 1 (fun i => (M 29 i.toNat).toInt) (fun p t p1 p2 p3 p4 => by omega) (by omega) (by omega) (by omega)
  rw [S1_self, e1.uniq hm] at e2
  refine ⟨S1 M 29 g2, ?_, S1_off M 29 _ (by omega)⟩
  unfold fn_Di_error fuel0
  simp (disch := omega) only [zlit, zI_add, zI_sub, zI_mul, zI_neg, zI_lt, zI_le, zI_eq, zI_cl, zI_max, zI_min, zI_abs, bnd_ok, bnd_ex, lm_eq, li_eq, grd_inb, grd_ser, grd_z, grd_lt, if_true, if_false, if_pos, if_neg, e2]
