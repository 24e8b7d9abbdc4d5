/-! SEGMENTS: the model's table; where they begin -/
/-- what the model's table holds: the least cost, or FAR -/
def LQ (a : Int → Int) (n q f x : Int) : Prop := MinP a q f n x ∨ (x = 1000000000 ∧ ∀ c, ¬ PI a q f n c)
theorem LQ.b {a : Int → Int} {n q f x : Int} (h : LQ a n q f x) (hb : ∀ i, -99 ≤ a i ∧ a i ≤ 99) (hq : 0 ≤ q ∧ q ≤ 4) : 0 ≤ x ∧ x ≤ 1000000000 := by
  rcases h with h | h
  · have := PI_b hb hq.1 h.1
    omega
  · omega
theorem m_error {M : Mm} {v n : Int} {a : Int → Int} (h : Mse M v n a) {f t : Int} (hf : 0 ≤ f) (hft : f ≤ t) (ht : t < n) : fn_Mo_error (zI v) (zI f) (zI t) M = some (.inl (zI (erF a f t)), M) := by
  unfold fn_Mo_error
  simp (disch := omega) only [zlit, zI_add, zI_sub, zI_mul, zI_neg, zI_lt, zI_le, zI_eq, zI_cl, zI_max, zI_min, zI_abs, bnd_ok, bnd_ex, lm_eq, li_eq, grd_inb, grd_ser, grd_z, grd_lt, if_true, if_false, if_pos, if_neg, h.highest, h.lowest]
  rfl
theorem m_withFirst {M : Mm} {v n : Int} {a : Int → Int} (h : Mse M v n a) {q f t : Int} {g : Int → Int} (hq : 1 ≤ q ∧ q ≤ 4) (hf : 0 ≤ f) (hft : f ≤ t) (ht : t < n) : fn_Mo_withFirst (zI v) (zI q) (zI f) (zI t) (S1 M 37 g) = some (.inl (zI (erF a f t + g (21 * (q - 1) + t + 1))), S1 M 37 g) := by
  have hn := h.n
  have hse := h.s1 37 (by omega) g
  unfold fn_Mo_withFirst
  simp (disch := omega) only [zlit, zI_add, zI_sub, zI_mul, zI_neg, zI_lt, zI_le, zI_eq, zI_cl, zI_max, zI_min, zI_abs, bnd_ok, bnd_ex, lm_eq, li_eq, grd_inb, grd_ser, grd_z, grd_lt, if_true, if_false, if_pos, if_neg, m_error hse, S1_get]
/-- the best of the first segments that end before u -/
def LR (a : Int → Int) (n q f u best : Int) : Prop := (best = 1000000000 ∧ ∀ t c, f ≤ t → t < u → ¬ PI a (q - 1) (t + 1) n c) ∨ (PI a q f n best ∧ ∀ t c, f ≤ t → t < u → PI a (q - 1) (t + 1) n c → best ≤ erF a f t + c)
theorem LR.next {a : Int → Int} {n q f u best x : Int} (h : LR a n q f u best) (hb : ∀ i, -99 ≤ a i ∧ a i ≤ 99) (hq : 1 ≤ q ∧ q ≤ 4) (hu : f ≤ u ∧ u < n) (hx : LQ a n (q - 1) (u + 1) x) : LR a n q f (u + 1) (min best (erF a f u + x)) := by
  have e0 := erF_b hb hu.1
  rcases hx with hm | ⟨hx1, hx2⟩
  · have hm1 : PI a q f n (erF a f u + x) := (PI_s hq.1).mpr ⟨u, x, hu.1, hu.2, hm.1, rfl⟩
    have b1 := PI_b hb (by omega) hm1
    refine .inr ⟨?_, fun t c t1 t2 hc => ?_⟩
    · rcases h with ⟨h1, -⟩ | ⟨h1, -⟩
      · rw [h1, show min 1000000000 (erF a f u + x) = erF a f u + x by omega]
        exact hm1
      · by_cases c : best ≤ erF a f u + x
        · rw [show min best (erF a f u + x) = best by omega]
          exact h1
        · rw [show min best (erF a f u + x) = erF a f u + x by omega]
          exact hm1
    · by_cases ct : t = u
      · rw [ct] at hc ⊢
        have := hm.2 c hc
        omega
      · rcases h with ⟨-, h2⟩ | ⟨-, h2⟩
        · exact absurd hc (h2 t c t1 (by omega))
        · have := h2 t c t1 (by omega) hc
          omega
  · rcases h with ⟨h1, h2⟩ | ⟨h1, h2⟩
    · refine .inl ⟨by omega, fun t c t1 t2 hc => ?_⟩
      by_cases ct : t = u
      · rw [ct] at hc
        exact hx2 c hc
      · exact h2 t c t1 (by omega) hc
    · have b1 := PI_b hb (by omega) h1
      rw [show min best (erF a f u + x) = best by omega]
      refine .inr ⟨h1, fun t c t1 t2 hc => ?_⟩
      by_cases ct : t = u
      · rw [ct] at hc
        exact absurd hc (hx2 c)
      · exact h2 t c t1 (by omega) hc
theorem LR.done {a : Int → Int} {n q f best : Int} (h : LR a n q f n best) (hq : 1 ≤ q) : LQ a n q f best := by
  rcases h with ⟨h1, h2⟩ | ⟨h1, h2⟩
  · refine .inr ⟨h1, fun c hc => ?_⟩
    obtain ⟨t, c', k1, k2, k3, -⟩ := (PI_s hq).mp hc
    exact h2 t c' k1 k2 k3
  · refine .inl ⟨h1, fun c hc => ?_⟩
    obtain ⟨t, c', k1, k2, k3, k4⟩ := (PI_s hq).mp hc
    have := h2 t c' k1 k2 k3
    omega
theorem LR.b {a : Int → Int} {n q f u best : Int} (h : LR a n q f u best) (hb : ∀ i, -99 ≤ a i ∧ a i ≤ 99) (hq : 1 ≤ q ∧ q ≤ 4) : 0 ≤ best ∧ best ≤ 1000000000 := by
  rcases h with ⟨h1, -⟩ | ⟨h1, -⟩
  · omega
  · have := PI_b hb (by omega) h1
    omega
theorem m_div_57 {M : Mm} {v n : Int} {a : Int → Int} (h : Mse M v n a) (k37 k44 : Int32 → Mm → Rs Unit) {q f : Int} (hq : 1 ≤ q ∧ q ≤ 4) (hf : 0 ≤ f ∧ f ≤ 20) {g : Int → Int} (hg : ∀ x, 0 ≤ x → x ≤ 20 → LQ a n (q - 1) x (g (21 * (q - 1) + x))) : ∀ (k : Nat) (best u : Int), LR a n q f u best → f ≤ u → (u ≤ n ∨ u = f) → n - u < k → 1 ≤ k → ∃ x, LQ a n q f x ∧ fn_Mo_divide_57 k37 k44 (zI v) (zI q) (zI f) k (zI best) (zI u) (S1 M 37 g) = k44 (zI (f + 1)) (S1 M 37 (upI g (21 * q + f) x)) := by
  have hv := h.s
  have hn := h.n
  have hse := h.s1 37 (by omega) g
  intro k
  induction k with
  | zero => intros; omega
  | succ k ih =>
    intro best u hl u0 u1 u2 u3
    have bb := hl.b h.b hq
    rw [fn_Mo_divide_57]
    by_cases c : n ≤ u
    · have hl2 : LR a n q f n best := by
        by_cases c2 : u = n
        · rw [c2] at hl
          exact hl
        · -- nothing lies from f on
          rcases hl with ⟨h1, h2⟩ | ⟨h1, h2⟩
          · exact .inl ⟨h1, fun t c t1 t2 => by omega⟩
          · have := PI_feas (by omega) h1
            omega
      refine ⟨best, hl2.done hq.1, ?_⟩
      simp (disch := omega) only [zlit, zI_add, zI_sub, zI_mul, zI_neg, zI_lt, zI_le, zI_eq, zI_cl, zI_max, zI_min, zI_abs, bnd_ok, bnd_ex, lm_eq, li_eq, grd_inb, grd_ser, grd_z, grd_lt, if_true, if_false, if_pos, if_neg, hse.many, fn_Mo_divide_89, S1_set]
    · have hx := hg (u + 1) (by omega) (by omega)
      have bx := hx.b h.b (by omega)
      have be := erF_b h.b u0
      obtain ⟨x, e1, e2⟩ := ih (min best (erF a f u + g (21 * (q - 1) + (u + 1)))) (u + 1) (hl.next h.b hq ⟨u0, by omega⟩ hx) (by omega) (by omega) (by omega) (by omega)
      refine ⟨x, e1, ?_⟩
      have e3 := m_withFirst h (M := M) (q := q) (f := f) (t := u) (g := g) hq hf.1 u0 (by omega)
      rw [Int.add_assoc (21 * (q - 1)) u 1] at e3
      simp (disch := omega) only [zlit, zI_add, zI_sub, zI_mul, zI_neg, zI_lt, zI_le, zI_eq, zI_cl, zI_max, zI_min, zI_abs, bnd_ok, bnd_ex, lm_eq, li_eq, grd_inb, grd_ser, grd_z, grd_lt, if_true, if_false, if_pos, if_neg, hse.many, e3, mo_less, e2]
theorem m_div_44 {M : Mm} {v n : Int} {a : Int → Int} (h : Mse M v n a) (k37 : Int32 → Mm → Rs Unit) {q : Int} (hq : 1 ≤ q ∧ q ≤ 4) : ∀ (k : Nat) (f : Int) (g : Int → Int), (∀ p x, 0 ≤ p → 0 ≤ x → x ≤ 20 → (p < q ∨ (p = q ∧ x < f)) → LQ a n p x (g (21 * p + x))) → 0 ≤ f → f ≤ 21 → 21 - f < k → ∃ g2, (∀ p x, 0 ≤ p → 0 ≤ x → x ≤ 20 → p < q + 1 → LQ a n p x (g2 (21 * p + x))) ∧ fn_Mo_divide_44 k37 (zI v) (zI q) k (zI f) (S1 M 37 g) = k37 (zI (q + 1)) (S1 M 37 g2) := by
  have hv := h.s
  have hn := h.n
  intro k
  induction k with
  | zero => intros; omega
  | succ k ih =>
    intro f g hg f0 f1 f2
    rw [fn_Mo_divide_44]
    by_cases c : 20 < f
    · refine ⟨g, fun p x p1 p2 p3 p4 => hg p x p1 p2 p3 (by omega), ?_⟩
      simp (disch := omega) only [zlit, zI_add, zI_sub, zI_mul, zI_neg, zI_lt, zI_le, zI_eq, zI_cl, zI_max, zI_min, zI_abs, bnd_ok, bnd_ex, lm_eq, li_eq, grd_inb, grd_ser, grd_z, grd_lt, if_true, if_false, if_pos, if_neg, fn_Mo_divide_108]
    · obtain ⟨x, e1, e2⟩ := m_div_57 h (M := M) k37 (fn_Mo_divide_44 k37 (zI v) (zI q) k) (q := q) (f := f) (g := g) hq (by omega) (fun x x1 x2 => hg (q - 1) x (by omega) x1 x2 (by omega)) 2000 1000000000 f (.inl ⟨rfl, fun t c t1 t2 => by omega⟩) (by omega) (by omega) (by omega) (by omega)
      obtain ⟨g2, e3, e4⟩ := ih (f + 1) (upI g (21 * q + f) x) (fun p y p1 p2 p3 p4 => by
        by_cases c2 : p = q ∧ y = f
        · rw [c2.1, c2.2, upI_eq]
          exact e1
        · rw [upI_ne _ _ (by omega)]
          exact hg p y p1 p2 p3 (by omega)) (by omega) (by omega) (by omega)
      refine ⟨g2, e3, ?_⟩
      unfold fuel0
      simp (disch := omega) only [zlit, zI_add, zI_sub, zI_mul, zI_neg, zI_lt, zI_le, zI_eq, zI_cl, zI_max, zI_min, zI_abs, bnd_ok, bnd_ex, lm_eq, li_eq, grd_inb, grd_ser, grd_z, grd_lt, if_true, if_false, if_pos, if_neg, e2, e4]
theorem m_div_37 {M : Mm} {v n : Int} {a : Int → Int} (h : Mse M v n a) : ∀ (k : Nat) (q : Int) (g : Int → Int), (∀ p x, 0 ≤ p → 0 ≤ x → x ≤ 20 → p < q → LQ a n p x (g (21 * p + x))) → 1 ≤ q → q ≤ 5 → 5 - q < k → ∃ g2, (∀ p x, 0 ≤ p → 0 ≤ x → x ≤ 20 → p < 5 → LQ a n p x (g2 (21 * p + x))) ∧ fn_Mo_divide_37 (zI v) k (zI q) (S1 M 37 g) = some (.inl (), S1 M 37 g2) := by
  have hv := h.s
  have hn := h.n
  intro k
  induction k with
  | zero => intros; omega
  | succ k ih =>
    intro q g hg q0 q1 q2
    rw [fn_Mo_divide_37]
    by_cases c : 5 ≤ q
    · refine ⟨g, fun p x p1 p2 p3 p4 => hg p x p1 p2 p3 (by omega), ?_⟩
      simp (disch := omega) only [zlit, zI_add, zI_sub, zI_mul, zI_neg, zI_lt, zI_le, zI_eq, zI_cl, zI_max, zI_min, zI_abs, bnd_ok, bnd_ex, lm_eq, li_eq, grd_inb, grd_ser, grd_z, grd_lt, if_true, if_false, if_pos, if_neg]
    · obtain ⟨g1, e1, e2⟩ := m_div_44 h (M := M) (fn_Mo_divide_37 (zI v) k) (q := q) (by omega) 2000 0 g (fun p x p1 p2 p3 p4 => hg p x p1 p2 p3 (by omega)) (by omega) (by omega) (by omega)
      obtain ⟨g2, e3, e4⟩ := ih (q + 1) g1 e1 (by omega) (by omega) (by omega)
      refine ⟨g2, e3, ?_⟩
      unfold fuel0
      simp (disch := omega) only [zlit, zI_add, zI_sub, zI_mul, zI_neg, zI_lt, zI_le, zI_eq, zI_cl, zI_max, zI_min, zI_abs, bnd_ok, bnd_ex, lm_eq, li_eq, grd_inb, grd_ser, grd_z, grd_lt, if_true, if_false, if_pos, if_neg, e2, e4]
theorem m_div_2 {M : Mm} {v n : Int} {a : Int → Int} (h : Mse M v n a) : ∀ (k : Nat) (u : Int) (g : Int → Int), (∀ x, 0 ≤ x → x < u → g x = if x = n then 0 else 1000000000) → 0 ≤ u → u ≤ 21 → 21 - u < k → ∃ g2, (∀ p x, 0 ≤ p → 0 ≤ x → x ≤ 20 → p < 5 → LQ a n p x (g2 (21 * p + x))) ∧ fn_Mo_divide_2 (zI v) k (zI u) (S1 M 37 g) = some (.inl (), S1 M 37 g2) := by
  have hv := h.s
  have hn := h.n
  intro k
  induction k with
  | zero => intros; omega
  | succ k ih =>
    intro u g hg u0 u1 u2
    have hse := h.s1 37 (by omega) g
    rw [fn_Mo_divide_2]
    by_cases c : 20 < u
    · obtain ⟨g2, e1, e2⟩ := m_div_37 h (M := M) 2000 1 g (fun p x p1 p2 p3 p4 => by
        have ep : p = 0 := by omega
        rw [ep, show 21 * 0 + x = x by omega, hg x p2 (by omega)]
        by_cases cx : x = n
        · rw [if_pos cx, cx]
          exact .inl ⟨PI_0.mpr ⟨rfl, rfl⟩, fun c hc => by have := (PI_0.mp hc).2; omega⟩
        · rw [if_neg cx]
          exact .inr ⟨rfl, fun c hc => cx (PI_0.mp hc).1⟩) (by omega) (by omega) (by omega)
      refine ⟨g2, e1, ?_⟩
      simp (disch := omega) only [zlit, zI_add, zI_sub, zI_mul, zI_neg, zI_lt, zI_le, zI_eq, zI_cl, zI_max, zI_min, zI_abs, bnd_ok, bnd_ex, lm_eq, li_eq, grd_inb, grd_ser, grd_z, grd_lt, if_true, if_false, if_pos, if_neg, fn_Mo_divide_35, fuel0, e2]
    · have hstep : ∀ z, z = (if u = n then 0 else 1000000000) → ∃ g2, (∀ p x, 0 ≤ p → 0 ≤ x → x ≤ 20 → p < 5 → LQ a n p x (g2 (21 * p + x))) ∧ fn_Mo_divide_2 (zI v) k (zI (u + 1)) (S1 M 37 (upI g u z)) = some (.inl (), S1 M 37 g2) := fun z hz => ih (u + 1) (upI g u z) (fun x x1 x2 => by
        by_cases cx : x = u
        · rw [cx, upI_eq, hz]
        · rw [upI_ne _ _ cx]
          exact hg x x1 (by omega)) (by omega) (by omega) (by omega)
      by_cases cn : u = n
      · obtain ⟨g2, e1, e2⟩ := hstep 0 (by rw [if_pos cn])
        refine ⟨g2, e1, ?_⟩
        simp (disch := omega) only [zlit, zI_add, zI_sub, zI_mul, zI_neg, zI_lt, zI_le, zI_eq, zI_cl, zI_max, zI_min, zI_abs, bnd_ok, bnd_ex, lm_eq, li_eq, grd_inb, grd_ser, grd_z, grd_lt, if_true, if_false, if_pos, if_neg, hse.many, fn_Mo_divide_28, S1_set, e2]
      · obtain ⟨g2, e1, e2⟩ := hstep 1000000000 (by rw [if_neg cn])
        refine ⟨g2, e1, ?_⟩
        simp (disch := omega) only [zlit, zI_add, zI_sub, zI_mul, zI_neg, zI_lt, zI_le, zI_eq, zI_cl, zI_max, zI_min, zI_abs, bnd_ok, bnd_ex, lm_eq, li_eq, grd_inb, grd_ser, grd_z, grd_lt, if_true, if_false, if_pos, if_neg, hse.many, fn_Mo_divide_28, S1_set, e2]
theorem Mse.divide {M : Mm} {v n : Int} {a : Int → Int} (h : Mse M v n a) : ∃ g2, (∀ p x, 0 ≤ p → 0 ≤ x → x ≤ 20 → p < 5 → LQ a n p x (g2 (21 * p + x))) ∧ fn_Mo_divide (zI v) M = some (.inl (), S1 M 37 g2) := by
  obtain ⟨g2, e1, e2⟩ := m_div_2 h (M := M) 2000 0 (fun i => (M 37 i.toNat).toInt) (fun x x1 x2 => by omega) (by omega) (by omega) (by omega)
  rw [S1_self] at e2
  refine ⟨g2, e1, ?_⟩
  unfold fn_Mo_divide fuel0
  simp (disch := omega) only [zlit, zI_add, zI_sub, zI_mul, zI_neg, zI_lt, zI_le, zI_eq, zI_cl, zI_max, zI_min, zI_abs, bnd_ok, bnd_ex, lm_eq, li_eq, grd_inb, grd_ser, grd_z, grd_lt, if_true, if_false, if_pos, if_neg, e2]
/-! the calls -/
theorem SA_div {M : Mm} {s q n : Int} {a : Int → Int} (hs : 0 ≤ s ∧ s < 4) (h : Ser M (s.toNat + 2) n a) (hq : 1 ≤ q ∧ q ≤ 4) (hn : q ≤ n) : fn_SA_divisibleSeries (zI s) (zI q) M = some (.inl (s.toNat + 2), M) := by
  have hn2 := h.n
  unfold fn_SA_divisibleSeries
  simp (disch := omega) only [zlit, zI_add, zI_sub, zI_mul, zI_neg, zI_lt, zI_le, zI_eq, zI_cl, zI_max, zI_min, zI_abs, bnd_ok, bnd_ex, lm_eq, li_eq, grd_inb, grd_ser, grd_z, grd_lt, if_true, if_false, if_pos, if_neg, SA_in, h.size]
theorem SA_div_1 {M : Mm} {s q n : Int} {a : Int → Int} (hs : 0 ≤ s ∧ s < 4) (h : Ser M (s.toNat + 2) n a) (hr : -2147483648 ≤ q ∧ q < 2147483648) (hq : ¬ (1 ≤ q ∧ q ≤ 4)) : fn_SA_divisibleSeries (zI s) (zI q) M = some (.inr 1, M) := by
  unfold fn_SA_divisibleSeries
  by_cases c : q < 1
  · simp (disch := omega) only [zlit, zI_add, zI_sub, zI_mul, zI_neg, zI_lt, zI_le, zI_eq, zI_cl, zI_max, zI_min, zI_abs, bnd_ok, bnd_ex, lm_eq, li_eq, grd_inb, grd_ser, grd_z, grd_lt, if_true, if_false, if_pos, if_neg, SA_in]
  · simp (disch := omega) only [zlit, zI_add, zI_sub, zI_mul, zI_neg, zI_lt, zI_le, zI_eq, zI_cl, zI_max, zI_min, zI_abs, bnd_ok, bnd_ex, lm_eq, li_eq, grd_inb, grd_ser, grd_z, grd_lt, if_true, if_false, if_pos, if_neg, SA_in]
theorem SA_div_2 {M : Mm} {s q n : Int} {a : Int → Int} (hs : 0 ≤ s ∧ s < 4) (h : Ser M (s.toNat + 2) n a) (hq : 1 ≤ q ∧ q ≤ 4) (hn : n < q) : fn_SA_divisibleSeries (zI s) (zI q) M = some (.inr 2, M) := by
  have hn2 := h.n
  unfold fn_SA_divisibleSeries
  simp (disch := omega) only [zlit, zI_add, zI_sub, zI_mul, zI_neg, zI_lt, zI_le, zI_eq, zI_cl, zI_max, zI_min, zI_abs, bnd_ok, bnd_ex, lm_eq, li_eq, grd_inb, grd_ser, grd_z, grd_lt, if_true, if_false, if_pos, if_neg, SA_in, h.size]
theorem SA_div_0 {M : Mm} {s q : Int} (hr : -2147483648 ≤ s ∧ s < 2147483648) (hs : ¬ (0 ≤ s ∧ s < 4)) : fn_SA_divisibleSeries (zI s) (zI q) M = some (.inr 0, M) := by
  unfold fn_SA_divisibleSeries
  simp (disch := omega) only [zlit, zI_add, zI_sub, zI_mul, zI_neg, zI_lt, zI_le, zI_eq, zI_cl, zI_max, zI_min, zI_abs, bnd_ok, bnd_ex, lm_eq, li_eq, grd_inb, grd_ser, grd_z, grd_lt, if_true, if_false, if_pos, if_neg, SA_in_no]
def cdF (N : Int → Int) (p q : Int) : Int := if 0 ≤ p ∧ p < 4 then (if 1 ≤ q ∧ q ≤ 4 then (if q ≤ N p then 0 else 3) else 2) else 1
theorem mo_cannotDivide {N : Int → Int} {A : Int → Int → Int} {p q : Int} (hp : -2147483648 ≤ p ∧ p < 2147483648) (hq : -2147483648 ≤ q ∧ q < 2147483648) {M : Mm} (K : Ms N A M) : fn_Mo_cannotDivide (zI p) (zI q) M = some (.inl (zI (cdF N p q)), M) := by
  unfold fn_Mo_cannotDivide cdF
  by_cases c : 0 ≤ p ∧ p < 4
  · have k := K p c.1 c.2
    have hn := k.n
    by_cases c2 : 1 ≤ q ∧ q ≤ 4
    · by_cases c3 : q ≤ N p
      · simp (disch := omega) only [zlit, zI_add, zI_sub, zI_mul, zI_neg, zI_lt, zI_le, zI_eq, zI_cl, zI_max, zI_min, zI_abs, bnd_ok, bnd_ex, lm_eq, li_eq, grd_inb, grd_ser, grd_z, grd_lt, if_true, if_false, if_pos, if_neg, mo_slot, mo_in, k.many]
      · simp (disch := omega) only [zlit, zI_add, zI_sub, zI_mul, zI_neg, zI_lt, zI_le, zI_eq, zI_cl, zI_max, zI_min, zI_abs, bnd_ok, bnd_ex, lm_eq, li_eq, grd_inb, grd_ser, grd_z, grd_lt, if_true, if_false, if_pos, if_neg, mo_slot, mo_in, k.many]
    · simp (disch := omega) only [zlit, zI_add, zI_sub, zI_mul, zI_neg, zI_lt, zI_le, zI_eq, zI_cl, zI_max, zI_min, zI_abs, bnd_ok, bnd_ex, lm_eq, li_eq, grd_inb, grd_ser, grd_z, grd_lt, if_true, if_false, if_pos, if_neg, mo_slot, mo_in]
  · simp (disch := omega) only [zlit, zI_add, zI_sub, zI_mul, zI_neg, zI_lt, zI_le, zI_eq, zI_cl, zI_max, zI_min, zI_abs, bnd_ok, bnd_ex, lm_eq, li_eq, grd_inb, grd_ser, grd_z, grd_lt, if_true, if_false, if_pos, if_neg, mo_slot]
theorem cdF_1 {N : Int → Int} {p q : Int} (c : ¬ (0 ≤ p ∧ p < 4)) : cdF N p q = 1 := if_neg c
theorem cdF_2 {N : Int → Int} {p q : Int} (c : 0 ≤ p ∧ p < 4) (c2 : ¬ (1 ≤ q ∧ q ≤ 4)) : cdF N p q = 2 := by
  unfold cdF
  rw [if_pos c, if_neg c2]
theorem cdF_3 {N : Int → Int} {p q : Int} (c : 0 ≤ p ∧ p < 4) (c2 : 1 ≤ q ∧ q ≤ 4) (c3 : N p < q) : cdF N p q = 3 := by
  unfold cdF
  rw [if_pos c, if_pos c2, if_neg (by omega)]
theorem cdF_0 {N : Int → Int} {p q : Int} (c : 0 ≤ p ∧ p < 4) (c2 : 1 ≤ q ∧ q ≤ 4) (c3 : q ≤ N p) : cdF N p q = 0 := by
  unfold cdF
  rw [if_pos c, if_pos c2, if_pos c3]
theorem Q_err {f g : Int32 → Int32 → Mm → Rs Int32} {p q : Int} (hp : -2147483648 ≤ p ∧ p < 2147483648) (hq : -2147483648 ≤ q ∧ q < 2147483648)
    (hg : ∀ M, g (zI p) (zI q) M = bnd (fn_Mo_errorOf (zI p) (zI q) M) (fun r M => some (.inl r, M)))
    (hf1 : ∀ M N A m, Cs N A M → 0 ≤ p ∧ p < 4 → 1 ≤ q ∧ q ≤ 4 → q ≤ N p → MinP (A p) q 0 (N p) m → CR (f (zI p) (zI q) M) M (.inl (zI m)))
    (hf2 : ∀ M c, fn_SA_divisibleSeries (zI p) (zI q) M = some (.inr c, M) → f (zI p) (zI q) M = some (.inr c, M)) : AgR (f (zI p) (zI q)) [(0, 1), (1, 2), (2, 3)] (g (zI p) (zI q)) := by
  intro M N A H K
  by_cases c : 0 ≤ p ∧ p < 4
  · have h := H p c.1 c.2
    have hn := h.n
    by_cases c2 : 1 ≤ q ∧ q ≤ 4
    · by_cases c3 : q ≤ N p
      · obtain ⟨m, hm⟩ := h.minEx c2 c3
        refine .inl ⟨zI m, hf1 M N A m H c c2 c3 hm, fun M' K' => ?_⟩
        have k2 := (K' p c.1 c.2).set (k := 32) (by decide) 6 (zI 0)
        obtain ⟨g2, e1, e2⟩ := k2.divide
        have e3 := e1 q 0 (by omega) (by omega) (by omega) (by omega)
        rw [Int.add_zero] at e3
        have e4 : g2 (21 * q) = m := by
          rcases e3 with e3 | ⟨-, e3⟩
          · exact e3.uniq hm
          · exact absurd hm.1 (e3 m)
        refine ⟨S1 (mset M' 32 6 (zI 0)) 37 g2, ?_, (Off.th M' _).tr (S1_off _ 37 _ (by omega)), ?_, ?_, ?_⟩
        · rw [hg]
          unfold fn_Mo_errorOf
          simp (disch := omega) only [zlit, zI_add, zI_sub, zI_mul, zI_neg, zI_lt, zI_le, zI_eq, zI_cl, zI_max, zI_min, zI_abs, bnd_ok, bnd_ex, lm_eq, li_eq, grd_inb, grd_ser, grd_z, grd_lt, if_true, if_false, if_pos, if_neg, mo_cannotDivide hp hq K', cdF_0 c c2 c3, mset_at, e2, S1_get, e4]
        · rw [S1_ne _ _ (by decide), mset_at]
          rfl
        · rw [S1_ne _ _ (by decide), mset_ne _ _ _ (by decide)]
        · rw [S1_ne _ _ (by decide), mset_ne _ _ _ (by decide)]
      · refine .inr ⟨2, 0, 3, CR.of (hf2 M 2 (SA_div_2 c h c2 (by omega))), rfl, by decide, MR.of (fun M' K' => ?_)⟩
        rw [hg]
        unfold fn_Mo_errorOf
        simp (disch := omega) only [zlit, zI_add, zI_sub, zI_mul, zI_neg, zI_lt, zI_le, zI_eq, zI_cl, zI_max, zI_min, zI_abs, bnd_ok, bnd_ex, lm_eq, li_eq, grd_inb, grd_ser, grd_z, grd_lt, if_true, if_false, if_pos, if_neg, mo_cannotDivide hp hq K', cdF_3 c c2, mset_at]
    · refine .inr ⟨1, 0, 2, CR.of (hf2 M 1 (SA_div_1 c h hq c2)), rfl, by decide, MR.of (fun M' K' => ?_)⟩
      rw [hg]
      unfold fn_Mo_errorOf
      simp (disch := omega) only [zlit, zI_add, zI_sub, zI_mul, zI_neg, zI_lt, zI_le, zI_eq, zI_cl, zI_max, zI_min, zI_abs, bnd_ok, bnd_ex, lm_eq, li_eq, grd_inb, grd_ser, grd_z, grd_lt, if_true, if_false, if_pos, if_neg, mo_cannotDivide hp hq K', cdF_2 c c2, mset_at]
  · refine .inr ⟨0, 0, 1, CR.of (hf2 M 0 (SA_div_0 hp c)), rfl, by decide, MR.of (fun M' K' => ?_)⟩
    rw [hg]
    unfold fn_Mo_errorOf
    simp (disch := omega) only [zlit, zI_add, zI_sub, zI_mul, zI_neg, zI_lt, zI_le, zI_eq, zI_cl, zI_max, zI_min, zI_abs, bnd_ok, bnd_ex, lm_eq, li_eq, grd_inb, grd_ser, grd_z, grd_lt, if_true, if_false, if_pos, if_neg, mo_cannotDivide hp hq K', cdF_1 c, mset_at]
theorem Q_leastError {p q : Int} (hp : -2147483648 ≤ p ∧ p < 2147483648) (hq : -2147483648 ≤ q ∧ q < 2147483648) : AgR (fn_SA_leastError (zI p) (zI q)) [(0, 1), (1, 2), (2, 3)] (fn_Mo_leastError (zI p) (zI q)) := by
  refine Q_err (f := fn_SA_leastError) (g := fn_Mo_leastError) hp hq (fun M => rfl) (fun M N A m H c c2 c3 hm => ?_) (fun M c e => ?_)
  · have h := H p c.1 c.2
    obtain ⟨M1, e1, o1⟩ := h.error c2 c3 hm
    refine ⟨M1, ?_, o1⟩
    unfold fn_SA_leastError
    simp (disch := omega) only [zlit, zI_add, zI_sub, zI_mul, zI_neg, zI_lt, zI_le, zI_eq, zI_cl, zI_max, zI_min, zI_abs, bnd_ok, bnd_ex, lm_eq, li_eq, grd_inb, grd_ser, grd_z, grd_lt, if_true, if_false, if_pos, if_neg, SA_div c h, e1]
  · unfold fn_SA_leastError
    rw [e]
    rfl
theorem Q_leastErrorByCuts {p q : Int} (hp : -2147483648 ≤ p ∧ p < 2147483648) (hq : -2147483648 ≤ q ∧ q < 2147483648) : AgR (fn_SA_leastErrorByCuts (zI p) (zI q)) [(0, 1), (1, 2), (2, 3)] (fn_Mo_leastErrorByCuts (zI p) (zI q)) := by
  refine Q_err (f := fn_SA_leastErrorByCuts) (g := fn_Mo_leastErrorByCuts) hp hq (fun M => rfl) (fun M N A m H c c2 c3 hm => CR.of ?_) (fun M c e => ?_)
  · have h := H p c.1 c.2
    unfold fn_SA_leastErrorByCuts
    simp (disch := omega) only [zlit, zI_add, zI_sub, zI_mul, zI_neg, zI_lt, zI_le, zI_eq, zI_cl, zI_max, zI_min, zI_abs, bnd_ok, bnd_ex, lm_eq, li_eq, grd_inb, grd_ser, grd_z, grd_lt, if_true, if_false, if_pos, if_neg, SA_div c h, h.byCuts c2 c3 hm]
  · unfold fn_SA_leastErrorByCuts
    rw [e]
    rfl
/-! where a segment begins -/
/-- c is the first cut behind f of a best division into q segments -/
def CutIs (a : Int → Int) (n q f c : Int) : Prop := (f < c ∧ c + (q - 1) ≤ n) ∧ (∃ m m', MinP a q f n m ∧ MinP a (q - 1) c n m' ∧ m = erF a f (c - 1) + m') ∧ ∀ d, f < d → d < c → ∀ m m', MinP a q f n m → MinP a (q - 1) d n m' → m ≠ erF a f (d - 1) + m'
theorem CutIs.uniq {a : Int → Int} {n q f c d : Int} (h : CutIs a n q f c) (k : CutIs a n q f d) : c = d := by
  obtain ⟨h1, ⟨m, m', h2, h3, h4⟩, h5⟩ := h
  obtain ⟨k1, ⟨l, l', k2, k3, k4⟩, k5⟩ := k
  by_cases c1 : c < d
  · exact absurd h4 (k5 c h1.1 c1 m m' h2 h3)
  · by_cases c2 : d < c
    · exact absurd k4 (h5 d k1.1 c2 l l' k2 k3)
    · omega
def StIs (a : Int → Int) (n Q : Int) : Nat → Int → Prop
  | 0, s => s = 0
  | i + 1, s => ∃ s', StIs a n Q i s' ∧ CutIs a n (Q - i) s' s
theorem StIs.uniq {a : Int → Int} {n Q : Int} : ∀ (i : Nat) (s t : Int), StIs a n Q i s → StIs a n Q i t → s = t := by
  intro i
  induction i with
  | zero => intro s t h k; have h : s = 0 := h; have k : t = 0 := k; omega
  | succ i ih =>
    intro s t h k
    obtain ⟨s', h1, h2⟩ := h
    obtain ⟨t', k1, k2⟩ := k
    have := ih s' t' h1 k1
    rw [this] at h2
    exact h2.uniq k2
theorem Min_ex {a : Int → Int} {q f n : Int} {x : Int} (h : LQ a n q f x) (hq : 1 ≤ q) (hf : f + q ≤ n) : MinP a q f n x := by
  rcases h with h | ⟨-, h⟩
  · exact h
  · obtain ⟨c, hc⟩ := PI_some (a := a) hq hf
    exact absurd hc (h c)
/-- a best division has a first cut -/
theorem Cut_some {a : Int → Int} {q f n m : Int} (hm : MinP a q f n m) (hq : 2 ≤ q) : ∃ t m', f ≤ t ∧ t + 1 + (q - 1) ≤ n ∧ MinP a (q - 1) (t + 1) n m' ∧ m = erF a f t + m' := by
  obtain ⟨t, c', k1, k2, k3, k4⟩ := (PI_s (by omega)).mp hm.1
  have kf := PI_feas (by omega) k3
  refine ⟨t, c', k1, by omega, ⟨k3, fun c hc => ?_⟩, k4⟩
  have := hm.2 _ ((PI_s (by omega)).mpr ⟨t, c, k1, k2, hc, rfl⟩)
  omega
/-! the class: by endings -/
theorem c_end_26 {M : Mm} {v : Nat} {n : Int} {a : Int → Int} (h : Ser M v n a) {q f : Int} {g : Int → Int} (hq : 2 ≤ q ∧ q ≤ 4) (hf : 0 ≤ f ∧ f + q ≤ n) (hg : ∀ t, f < t → t + (q - 1) ≤ n → MinP a (q - 1) t n (g ((q - 1) * 21 + t))) : ∀ (k : Nat) (best u : Int), CutB a n q f u best → f < u → u ≤ n - q + 2 → n - q + 2 - u < k → ∃ m, MinP a q f n m ∧ fn_Di_errorOfEnding_26 v (zI q) (zI f) k (zI best) (zI u) (S1 M 29 g) = some (.inl (zI m), S1 M 29 g) := by
  have hv := h.v
  have hn := h.n
  have hse := h.s1 29 (by omega) g
  intro k
  induction k with
  | zero => intros; omega
  | succ k ih =>
    intro best u hc u1 u2 u3
    have hb := hc.b h.b (by omega)
    rw [fn_Di_errorOfEnding_26]
    by_cases cu : n - q + 1 < u
    · refine ⟨best, hc.min (by omega) cu (PI_some (by omega) hf.2), ?_⟩
      simp (disch := omega) only [zlit, zI_add, zI_sub, zI_mul, zI_neg, zI_lt, zI_le, zI_eq, zI_cl, zI_max, zI_min, zI_abs, bnd_ok, bnd_ex, lm_eq, li_eq, grd_inb, grd_ser, grd_z, grd_lt, if_true, if_false, if_pos, if_neg, hse.size]
    · have hm := hg u u1 (by omega)
      have b1 := PI_b h.b (by omega) hm.1
      have b2 := erF_b h.b (f := f) (t := u - 1) (by omega)
      obtain ⟨m2, e1, e2⟩ := ih (min best (erF a f (u - 1) + g ((q - 1) * 21 + u))) (u + 1) (hc.next h.b (by omega) ⟨u1, by omega⟩ hm) (by omega) (by omega) (by omega)
      refine ⟨m2, e1, ?_⟩
      simp (disch := omega) only [zlit, zI_add, zI_sub, zI_mul, zI_neg, zI_lt, zI_le, zI_eq, zI_cl, zI_max, zI_min, zI_abs, bnd_ok, bnd_ex, lm_eq, li_eq, grd_inb, grd_ser, grd_z, grd_lt, if_true, if_false, if_pos, if_neg, hse.size, fn_Di_errorWithCut, hse.spread, rd29, e2]
theorem c_ending {M : Mm} {v : Nat} {n : Int} {a : Int → Int} (h : Ser M v n a) {q f : Int} {g : Int → Int} (hq : 1 ≤ q ∧ q ≤ 4) (hf : 0 ≤ f ∧ f + q ≤ n) (hg : 2 ≤ q → ∀ t, f < t → t + (q - 1) ≤ n → MinP a (q - 1) t n (g ((q - 1) * 21 + t))) : ∃ m, MinP a q f n m ∧ fn_Di_errorOfEnding v (zI q) (zI f) (S1 M 29 g) = some (.inl (zI m), S1 M 29 g) := by
  have hv := h.v
  have hn := h.n
  have hse := h.s1 29 (by omega) g
  unfold fn_Di_errorOfEnding fuel0
  by_cases c : q = 1
  · refine ⟨erF a f (n - 1), by rw [c]; exact MinP_1 (by omega), ?_⟩
    simp (disch := omega) only [zlit, zI_add, zI_sub, zI_mul, zI_neg, zI_lt, zI_le, zI_eq, zI_cl, zI_max, zI_min, zI_abs, bnd_ok, bnd_ex, lm_eq, li_eq, grd_inb, grd_ser, grd_z, grd_lt, if_true, if_false, if_pos, if_neg, hse.size, hse.spread]
  · obtain ⟨m, e1, e2⟩ := c_end_26 h (M := M) (by omega) hf (hg (by omega)) 2000 1000000 (f + 1) (CutB.init a n q f) (by omega) (by omega) (by omega)
    refine ⟨m, e1, ?_⟩
    simp (disch := omega) only [zlit, zI_add, zI_sub, zI_mul, zI_neg, zI_lt, zI_le, zI_eq, zI_cl, zI_max, zI_min, zI_abs, bnd_ok, bnd_ex, lm_eq, li_eq, grd_inb, grd_ser, grd_z, grd_lt, if_true, if_false, if_pos, if_neg, e2]
theorem c_start_12 {M : Mm} {v : Nat} {n : Int} {a : Int → Int} (h : Ser M v n a) (k3 : Int32 → Mm → Rs Int32) {Q S q : Int} (hq : 1 ≤ q ∧ q ≤ 4) (hqn : q ≤ n) : ∀ (k : Nat) (f : Int) (g : Int → Int), (∀ p t, 1 ≤ p → 0 ≤ t → t + p ≤ n → (p < q ∨ (p = q ∧ t < f)) → MinP a p t n (g (p * 21 + t))) → 0 ≤ f → f ≤ n - q + 1 → n - q + 1 - f < k → ∃ g2, (∀ p t, 1 ≤ p → 0 ≤ t → t + p ≤ n → p < q + 1 → MinP a p t n (g2 (p * 21 + t))) ∧ fn_Di_start_12 k3 v (zI Q) (zI S) (zI q) k (zI f) (S1 M 29 g) = k3 (zI (q + 1)) (S1 M 29 g2) := by
  have hv := h.v
  have hn := h.n
  intro k
  induction k with
  | zero => intros; omega
  | succ k ih =>
    intro f g hg f0 f1 f2
    have hse := h.s1 29 (by omega) g
    rw [fn_Di_start_12]
    by_cases c : n - q < f
    · refine ⟨g, fun p t p1 p2 p3 p4 => hg p t p1 p2 p3 (by omega), ?_⟩
      simp (disch := omega) only [zlit, zI_add, zI_sub, zI_mul, zI_neg, zI_lt, zI_le, zI_eq, zI_cl, zI_max, zI_min, zI_abs, bnd_ok, bnd_ex, lm_eq, li_eq, grd_inb, grd_ser, grd_z, grd_lt, if_true, if_false, if_pos, if_neg, hse.size, fn_Di_start_54]
    · obtain ⟨m, e1, e2⟩ := c_ending h (M := M) (q := q) (f := f) (g := g) hq ⟨f0, by omega⟩ (fun z t t1 t2 => hg (q - 1) t (by omega) (by omega) (by omega) (by omega))
      obtain ⟨g2, e3, e4⟩ := ih (f + 1) (upI g (q * 21 + f) m) (fun p t p1 p2 p3 p4 => by
        by_cases c2 : p = q ∧ t = f
        · rw [c2.1, c2.2, upI_eq]
          exact e1
        · rw [upI_ne _ _ (by omega)]
          exact hg p t p1 p2 p3 (by omega)) (by omega) (by omega) (by omega)
      refine ⟨g2, e3, ?_⟩
      simp (disch := omega) only [zlit, zI_add, zI_sub, zI_mul, zI_neg, zI_lt, zI_le, zI_eq, zI_cl, zI_max, zI_min, zI_abs, bnd_ok, bnd_ex, lm_eq, li_eq, grd_inb, grd_ser, grd_z, grd_lt, if_true, if_false, if_pos, if_neg, hse.size, e2, wr29, e4]
theorem c_cut_20 {M : Mm} {v : Nat} {n : Int} {a : Int → Int} (h : Ser M v n a) {q f : Int} {g : Int → Int} (hq : 2 ≤ q ∧ q ≤ 4) (hf : 0 ≤ f ∧ f + q ≤ n) (hg : ∀ p t, 1 ≤ p → 0 ≤ t → t + p ≤ n → p < 5 → p ≤ q → MinP a p t n (g (p * 21 + t))) : ∀ (k : Nat) (u : Int), (∀ d, f < d → d < u → g (q * 21 + f) ≠ erF a f (d - 1) + g ((q - 1) * 21 + d)) → f < u → u ≤ n - q + 2 → n - q + 2 - u < k → ∃ c, CutIs a n q f c ∧ fn_Di_firstCut_20 v (zI q) (zI f) (zI (g (q * 21 + f))) k (zI u) (S1 M 29 g) = some (.inl (zI c), S1 M 29 g) := by
  have hv := h.v
  have hn := h.n
  have hse := h.s1 29 (by omega) g
  have hm := hg q f (by omega) hf.1 hf.2 (by omega) (by omega)
  have bm := PI_b h.b (by omega) hm.1
  intro k
  induction k with
  | zero => intros; omega
  | succ k ih =>
    intro u hd u1 u2 u3
    rw [fn_Di_firstCut_20]
    by_cases cu : n - q + 1 < u
    · -- there is a cut
      obtain ⟨t, m', t1, t2, t3, t4⟩ := Cut_some hm hq.1
      have := hd (t + 1) (by omega) (by omega)
      rw [show t + 1 - 1 = t by omega, (hg (q - 1) (t + 1) (by omega) (by omega) (by omega) (by omega) (by omega)).uniq t3] at this
      exact absurd t4 this
    · have hm' := hg (q - 1) u (by omega) (by omega) (by omega) (by omega) (by omega)
      have b1 := PI_b h.b (by omega) hm'.1
      have b2 := erF_b h.b (f := f) (t := u - 1) (by omega)
      by_cases c2 : g (q * 21 + f) = erF a f (u - 1) + g ((q - 1) * 21 + u)
      · refine ⟨u, ⟨⟨u1, by omega⟩, ⟨_, _, hm, hm', c2⟩, fun d d1 d2 l l' k1 k2 => ?_⟩, ?_⟩
        · rw [k1.uniq hm, k2.uniq (hg (q - 1) d (by omega) (by omega) (by omega) (by omega) (by omega))]
          exact hd d d1 d2
        · simp (disch := omega) only [zlit, zI_add, zI_sub, zI_mul, zI_neg, zI_lt, zI_le, zI_eq, zI_cl, zI_max, zI_min, zI_abs, bnd_ok, bnd_ex, lm_eq, li_eq, grd_inb, grd_ser, grd_z, grd_lt, if_true, if_false, if_pos, if_neg, hse.size, fn_Di_errorWithCut, hse.spread, rd29]
      · obtain ⟨c, e1, e2⟩ := ih (u + 1) (fun d d1 d2 => by
          by_cases c3 : d = u
          · rw [c3]; exact c2
          · exact hd d d1 (by omega)) (by omega) (by omega) (by omega)
        refine ⟨c, e1, ?_⟩
        simp (disch := omega) only [zlit, zI_add, zI_sub, zI_mul, zI_neg, zI_lt, zI_le, zI_eq, zI_cl, zI_max, zI_min, zI_abs, bnd_ok, bnd_ex, lm_eq, li_eq, grd_inb, grd_ser, grd_z, grd_lt, if_true, if_false, if_pos, if_neg, hse.size, fn_Di_errorWithCut, hse.spread, rd29, e2]
theorem c_start_66 {M : Mm} {v : Nat} {n : Int} {a : Int → Int} (h : Ser M v n a) {Q S : Int} {g : Int → Int} (hQ : 1 ≤ Q ∧ Q ≤ 4) (hS : 0 ≤ S ∧ S < Q) (hg : ∀ p t, 1 ≤ p → 0 ≤ t → t + p ≤ n → p < Q + 1 → MinP a p t n (g (p * 21 + t))) : ∀ (k : Nat) (i : Nat) (s : Int), StIs a n Q i s → 0 ≤ s → s + (Q - i) ≤ n → (i : Int) ≤ S → S - i < k → ∃ r, StIs a n Q S.toNat r ∧ fn_Di_start_66 v (zI Q) (zI S) k (zI s) (zI i) (S1 M 29 g) = some (.inl (zI r), S1 M 29 g) := by
  have hv := h.v
  have hn := h.n
  have hse := h.s1 29 (by omega) g
  intro k
  induction k with
  | zero => intros; omega
  | succ k ih =>
    intro i s hs s0 s1 i1 i2
    rw [fn_Di_start_66]
    by_cases c : S ≤ i
    · refine ⟨s, by rw [show S.toNat = i by omega]; exact hs, ?_⟩
      simp (disch := omega) only [zlit, zI_add, zI_sub, zI_mul, zI_neg, zI_lt, zI_le, zI_eq, zI_cl, zI_max, zI_min, zI_abs, bnd_ok, bnd_ex, lm_eq, li_eq, grd_inb, grd_ser, grd_z, grd_lt, if_true, if_false, if_pos, if_neg]
    · have hm := hg (Q - i) s (by omega) s0 (by omega) (by omega)
      have bm := PI_b h.b (by omega) hm.1
      obtain ⟨c9, e1, e2⟩ := c_cut_20 h (M := M) (q := Q - i) (f := s) (g := g) (by omega) ⟨s0, by omega⟩ (fun p t p1 p2 p3 p4 p5 => hg p t p1 p2 p3 (by omega)) 2000 (s + 1) (fun d d1 d2 => by omega) (by omega) (by omega) (by omega)
      have e1' := e1.1
      obtain ⟨r, e3, e4⟩ := ih (i + 1) c9 ⟨s, hs, e1⟩ (by omega) (by omega) (by omega) (by omega)
      refine ⟨r, e3, ?_⟩
      rw [show ((i + 1 : Nat) : Int) = (i : Int) + 1 by omega] at e4
      simp (disch := omega) only [zlit, zI_add, zI_sub, zI_mul, zI_neg, zI_lt, zI_le, zI_eq, zI_cl, zI_max, zI_min, zI_abs, bnd_ok, bnd_ex, lm_eq, li_eq, grd_inb, grd_ser, grd_z, grd_lt, if_true, if_false, if_pos, if_neg, fn_Di_firstCut, rd29, fuel0, e2, e4]
theorem c_start_3 {M : Mm} {v : Nat} {n : Int} {a : Int → Int} (h : Ser M v n a) {Q S : Int} (hQ : 1 ≤ Q ∧ Q ≤ 4) (hQn : Q ≤ n) (hS : 0 ≤ S ∧ S < Q) : ∀ (k : Nat) (q : Int) (g : Int → Int), (∀ p t, 1 ≤ p → 0 ≤ t → t + p ≤ n → p < q → MinP a p t n (g (p * 21 + t))) → 1 ≤ q → q ≤ Q + 1 → Q + 1 - q < k → ∃ g2 r, StIs a n Q S.toNat r ∧ fn_Di_start_3 v (zI Q) (zI S) k (zI q) (S1 M 29 g) = some (.inl (zI r), S1 M 29 g2) := by
  have hv := h.v
  have hn := h.n
  intro k
  induction k with
  | zero => intros; omega
  | succ k ih =>
    intro q g hg e0 e1 e2
    rw [fn_Di_start_3]
    by_cases c : Q < q
    · obtain ⟨r, f1, f2⟩ := c_start_66 h (M := M) (g := g) hQ hS (fun p t p1 p2 p3 p4 => hg p t p1 p2 p3 (by omega)) 2000 0 0 rfl (by omega) (by omega) (by omega) (by omega)
      refine ⟨g, r, f1, ?_⟩
      rw [show (((0 : Nat)) : Int) = 0 from rfl] at f2
      simp (disch := omega) only [zlit, zI_add, zI_sub, zI_mul, zI_neg, zI_lt, zI_le, zI_eq, zI_cl, zI_max, zI_min, zI_abs, bnd_ok, bnd_ex, lm_eq, li_eq, grd_inb, grd_ser, grd_z, grd_lt, if_true, if_false, if_pos, if_neg, fn_Di_start_60, fuel0, f2]
    · obtain ⟨g1, f1, f2⟩ := c_start_12 h (M := M) (fn_Di_start_3 v (zI Q) (zI S) k) (Q := Q) (S := S) (q := q) (by omega) (by omega) 2000 0 g (fun p t p1 p2 p3 p4 => hg p t p1 p2 p3 (by omega)) (by omega) (by omega) (by omega)
      obtain ⟨g2, r, f3, f4⟩ := ih (q + 1) g1 f1 (by omega) (by omega) (by omega)
      refine ⟨g2, r, f3, ?_⟩
      unfold fuel0
      simp (disch := omega) only [zlit, zI_add, zI_sub, zI_mul, zI_neg, zI_lt, zI_le, zI_eq, zI_cl, zI_max, zI_min, zI_abs, bnd_ok, bnd_ex, lm_eq, li_eq, grd_inb, grd_ser, grd_z, grd_lt, if_true, if_false, if_pos, if_neg, f2, f4]
theorem Ser.start {M : Mm} {v : Nat} {n : Int} {a : Int → Int} (h : Ser M v n a) {Q S : Int} (hQ : 1 ≤ Q ∧ Q ≤ 4) (hQn : Q ≤ n) (hS : 0 ≤ S ∧ S < Q) : ∃ M1 r, StIs a n Q S.toNat r ∧ fn_Di_start v (zI Q) (zI S) M = some (.inl (zI r), M1) ∧ Off M M1 := by
  have hv := h.v
  have hn := h.n
  obtain ⟨g2, r, e1, e2⟩ := c_start_3 h (M := M) hQ hQn hS 2000 1 (fun i => (M 29 i.toNat).toInt) (fun p t p1 p2 p3 p4 => by omega) (by omega) (by omega) (by omega)
  rw [S1_self] at e2
  refine ⟨S1 M 29 g2, r, e1, ?_, S1_off M 29 _ (by omega)⟩
  unfold fn_Di_start fuel0
  simp (disch := omega) only [zlit, zI_add, zI_sub, zI_mul, zI_neg, zI_lt, zI_le, zI_eq, zI_cl, zI_max, zI_min, zI_abs, bnd_ok, bnd_ex, lm_eq, li_eq, grd_inb, grd_ser, grd_z, grd_lt, if_true, if_false, if_pos, if_neg, e2]
/-! the model's search -/
theorem m_seg_63 {M : Mm} {v n : Int} {a : Int → Int} (h : Mse M v n a) (k53 : Int32 → Int32 → Mm → Rs Int32) {Q S f q : Int} {i : Nat} {g : Int → Int} (hq : 2 ≤ q ∧ q ≤ 4) (hqQ : q = Q - i) (hf : 0 ≤ f ∧ f + q ≤ n) (hg : ∀ p x, 0 ≤ p → 0 ≤ x → x ≤ 20 → p < 5 → LQ a n p x (g (21 * p + x))) : ∀ (k : Nat) (u : Int), (∀ d, f < d → d ≤ u → g (21 * q + f) ≠ erF a f (d - 1) + g (21 * (q - 1) + d)) → f ≤ u → u ≤ n - q + 1 → n - q + 1 - u < k → ∃ c, CutIs a n q f c ∧ fn_Mo_segmentStart_63 k53 (zI v) (zI Q) (zI S) (zI f) (zI i) k (zI u) (S1 M 37 g) = k53 (zI c) (zI (i + 1)) (S1 M 37 g) := by
  have hv := h.s
  have hn := h.n
  have hm := Min_ex (hg q f (by omega) hf.1 (by omega) (by omega)) (by omega) hf.2
  have bm := PI_b h.b (by omega) hm.1
  intro k
  induction k with
  | zero => intros; omega
  | succ k ih =>
    intro u hd u1 u2 u3
    by_cases cu : n - q < u
    · obtain ⟨t, m', t1, t2, t3, t4⟩ := Cut_some hm hq.1
      have := hd (t + 1) (by omega) (by omega)
      have e9 := Min_ex (hg (q - 1) (t + 1) (by omega) (by omega) (by omega) (by omega)) (by omega) (by omega)
      rw [show t + 1 - 1 = t by omega, e9.uniq t3] at this
      exact absurd t4 this
    · rw [fn_Mo_segmentStart_63]
      have hm' := Min_ex (hg (q - 1) (u + 1) (by omega) (by omega) (by omega) (by omega)) (by omega) (by omega)
      have b1 := PI_b h.b (by omega) hm'.1
      have b2 := erF_b h.b u1
      have e3 := m_withFirst h (M := M) (q := q) (f := f) (t := u) (g := g) (by omega) hf.1 u1 (by omega)
      rw [Int.add_assoc (21 * (q - 1)) u 1, hqQ] at e3
      rw [hqQ] at bm b1 hd
      by_cases c2 : g (21 * (Q - i) + f) = erF a f u + g (21 * (Q - i - 1) + (u + 1))
      · refine ⟨u + 1, ⟨⟨by omega, by omega⟩, ⟨_, _, hm, hm', by rw [show u + 1 - 1 = u by omega, hqQ]; exact c2⟩, fun d d1 d2 l l' k1 k2 => ?_⟩, ?_⟩
        · rw [k1.uniq hm, k2.uniq (Min_ex (hg (q - 1) d (by omega) (by omega) (by omega) (by omega)) (by omega) (by omega)), hqQ]
          exact hd d d1 (by omega)
        · simp (disch := omega) only [zlit, zI_add, zI_sub, zI_mul, zI_neg, zI_lt, zI_le, zI_eq, zI_cl, zI_max, zI_min, zI_abs, bnd_ok, bnd_ex, lm_eq, li_eq, grd_inb, grd_ser, grd_z, grd_lt, if_true, if_false, if_pos, if_neg, e3, S1_get, c2, fn_Mo_segmentStart_100]
      · rw [hqQ] at ih
        obtain ⟨c, e1, e2⟩ := ih (u + 1) (fun d d1 d2 => by
          by_cases c3 : d = u + 1
          · rw [c3, show u + 1 - 1 = u by omega]; exact c2
          · exact hd d d1 (by omega)) (by omega) (by omega) (by omega)
        refine ⟨c, by rw [hqQ]; exact e1, ?_⟩
        simp (disch := omega) only [zlit, zI_add, zI_sub, zI_mul, zI_neg, zI_lt, zI_le, zI_eq, zI_cl, zI_max, zI_min, zI_abs, bnd_ok, bnd_ex, lm_eq, li_eq, grd_inb, grd_ser, grd_z, grd_lt, if_true, if_false, if_pos, if_neg, e3, S1_get, e2]
theorem m_seg_53 {M : Mm} {v n : Int} {a : Int → Int} (h : Mse M v n a) {Q S : Int} {g : Int → Int} (hQ : 1 ≤ Q ∧ Q ≤ 4) (hS : 0 ≤ S ∧ S < Q) (hg : ∀ p x, 0 ≤ p → 0 ≤ x → x ≤ 20 → p < 5 → LQ a n p x (g (21 * p + x))) : ∀ (k : Nat) (i : Nat) (s : Int), StIs a n Q i s → 0 ≤ s → s + (Q - i) ≤ n → (i : Int) ≤ S → S - i < k → ∃ r, StIs a n Q S.toNat r ∧ fn_Mo_segmentStart_53 (zI v) (zI Q) (zI S) k (zI s) (zI i) (S1 M 37 g) = some (.inl (zI r), S1 M 37 g) := by
  have hv := h.s
  have hn := h.n
  intro k
  induction k with
  | zero => intros; omega
  | succ k ih =>
    intro i s hs s0 s1 i1 i2
    rw [fn_Mo_segmentStart_53]
    by_cases c : S ≤ i
    · refine ⟨s, by rw [show S.toNat = i by omega]; exact hs, ?_⟩
      simp (disch := omega) only [zlit, zI_add, zI_sub, zI_mul, zI_neg, zI_lt, zI_le, zI_eq, zI_cl, zI_max, zI_min, zI_abs, bnd_ok, bnd_ex, lm_eq, li_eq, grd_inb, grd_ser, grd_z, grd_lt, if_true, if_false, if_pos, if_neg]
    · obtain ⟨c9, e1, e2⟩ := m_seg_63 h (M := M) (fn_Mo_segmentStart_53 (zI v) (zI Q) (zI S) k) (Q := Q) (S := S) (f := s) (q := Q - i) (i := i) (g := g) (by omega) rfl ⟨s0, by omega⟩ hg 2000 s (fun d d1 d2 => by omega) (by omega) (by omega) (by omega)
      have e1' := e1.1
      obtain ⟨r, e3, e4⟩ := ih (i + 1) c9 ⟨s, hs, e1⟩ (by omega) (by omega) (by omega) (by omega)
      refine ⟨r, e3, ?_⟩
      rw [show ((i + 1 : Nat) : Int) = (i : Int) + 1 by omega] at e4
      unfold fuel0
      simp (disch := omega) only [zlit, zI_add, zI_sub, zI_mul, zI_neg, zI_lt, zI_le, zI_eq, zI_cl, zI_max, zI_min, zI_abs, bnd_ok, bnd_ex, lm_eq, li_eq, grd_inb, grd_ser, grd_z, grd_lt, if_true, if_false, if_pos, if_neg, e2, e4]
theorem Q_segmentStart {p q s : Int} (hp : -2147483648 ≤ p ∧ p < 2147483648) (hq : -2147483648 ≤ q ∧ q < 2147483648) (hs : -2147483648 ≤ s ∧ s < 2147483648) : AgR (fn_SA_segmentStart (zI p) (zI q) (zI s)) [(0, 1), (1, 2), (2, 3), (3, 4)] (fn_Mo_segmentStart (zI p) (zI q) (zI s)) := by
  intro M N A H K
  by_cases c : 0 ≤ p ∧ p < 4
  · have h := H p c.1 c.2
    have hn := h.n
    by_cases c2 : 1 ≤ q ∧ q ≤ 4
    · by_cases c3 : q ≤ N p
      · by_cases c4 : 0 ≤ s ∧ s < q
        · obtain ⟨M1, r, f1, f2, o1⟩ := h.start c2 c3 c4
          refine .inl ⟨zI r, ⟨M1, ?_, o1⟩, fun M' K' => ?_⟩
          · unfold fn_SA_segmentStart
            simp (disch := omega) only [zlit, zI_add, zI_sub, zI_mul, zI_neg, zI_lt, zI_le, zI_eq, zI_cl, zI_max, zI_min, zI_abs, bnd_ok, bnd_ex, lm_eq, li_eq, grd_inb, grd_ser, grd_z, grd_lt, if_true, if_false, if_pos, if_neg, SA_div c h, f2]
          have k2 := (K' p c.1 c.2).set (k := 32) (by decide) 6 (zI 0)
          obtain ⟨g2, e1, e2⟩ := k2.divide
          obtain ⟨r2, e3, e4⟩ := m_seg_53 k2 (M := mset M' 32 6 (zI 0)) c2 c4 e1 2000 0 0 rfl (by omega) (by omega) (by omega) (by omega)
          rw [StIs.uniq _ _ _ e3 f1, show (((0 : Nat)) : Int) = 0 from rfl] at e4
          refine ⟨S1 (mset M' 32 6 (zI 0)) 37 g2, ?_, (Off.th M' _).tr (S1_off _ 37 _ (by omega)), ?_, ?_, ?_⟩
          · unfold fn_Mo_segmentStart
            simp (disch := omega) only [zlit, zI_add, zI_sub, zI_mul, zI_neg, zI_lt, zI_le, zI_eq, zI_cl, zI_max, zI_min, zI_abs, bnd_ok, bnd_ex, lm_eq, li_eq, grd_inb, grd_ser, grd_z, grd_lt, if_true, if_false, if_pos, if_neg, mo_cannotDivide hp hq K', cdF_0 c c2 c3, mset_at, mo_in, fn_Mo_segmentStart_33, e2, fuel0, e4]
          · rw [S1_ne _ _ (by decide), mset_at]
            rfl
          · rw [S1_ne _ _ (by decide), mset_ne _ _ _ (by decide)]
          · rw [S1_ne _ _ (by decide), mset_ne _ _ _ (by decide)]
        · refine .inr ⟨3, 0, 4, CR.of ?_, rfl, by decide, MR.of (fun M' K' => ?_)⟩
          · unfold fn_SA_segmentStart
            by_cases c5 : s < 0
            · simp (disch := omega) only [zlit, zI_add, zI_sub, zI_mul, zI_neg, zI_lt, zI_le, zI_eq, zI_cl, zI_max, zI_min, zI_abs, bnd_ok, bnd_ex, lm_eq, li_eq, grd_inb, grd_ser, grd_z, grd_lt, if_true, if_false, if_pos, if_neg, SA_div c h]
            · simp (disch := omega) only [zlit, zI_add, zI_sub, zI_mul, zI_neg, zI_lt, zI_le, zI_eq, zI_cl, zI_max, zI_min, zI_abs, bnd_ok, bnd_ex, lm_eq, li_eq, grd_inb, grd_ser, grd_z, grd_lt, if_true, if_false, if_pos, if_neg, SA_div c h]
          · unfold fn_Mo_segmentStart
            simp (disch := omega) only [zlit, zI_add, zI_sub, zI_mul, zI_neg, zI_lt, zI_le, zI_eq, zI_cl, zI_max, zI_min, zI_abs, bnd_ok, bnd_ex, lm_eq, li_eq, grd_inb, grd_ser, grd_z, grd_lt, if_true, if_false, if_pos, if_neg, mo_cannotDivide hp hq K', cdF_0 c c2 c3, mset_at, mo_in, mset_mset, fn_Mo_segmentStart_33]
      · refine .inr ⟨2, 0, 3, CR.of ?_, rfl, by decide, MR.of (fun M' K' => ?_)⟩
        · unfold fn_SA_segmentStart
          simp (disch := omega) only [zlit, zI_add, zI_sub, zI_mul, zI_neg, zI_lt, zI_le, zI_eq, zI_cl, zI_max, zI_min, zI_abs, bnd_ok, bnd_ex, lm_eq, li_eq, grd_inb, grd_ser, grd_z, grd_lt, if_true, if_false, if_pos, if_neg, SA_div_2 c h]
        · unfold fn_Mo_segmentStart
          simp (disch := omega) only [zlit, zI_add, zI_sub, zI_mul, zI_neg, zI_lt, zI_le, zI_eq, zI_cl, zI_max, zI_min, zI_abs, bnd_ok, bnd_ex, lm_eq, li_eq, grd_inb, grd_ser, grd_z, grd_lt, if_true, if_false, if_pos, if_neg, mo_cannotDivide hp hq K', cdF_3 c c2, mset_at, fn_Mo_segmentStart_33]
    · refine .inr ⟨1, 0, 2, CR.of ?_, rfl, by decide, MR.of (fun M' K' => ?_)⟩
      · unfold fn_SA_segmentStart
        simp (disch := omega) only [zlit, zI_add, zI_sub, zI_mul, zI_neg, zI_lt, zI_le, zI_eq, zI_cl, zI_max, zI_min, zI_abs, bnd_ok, bnd_ex, lm_eq, li_eq, grd_inb, grd_ser, grd_z, grd_lt, if_true, if_false, if_pos, if_neg, SA_div_1 c h]
      · unfold fn_Mo_segmentStart
        simp (disch := omega) only [zlit, zI_add, zI_sub, zI_mul, zI_neg, zI_lt, zI_le, zI_eq, zI_cl, zI_max, zI_min, zI_abs, bnd_ok, bnd_ex, lm_eq, li_eq, grd_inb, grd_ser, grd_z, grd_lt, if_true, if_false, if_pos, if_neg, mo_cannotDivide hp hq K', cdF_2 c c2, mset_at, fn_Mo_segmentStart_33]
  · refine .inr ⟨0, 0, 1, CR.of ?_, rfl, by decide, MR.of (fun M' K' => ?_)⟩
    · unfold fn_SA_segmentStart
      simp (disch := omega) only [zlit, zI_add, zI_sub, zI_mul, zI_neg, zI_lt, zI_le, zI_eq, zI_cl, zI_max, zI_min, zI_abs, bnd_ok, bnd_ex, lm_eq, li_eq, grd_inb, grd_ser, grd_z, grd_lt, if_true, if_false, if_pos, if_neg, SA_div_0]
    · unfold fn_Mo_segmentStart
      simp (disch := omega) only [zlit, zI_add, zI_sub, zI_mul, zI_neg, zI_lt, zI_le, zI_eq, zI_cl, zI_max, zI_min, zI_abs, bnd_ok, bnd_ex, lm_eq, li_eq, grd_inb, grd_ser, grd_z, grd_lt, if_true, if_false, if_pos, if_neg, mo_cannotDivide hp hq K', cdF_1 c, mset_at, fn_Mo_segmentStart_33]
