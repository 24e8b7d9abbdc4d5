/-! BEST RANGES -/
theorem zI_tdiv {a b : Int} (ha : -2147483648 ≤ a ∧ a < 2147483648) (hb : -2147483648 ≤ b ∧ b < 2147483648) : zI a / zI b = zI (a.tdiv b) :=
  (Int32.ofInt_tdiv (show (-2147483648 : Int) ≤ a by omega) (show a ≤ (2147483647 : Int) by omega) (show (-2147483648 : Int) ≤ b by omega) (show b ≤ (2147483647 : Int) by omega)).symm
theorem zI_div {a b : Int} (ha : 0 ≤ a ∧ a < 2147483648) (hb : 0 < b ∧ b < 2147483648) : zI a / zI b = zI (a / b) := by
  rw [zI_tdiv ⟨by omega, ha.2⟩ ⟨by omega, hb.2⟩, Int.tdiv_eq_ediv_of_nonneg ha.1]
/-- the sum from f to t -/
def sF (a : Int → Int) (f t : Int) : Int := sumF a f (t + 1) 0
theorem sF_one (a : Int → Int) (f : Int) : sF a f f = a f := by
  unfold sF sumF
  rw [lp_step (by omega), lp_stop (by omega), Int.zero_add]
theorem sF_next (a : Int → Int) {f t : Int} (h : f ≤ t) : sF a f (t + 1) = sF a f t + a (t + 1) := by
  unfold sF sumF
  rw [lp_end (by omega)]
theorem sF_b {a : Int → Int} (hb : ∀ i, -99 ≤ a i ∧ a i ≤ 99) {n f t : Int} (hn : n ≤ 20) (h0 : 0 ≤ f) (h1 : f ≤ t) (h2 : t < n) : -1980 ≤ sF a f t ∧ sF a f t ≤ 1980 := by
  have := sumF_b hb (i := f) (j := t + 1) (s := 0) (by omega)
  unfold sF
  omega
/-- the first of the best ranges -/
def Best (a : Int → Int) (n F T : Int) : Prop := 0 ≤ F ∧ F ≤ T ∧ T < n ∧ (∀ f t, 0 ≤ f → f ≤ t → t < n → sF a f t ≤ sF a F T) ∧ ∀ f t, 0 ≤ f → f ≤ t → t < n → (f < F ∨ (f = F ∧ t < T)) → sF a f t < sF a F T
theorem Best.uniq {a : Int → Int} {n F T F2 T2 : Int} (h : Best a n F T) (k : Best a n F2 T2) : F = F2 ∧ T = T2 := by
  obtain ⟨h1, h2, h3, h4, h5⟩ := h
  obtain ⟨k1, k2, k3, k4, k5⟩ := k
  have e1 := h4 F2 T2 k1 k2 k3
  have e2 := k4 F T h1 h2 h3
  have e3 := h5 F2 T2 k1 k2 k3
  have e4 := k5 F T h1 h2 h3
  by_cases c1 : F < F2
  · have := e4 (.inl c1); omega
  · by_cases c2 : F2 < F
    · have := e3 (.inl c2); omega
    · by_cases c3 : T < T2
      · have := e4 (.inr ⟨by omega, c3⟩); omega
      · by_cases c4 : T2 < T
        · have := e3 (.inr ⟨by omega, c4⟩); omega
        · omega
/-- what the model knows when it has looked at all ranges before (g, u) -/
def SB (a : Int → Int) (n g u found most : Int) : Prop := (g = 0 ∧ u = 0 ∧ most = -1000000000 ∧ found = 0) ∨ ∃ F T, found = 20 * F + T ∧ most = sF a F T ∧ 0 ≤ F ∧ F ≤ T ∧ T < n ∧ (F < g ∨ (F = g ∧ T < u)) ∧ (∀ f t, 0 ≤ f → f ≤ t → t < n → (f < g ∨ (f = g ∧ t < u)) → sF a f t ≤ most) ∧ ∀ f t, 0 ≤ f → f ≤ t → t < n → (f < F ∨ (f = F ∧ t < T)) → sF a f t < most
theorem SB.yes {a : Int → Int} {n g u found most : Int} (h : SB a n g u found most) (hg : 0 ≤ g ∧ g ≤ u ∧ u < n) (hm : most < sF a g u) : SB a n g (u + 1) (20 * g + u) (sF a g u) := by
  refine .inr ⟨g, u, rfl, rfl, hg.1, hg.2.1, hg.2.2, by omega, fun f t h0 h1 h2 h3 => ?_, fun f t h0 h1 h2 h3 => ?_⟩
  · by_cases c : f = g ∧ t = u
    · rw [c.1, c.2]
      omega
    · rcases h with ⟨e1, e2, -, -⟩ | ⟨F, T, -, -, -, -, -, -, h8, -⟩
      · omega
      · have := h8 f t h0 h1 h2 (by omega)
        omega
  · rcases h with ⟨e1, e2, -, -⟩ | ⟨F, T, -, -, -, -, -, -, h8, -⟩
    · omega
    · have := h8 f t h0 h1 h2 (by omega)
      omega
theorem SB.no {a : Int → Int} {n g u found most : Int} (h : SB a n g u found most) (hg : 0 ≤ g ∧ g ≤ u ∧ u < n) (hb : -1980 ≤ sF a g u) (hm : ¬ most < sF a g u) : SB a n g (u + 1) found most := by
  rcases h with ⟨e1, e2, e3, -⟩ | ⟨F, T, h1, h2, h3, h4, h5, h6, h7, h8⟩
  · omega
  · refine .inr ⟨F, T, h1, h2, h3, h4, h5, by omega, fun f t k0 k1 k2 k3 => ?_, h8⟩
    by_cases c : f = g ∧ t = u
    · rw [c.1, c.2]
      omega
    · exact h7 f t k0 k1 k2 (by omega)
theorem SB.line {a : Int → Int} {n g found most : Int} (h : SB a n g n found most) (hg : 0 ≤ g ∧ g < n) : SB a n (g + 1) (g + 1) found most := by
  rcases h with ⟨e1, e2, e3, -⟩ | ⟨F, T, h1, h2, h3, h4, h5, h6, h7, h8⟩
  · omega
  · exact .inr ⟨F, T, h1, h2, h3, h4, h5, by omega, fun f t k0 k1 k2 k3 => h7 f t k0 k1 k2 (by omega), h8⟩
theorem SB.m {a : Int → Int} {n g u found most : Int} (h : SB a n g u found most) (hb : ∀ i, -99 ≤ a i ∧ a i ≤ 99) (hn : n ≤ 20) : -1000000000 ≤ most ∧ most ≤ 1980 := by
  rcases h with ⟨-, -, e3, -⟩ | ⟨F, T, h1, h2, h3, h4, h5, -, -, -⟩
  · omega
  · have := sF_b hb hn h3 h4 h5
    omega
theorem SB.best {a : Int → Int} {n found most : Int} (h : SB a n n n found most) (hn : 0 < n) : ∃ F T, found = 20 * F + T ∧ Best a n F T := by
  rcases h with ⟨e1, e2, e3, -⟩ | ⟨F, T, h1, h2, h3, h4, h5, h6, h7, h8⟩
  · omega
  · exact ⟨F, T, h1, h3, h4, h5, fun f t k0 k1 k2 => by rw [← h2]; exact h7 f t k0 k1 k2 (by omega), fun f t k0 k1 k2 k3 => by rw [← h2]; exact h8 f t k0 k1 k2 k3⟩
theorem m_best_22 {M : Mm} {v n : Int} {a : Int → Int} (h : Mse M v n a) (k8 : Int32 → Int32 → Int32 → Mm → Rs Int32) {g : Int} (hg : 0 ≤ g ∧ g < n) : ∀ (k : Nat) (found most u : Int), SB a n g u found most → g ≤ u → u ≤ n → n - u < k → ∃ f2 m2, SB a n (g + 1) (g + 1) f2 m2 ∧ fn_Mo_best_22 k8 (zI v) (zI g) k (zI found) (zI most) (zI u) M = k8 (zI f2) (zI m2) (zI (g + 1)) M := by
  have hv := h.s
  have hn := h.n
  intro k
  induction k with
  | zero => intros; omega
  | succ k ih =>
    intro found most u hs h0 h1 h2
    have hm := hs.m h.b hn.2
    rw [fn_Mo_best_22]
    by_cases c : n ≤ u
    · refine ⟨found, most, ?_, ?_⟩
      · have e : u = n := by omega
        rw [e] at hs
        exact hs.line hg
      · simp (disch := omega) only [zlit, zI_add, zI_sub, zI_mul, zI_neg, zI_lt, zI_le, zI_eq, zI_cl, zI_max, zI_min, zI_abs, bnd_ok, bnd_ex, lm_eq, li_eq, grd_inb, grd_ser, grd_z, grd_lt, if_true, if_false, if_pos, if_neg, h.many, fn_Mo_best_73]
    · have hb := sF_b h.b hn.2 hg.1 h0 (show u < n by omega)
      have et := h.total (f := g) (t := u) (by omega) (by omega) (by omega)
      have et2 : fn_Mo_total (zI v) (zI g) (zI u) M = some (.inl (zI (sF a g u)), M) := et
      by_cases c2 : most < sF a g u
      · obtain ⟨f2, m2, e1, e2⟩ := ih (20 * g + u) (sF a g u) (u + 1) (hs.yes ⟨hg.1, h0, by omega⟩ c2) (by omega) (by omega) (by omega)
        refine ⟨f2, m2, e1, ?_⟩
        simp (disch := omega) only [zlit, zI_add, zI_sub, zI_mul, zI_neg, zI_lt, zI_le, zI_eq, zI_cl, zI_max, zI_min, zI_abs, bnd_ok, bnd_ex, lm_eq, li_eq, grd_inb, grd_ser, grd_z, grd_lt, if_true, if_false, if_pos, if_neg, h.many, et2, fn_Mo_best_67, e2]
      · obtain ⟨f2, m2, e1, e2⟩ := ih found most (u + 1) (hs.no ⟨hg.1, h0, by omega⟩ hb.1 c2) (by omega) (by omega) (by omega)
        refine ⟨f2, m2, e1, ?_⟩
        simp (disch := omega) only [zlit, zI_add, zI_sub, zI_mul, zI_neg, zI_lt, zI_le, zI_eq, zI_cl, zI_max, zI_min, zI_abs, bnd_ok, bnd_ex, lm_eq, li_eq, grd_inb, grd_ser, grd_z, grd_lt, if_true, if_false, if_pos, if_neg, h.many, et2, fn_Mo_best_67, e2]
theorem m_best_8 {M : Mm} {v n : Int} {a : Int → Int} (h : Mse M v n a) : ∀ (k : Nat) (found most g : Int), SB a n g g found most → 0 ≤ g → g ≤ n → n - g < k → ∃ f2 m2, SB a n n n f2 m2 ∧ fn_Mo_best_8 (zI v) k (zI found) (zI most) (zI g) M = some (.inl (zI f2), M) := by
  have hv := h.s
  have hn := h.n
  intro k
  induction k with
  | zero => intros; omega
  | succ k ih =>
    intro found most g hs h0 h1 h2
    rw [fn_Mo_best_8]
    by_cases c : n ≤ g
    · refine ⟨found, most, ?_, ?_⟩
      · have e : g = n := by omega
        rw [e] at hs
        exact hs
      · simp (disch := omega) only [zlit, zI_add, zI_sub, zI_mul, zI_neg, zI_lt, zI_le, zI_eq, zI_cl, zI_max, zI_min, zI_abs, bnd_ok, bnd_ex, lm_eq, li_eq, grd_inb, grd_ser, grd_z, grd_lt, if_true, if_false, if_pos, if_neg, h.many]
    · obtain ⟨f1, m1, e1, e2⟩ := m_best_22 h (fn_Mo_best_8 (zI v) k) (g := g) ⟨h0, by omega⟩ fuel0 found most g hs (by omega) (by omega) (by unfold fuel0; omega)
      obtain ⟨f2, m2, e3, e4⟩ := ih f1 m1 (g + 1) e1 (by omega) (by omega) (by omega)
      refine ⟨f2, m2, e3, ?_⟩
      simp (disch := omega) only [zlit, zI_add, zI_sub, zI_mul, zI_neg, zI_lt, zI_le, zI_eq, zI_cl, zI_max, zI_min, zI_abs, bnd_ok, bnd_ex, lm_eq, li_eq, grd_inb, grd_ser, grd_z, grd_lt, if_true, if_false, if_pos, if_neg, h.many, e2, e4]
theorem Mse.best {M : Mm} {v n : Int} {a : Int → Int} (h : Mse M v n a) (hn0 : 0 < n) : ∃ F T, Best a n F T ∧ fn_Mo_best (zI v) M = some (.inl (zI (20 * F + T)), M) := by
  have hv := h.s
  have hn := h.n
  obtain ⟨f2, m2, e3, e4⟩ := m_best_8 h 2000 0 (-1000000000) 0 (.inl ⟨rfl, rfl, rfl, rfl⟩) (by omega) (by omega) (by omega)
  obtain ⟨F, T, e5, e6⟩ := e3.best hn0
  refine ⟨F, T, e6, ?_⟩
  unfold fn_Mo_best fuel0
  rw [← e5]
  simp (disch := omega) only [zlit, zI_add, zI_sub, zI_mul, zI_neg, zI_lt, zI_le, zI_eq, zI_cl, zI_max, zI_min, zI_abs, bnd_ok, bnd_ex, lm_eq, li_eq, grd_inb, grd_ser, grd_z, grd_lt, if_true, if_false, if_pos, if_neg, e4]
theorem Mse.bestAt {M : Mm} {v n : Int} {a : Int → Int} (h : Mse M v n a) {F T : Int} (hB : Best a n F T) : fn_Mo_best (zI v) M = some (.inl (zI (20 * F + T)), M) := by
  have hB2 := hB
  obtain ⟨b1, b2, b3, -, -⟩ := hB2
  obtain ⟨F2, T2, e1, e2⟩ := h.best (by omega)
  obtain ⟨rfl, rfl⟩ := hB.uniq e1
  exact e2
/-- the greatest sum -/
def Top (a : Int → Int) (n B : Int) : Prop := (∃ f t, 0 ≤ f ∧ f ≤ t ∧ t < n ∧ sF a f t = B) ∧ ∀ f t, 0 ≤ f → f ≤ t → t < n → sF a f t ≤ B
theorem Top.uniq {a : Int → Int} {n B C : Int} (h : Top a n B) (k : Top a n C) : B = C := by
  obtain ⟨⟨f, t, h1, h2, h3, h4⟩, h5⟩ := h
  obtain ⟨⟨f', t', k1, k2, k3, k4⟩, k5⟩ := k
  have e1 := h5 f' t' k1 k2 k3
  have e2 := k5 f t h1 h2 h3
  omega
theorem Best.top {a : Int → Int} {n F T : Int} (h : Best a n F T) : Top a n (sF a F T) := ⟨⟨F, T, h.1, h.2.1, h.2.2.1, rfl⟩, h.2.2.2.1⟩
/-- what the class knows before index i: the best sum that ends at i - 1, the best of all -/
def KD (a : Int → Int) (i e b : Int) : Prop := (∃ f, 0 ≤ f ∧ f < i ∧ sF a f (i - 1) = e) ∧ (∀ f, 0 ≤ f → f < i → sF a f (i - 1) ≤ e) ∧ Top a i b
theorem KD.next {a : Int → Int} {i e b : Int} (h : KD a i e b) (hi : 1 ≤ i) : KD a (i + 1) (max e 0 + a i) (max b (max e 0 + a i)) := by
  obtain ⟨⟨f, f1, f2, f3⟩, h2, ⟨g, t, g1, g2, g3, g4⟩, h4⟩ := h
  have hx : ∀ f, 0 ≤ f → f < i → sF a f i = sF a f (i - 1) + a i := fun f e1 e2 => by
    have := sF_next a (f := f) (t := i - 1) (by omega)
    rw [Int.sub_add_cancel] at this
    exact this
  have h1' : ∃ f, 0 ≤ f ∧ f < i + 1 ∧ sF a f i = max e 0 + a i := by
    by_cases c : 0 ≤ e
    · refine ⟨f, f1, by omega, ?_⟩
      rw [hx f f1 f2]
      omega
    · refine ⟨i, by omega, by omega, ?_⟩
      rw [sF_one]
      omega
  have h2' : ∀ f, 0 ≤ f → f < i + 1 → sF a f i ≤ max e 0 + a i := fun f e1 e2 => by
    by_cases c : f = i
    · rw [c, sF_one]
      omega
    · have := h2 f e1 (by omega)
      rw [hx f e1 (by omega)]
      omega
  refine ⟨?_, ?_, ?_, ?_⟩
  · rw [show i + 1 - 1 = i by omega]
    exact h1'
  · rw [show i + 1 - 1 = i by omega]
    exact h2'
  · by_cases c : b ≤ max e 0 + a i
    · obtain ⟨f, e1, e2, e3⟩ := h1'
      exact ⟨f, i, e1, by omega, by omega, by omega⟩
    · exact ⟨g, t, g1, g2, by omega, by omega⟩
  · intro f t e1 e2 e3
    by_cases c : t = i
    · have := h2' f e1 (by omega)
      rw [c]
      omega
    · have := h4 f t e1 e2 (by omega)
      omega
theorem c_kadane_10 {M : Mm} {v : Nat} {n : Int} {a : Int → Int} (h : Ser M v n a) : ∀ (k : Nat) (e b i : Int), KD a i e b → -1980 ≤ e ∧ e ≤ 99 * i → -1980 ≤ b ∧ b ≤ 1980 → 1 ≤ i → i ≤ n → n - i < k → ∃ B, Top a n B ∧ fn_Ra_bestTotal_10 v k (zI e) (zI b) (zI i) M = some (.inl (zI B), M) := by
  have hv := h.v
  have hn := h.n
  intro k
  induction k with
  | zero => intros; omega
  | succ k ih =>
    intro e b i hk he hb h0 h1 h2
    have b1 := h.b i
    rw [fn_Ra_bestTotal_10]
    by_cases c : n ≤ i
    · refine ⟨b, ?_, ?_⟩
      · have e : i = n := by omega
        rw [← e]
        exact hk.2.2
      · simp (disch := omega) only [zlit, zI_add, zI_sub, zI_mul, zI_neg, zI_lt, zI_le, zI_eq, zI_cl, zI_max, zI_min, zI_abs, bnd_ok, bnd_ex, lm_eq, li_eq, grd_inb, grd_ser, grd_z, grd_lt, if_true, if_false, if_pos, if_neg, h.size]
    · obtain ⟨B, e1, e2⟩ := ih _ _ (i + 1) (hk.next h0) (by omega) (by omega) (by omega) (by omega) (by omega)
      refine ⟨B, e1, ?_⟩
      simp (disch := omega) only [zlit, zI_add, zI_sub, zI_mul, zI_neg, zI_lt, zI_le, zI_eq, zI_cl, zI_max, zI_min, zI_abs, bnd_ok, bnd_ex, lm_eq, li_eq, grd_inb, grd_ser, grd_z, grd_lt, if_true, if_false, if_pos, if_neg, h.size, h.at, e2]
theorem Ser.top {M : Mm} {v : Nat} {n : Int} {a : Int → Int} (h : Ser M v n a) (hn0 : 0 < n) : ∃ B, Top a n B ∧ fn_Ra_bestTotal v M = some (.inl (zI B), M) := by
  have hv := h.v
  have hn := h.n
  have b1 := h.b 0
  have hk : KD a 1 (a 0) (a 0) := by
    refine ⟨⟨0, by omega, by omega, ?_⟩, fun f e1 e2 => ?_, ⟨0, 0, by omega, by omega, by omega, sF_one a 0⟩, fun f t e1 e2 e3 => ?_⟩
    · exact sF_one a 0
    · rw [show f = 0 by omega]
      have := sF_one a 0
      rw [show (1 : Int) - 1 = 0 by omega]
      omega
    · rw [show f = 0 by omega, show t = 0 by omega, sF_one]
      omega
  obtain ⟨B, e1, e2⟩ := c_kadane_10 h 2000 (a 0) (a 0) 1 hk (by omega) (by omega) (by omega) (by omega) (by omega)
  refine ⟨B, e1, ?_⟩
  unfold fn_Ra_bestTotal fuel0
  simp (disch := omega) only [zlit, zI_add, zI_sub, zI_mul, zI_neg, zI_lt, zI_le, zI_eq, zI_cl, zI_max, zI_min, zI_abs, bnd_ok, bnd_ex, lm_eq, li_eq, grd_inb, grd_ser, grd_z, grd_lt, if_true, if_false, if_pos, if_neg, h.at, e2]
theorem Ser.topIs {M : Mm} {v : Nat} {n : Int} {a : Int → Int} (h : Ser M v n a) {B : Int} (hB : Top a n B) : fn_Ra_bestTotal v M = some (.inl (zI B), M) := by
  have hB2 := hB
  obtain ⟨⟨f, t, h1, h2, h3, h4⟩, -⟩ := hB2
  obtain ⟨C, e1, e2⟩ := h.top (by omega)
  rw [hB.uniq e1]
  exact e2
/-! by ranges -/
def RB (a : Int → Int) (n g u b : Int) : Prop := (∃ f t, 0 ≤ f ∧ f ≤ t ∧ t < n ∧ sF a f t = b) ∧ ∀ f t, 0 ≤ f → f ≤ t → t < n → (f < g ∨ (f = g ∧ t < u)) → sF a f t ≤ b
theorem c_ranges_21 {M : Mm} {v : Nat} {n : Int} {a : Int → Int} (h : Ser M v n a) (k8 : Int32 → Int32 → Mm → Rs Int32) {g : Int} (hg : 0 ≤ g ∧ g < n) : ∀ (k : Nat) (b s u : Int), RB a n g u b → s = sumF a g u 0 → -1980 ≤ b ∧ b ≤ 1980 → g ≤ u → u ≤ n → n - u < k → ∃ b2, RB a n (g + 1) (g + 1) b2 ∧ (-1980 ≤ b2 ∧ b2 ≤ 1980) ∧ fn_Ra_bestTotalByRanges_21 k8 v (zI g) k (zI b) (zI s) (zI u) M = k8 (zI b2) (zI (g + 1)) M := by
  have hv := h.v
  have hn := h.n
  intro k
  induction k with
  | zero => intros; omega
  | succ k ih =>
    intro b s u hk hs hb h0 h1 h2
    rw [fn_Ra_bestTotalByRanges_21]
    by_cases c : n ≤ u
    · refine ⟨b, ⟨hk.1, fun f t e1 e2 e3 e4 => hk.2 f t e1 e2 e3 (by omega)⟩, hb, ?_⟩
      simp (disch := omega) only [zlit, zI_add, zI_sub, zI_mul, zI_neg, zI_lt, zI_le, zI_eq, zI_cl, zI_max, zI_min, zI_abs, bnd_ok, bnd_ex, lm_eq, li_eq, grd_inb, grd_ser, grd_z, grd_lt, if_true, if_false, if_pos, if_neg, h.size, fn_Ra_bestTotalByRanges_51]
    · have e9 : sF a g u = s + a u := by
        rw [hs]
        unfold sF sumF
        rw [lp_end h0]
      have hb2 := sF_b h.b hn.2 hg.1 h0 (show u < n by omega)
      obtain ⟨b2, e1, e2, e3⟩ := ih (max b (s + a u)) (s + a u) (u + 1) ⟨by
          by_cases c2 : b ≤ s + a u
          · exact ⟨g, u, hg.1, h0, by omega, by omega⟩
          · obtain ⟨f, t, k1, k2, k3, k4⟩ := hk.1
            exact ⟨f, t, k1, k2, k3, by omega⟩, fun f t k1 k2 k3 k4 => by
          by_cases c2 : f = g ∧ t = u
          · rw [c2.1, c2.2]
            omega
          · have := hk.2 f t k1 k2 k3 (by omega)
            omega⟩ (by rw [← e9]; rfl) (by omega) (by omega) (by omega) (by omega)
      refine ⟨b2, e1, e2, ?_⟩
      simp (disch := omega) only [zlit, zI_add, zI_sub, zI_mul, zI_neg, zI_lt, zI_le, zI_eq, zI_cl, zI_max, zI_min, zI_abs, bnd_ok, bnd_ex, lm_eq, li_eq, grd_inb, grd_ser, grd_z, grd_lt, if_true, if_false, if_pos, if_neg, h.size, h.at, e3]
theorem c_ranges_8 {M : Mm} {v : Nat} {n : Int} {a : Int → Int} (h : Ser M v n a) : ∀ (k : Nat) (b g : Int), RB a n g g b → -1980 ≤ b ∧ b ≤ 1980 → 0 ≤ g → g ≤ n → n - g < k → ∃ b2, Top a n b2 ∧ fn_Ra_bestTotalByRanges_8 v k (zI b) (zI g) M = some (.inl (zI b2), M) := by
  have hv := h.v
  have hn := h.n
  intro k
  induction k with
  | zero => intros; omega
  | succ k ih =>
    intro b g hk hb h0 h1 h2
    rw [fn_Ra_bestTotalByRanges_8]
    by_cases c : n ≤ g
    · refine ⟨b, ⟨hk.1, fun f t e1 e2 e3 => hk.2 f t e1 e2 e3 (by omega)⟩, ?_⟩
      simp (disch := omega) only [zlit, zI_add, zI_sub, zI_mul, zI_neg, zI_lt, zI_le, zI_eq, zI_cl, zI_max, zI_min, zI_abs, bnd_ok, bnd_ex, lm_eq, li_eq, grd_inb, grd_ser, grd_z, grd_lt, if_true, if_false, if_pos, if_neg, h.size]
    · obtain ⟨b1, e1, e2, e3⟩ := c_ranges_21 h (fn_Ra_bestTotalByRanges_8 v k) (g := g) ⟨h0, by omega⟩ 2000 b 0 g hk (by unfold sumF; rw [lp_stop (by omega)]) hb (by omega) (by omega) (by omega)
      obtain ⟨b2, e4, e5⟩ := ih b1 (g + 1) e1 e2 (by omega) (by omega) (by omega)
      refine ⟨b2, e4, ?_⟩
      unfold fuel0
      simp (disch := omega) only [zlit, zI_add, zI_sub, zI_mul, zI_neg, zI_lt, zI_le, zI_eq, zI_cl, zI_max, zI_min, zI_abs, bnd_ok, bnd_ex, lm_eq, li_eq, grd_inb, grd_ser, grd_z, grd_lt, if_true, if_false, if_pos, if_neg, h.size, e3, e5]
theorem Ser.topR {M : Mm} {v : Nat} {n : Int} {a : Int → Int} (h : Ser M v n a) (hn0 : 0 < n) : ∃ B, Top a n B ∧ fn_Ra_bestTotalByRanges v M = some (.inl (zI B), M) := by
  have hv := h.v
  have hn := h.n
  have b1 := h.b 0
  obtain ⟨b2, e1, e2⟩ := c_ranges_8 h 2000 (a 0) 0 ⟨⟨0, 0, by omega, by omega, hn0, sF_one a 0⟩, fun f t k1 k2 k3 k4 => by omega⟩ (by omega) (by omega) (by omega) (by omega)
  refine ⟨b2, e1, ?_⟩
  unfold fn_Ra_bestTotalByRanges fuel0
  simp (disch := omega) only [zlit, zI_add, zI_sub, zI_mul, zI_neg, zI_lt, zI_le, zI_eq, zI_cl, zI_max, zI_min, zI_abs, bnd_ok, bnd_ex, lm_eq, li_eq, grd_inb, grd_ser, grd_z, grd_lt, if_true, if_false, if_pos, if_neg, h.at, e2]
theorem Ser.topRIs {M : Mm} {v : Nat} {n : Int} {a : Int → Int} (h : Ser M v n a) {B : Int} (hB : Top a n B) : fn_Ra_bestTotalByRanges v M = some (.inl (zI B), M) := by
  have hB2 := hB
  obtain ⟨⟨f, t, h1, h2, h3, h4⟩, -⟩ := hB2
  obtain ⟨C, e1, e2⟩ := h.topR (by omega)
  rw [hB.uniq e1]
  exact e2
/-! first and last -/
theorem c_end_5 {M : Mm} {v : Nat} {n : Int} {a : Int → Int} (h : Ser M v n a) {f w : Int} (hf : 0 ≤ f ∧ f < n) (hw : -1980 ≤ w ∧ w ≤ 1980) : ∀ (k : Nat) (s i : Int), s = sumF a f i 0 → f ≤ i → i ≤ n → n - i < k → fn_Ra_endOfTotal_5 v (zI w) k (zI s) (zI i) M = some (.inl (zI (fs (fun t => decide (sF a f t = w)) i n)), M) := by
  have hv := h.v
  have hn := h.n
  intro k
  induction k with
  | zero => intros; omega
  | succ k ih =>
    intro s i hs h0 h1 h2
    rw [fn_Ra_endOfTotal_5]
    by_cases c : n ≤ i
    · simp (disch := omega) only [zlit, zI_add, zI_sub, zI_mul, zI_neg, zI_lt, zI_le, zI_eq, zI_cl, zI_max, zI_min, zI_abs, bnd_ok, bnd_ex, lm_eq, li_eq, grd_inb, grd_ser, grd_z, grd_lt, if_true, if_false, if_pos, if_neg, h.size, fd_stop]
    · have e9 : sF a f i = s + a i := by
        rw [hs]
        unfold sF sumF
        rw [lp_end h0]
      have hb2 := sF_b h.b hn.2 hf.1 h0 (show i < n by omega)
      by_cases c2 : sF a f i = w
      · rw [fd_hit (q := fun t => sF a f t = w) (i := i) (by omega) c2]
        simp (disch := omega) only [zlit, zI_add, zI_sub, zI_mul, zI_neg, zI_lt, zI_le, zI_eq, zI_cl, zI_max, zI_min, zI_abs, bnd_ok, bnd_ex, lm_eq, li_eq, grd_inb, grd_ser, grd_z, grd_lt, if_true, if_false, if_pos, if_neg, h.size, h.at]
      · rw [fd_miss (q := fun t => sF a f t = w) (i := i) (by omega) c2]
        simp (disch := omega) only [zlit, zI_add, zI_sub, zI_mul, zI_neg, zI_lt, zI_le, zI_eq, zI_cl, zI_max, zI_min, zI_abs, bnd_ok, bnd_ex, lm_eq, li_eq, grd_inb, grd_ser, grd_z, grd_lt, if_true, if_false, if_pos, if_neg, h.size, h.at]
        exact ih (s + a i) (i + 1) (by rw [← e9]; rfl) (by omega) (by omega) (by omega)
theorem Ser.endOf {M : Mm} {v : Nat} {n : Int} {a : Int → Int} (h : Ser M v n a) {f w : Int} (hf : 0 ≤ f ∧ f < n) (hw : -1980 ≤ w ∧ w ≤ 1980) : fn_Ra_endOfTotal v (zI f) (zI w) M = some (.inl (zI (fs (fun t => decide (sF a f t = w)) f n)), M) := by
  have hv := h.v
  have hn := h.n
  unfold fn_Ra_endOfTotal fuel0
  simp (disch := omega) only [zlit, zI_add, zI_sub, zI_mul, zI_neg, zI_lt, zI_le, zI_eq, zI_cl, zI_max, zI_min, zI_abs, bnd_ok, bnd_ex, lm_eq, li_eq, grd_inb, grd_ser, grd_z, grd_lt, if_true, if_false, if_pos, if_neg]
  exact c_end_5 h hf hw 2000 0 f (by unfold sumF; rw [lp_stop (by omega)]) (by omega) (by omega) (by omega)
theorem c_first_7 {M : Mm} {v : Nat} {n : Int} {a : Int → Int} (h : Ser M v n a) {F T : Int} (hB : Best a n F T) : ∀ (k : Nat) (i : Int), 0 ≤ i → i ≤ F → F - i < k → fn_Ra_firstOfBest_7 v (zI (sF a F T)) k (zI i) M = some (.inl (zI F), M) := by
  have hv := h.v
  have hn := h.n
  obtain ⟨b1, b2, b3, b4, b5⟩ := hB
  have hw := sF_b h.b hn.2 b1 b2 b3
  intro k
  induction k with
  | zero => intros; omega
  | succ k ih =>
    intro i h0 h1 h2
    rw [fn_Ra_firstOfBest_7]
    have e := h.endOf (f := i) (w := sF a F T) ⟨h0, by omega⟩ hw
    by_cases c : i = F
    · have e2 : fs (fun t => decide (sF a i t = sF a F T)) i n = T := by
        rw [c]
        exact fs_uniq b2 b3 (decide_eq_true rfl) (fun x x1 x2 => decide_eq_false (fun z => by have := b5 F x b1 x1 (by omega) (.inr ⟨rfl, x2⟩); omega))
      rw [e2] at e
      rw [c] at e ⊢
      simp (disch := omega) only [zlit, zI_add, zI_sub, zI_mul, zI_neg, zI_lt, zI_le, zI_eq, zI_cl, zI_max, zI_min, zI_abs, bnd_ok, bnd_ex, lm_eq, li_eq, grd_inb, grd_ser, grd_z, grd_lt, if_true, if_false, if_pos, if_neg, h.size, e]
    · have e2 : fs (fun t => decide (sF a i t = sF a F T)) i n = -1 := fs_none (fun x x1 x2 => decide_eq_false (fun z => by have := b5 i x h0 x1 x2 (.inl (by omega)); omega))
      rw [e2] at e
      simp (disch := omega) only [zlit, zI_add, zI_sub, zI_mul, zI_neg, zI_lt, zI_le, zI_eq, zI_cl, zI_max, zI_min, zI_abs, bnd_ok, bnd_ex, lm_eq, li_eq, grd_inb, grd_ser, grd_z, grd_lt, if_true, if_false, if_pos, if_neg, h.size, e]
      exact ih (i + 1) (by omega) (by omega) (by omega)
theorem Ser.firstB {M : Mm} {v : Nat} {n : Int} {a : Int → Int} (h : Ser M v n a) {F T : Int} (hB : Best a n F T) : fn_Ra_firstOfBest v M = some (.inl (zI F), M) := by
  have hv := h.v
  have hn := h.n
  unfold fn_Ra_firstOfBest fuel0
  simp (disch := omega) only [zlit, zI_add, zI_sub, zI_mul, zI_neg, zI_lt, zI_le, zI_eq, zI_cl, zI_max, zI_min, zI_abs, bnd_ok, bnd_ex, lm_eq, li_eq, grd_inb, grd_ser, grd_z, grd_lt, if_true, if_false, if_pos, if_neg, h.topIs hB.top]
  obtain ⟨b1, b2, b3, b4, b5⟩ := hB
  exact c_first_7 h ⟨b1, b2, b3, b4, b5⟩ 2000 0 (by omega) (by omega) (by omega)
theorem Ser.lastB {M : Mm} {v : Nat} {n : Int} {a : Int → Int} (h : Ser M v n a) {F T : Int} (hB : Best a n F T) : fn_Ra_lastOfBest v M = some (.inl (zI T), M) := by
  have hv := h.v
  have hn := h.n
  have hB2 := hB
  obtain ⟨b1, b2, b3, b4, b5⟩ := hB2
  have hw := sF_b h.b hn.2 b1 b2 b3
  have e := h.endOf (f := F) (w := sF a F T) ⟨b1, by omega⟩ hw
  have e2 : fs (fun t => decide (sF a F t = sF a F T)) F n = T := fs_uniq b2 b3 (decide_eq_true rfl) (fun x x1 x2 => decide_eq_false (fun z => by have := b5 F x b1 x1 (by omega) (.inr ⟨rfl, x2⟩); omega))
  rw [e2] at e
  unfold fn_Ra_lastOfBest
  simp (disch := omega) only [zlit, zI_add, zI_sub, zI_mul, zI_neg, zI_lt, zI_le, zI_eq, zI_cl, zI_max, zI_min, zI_abs, bnd_ok, bnd_ex, lm_eq, li_eq, grd_inb, grd_ser, grd_z, grd_lt, if_true, if_false, if_pos, if_neg, h.topIs hB.top, h.firstB hB, e]
/-! the calls: a filled series -/
theorem SA_fil {M : Mm} {s n : Int} {a : Int → Int} (hs : 0 ≤ s ∧ s < 4) (h : Ser M (s.toNat + 2) n a) (hn0 : 0 < n) : fn_SA_filledSeries (zI s) M = some (.inl (s.toNat + 2), M) := by
  unfold fn_SA_filledSeries
  simp (disch := omega) only [zlit, zI_add, zI_sub, zI_mul, zI_neg, zI_lt, zI_le, zI_eq, zI_cl, zI_max, zI_min, zI_abs, bnd_ok, bnd_ex, lm_eq, li_eq, grd_inb, grd_ser, grd_z, grd_lt, if_true, if_false, if_pos, if_neg, SA_in, h.emp]
theorem SA_fil_2 {M : Mm} {s n : Int} {a : Int → Int} (hs : 0 ≤ s ∧ s < 4) (h : Ser M (s.toNat + 2) n a) (hn0 : n = 0) : fn_SA_filledSeries (zI s) M = some (.inr 2, M) := by
  unfold fn_SA_filledSeries
  simp (disch := omega) only [zlit, zI_add, zI_sub, zI_mul, zI_neg, zI_lt, zI_le, zI_eq, zI_cl, zI_max, zI_min, zI_abs, bnd_ok, bnd_ex, lm_eq, li_eq, grd_inb, grd_ser, grd_z, grd_lt, if_true, if_false, if_pos, if_neg, SA_in, h.emp]
theorem SA_fil_0 {M : Mm} {s : Int} (hr : -2147483648 ≤ s ∧ s < 2147483648) (hs : ¬ (0 ≤ s ∧ s < 4)) : fn_SA_filledSeries (zI s) M = some (.inr 0, M) := by
  unfold fn_SA_filledSeries
  simp (disch := omega) only [zlit, zI_add, zI_sub, zI_mul, zI_neg, zI_lt, zI_le, zI_eq, zI_cl, zI_max, zI_min, zI_abs, bnd_ok, bnd_ex, lm_eq, li_eq, grd_inb, grd_ser, grd_z, grd_lt, if_true, if_false, if_pos, if_neg, SA_in_no]
theorem mo_fil {N : Int → Int} {A : Int → Int → Int} {p : Int} (hp : -2147483648 ≤ p ∧ p < 2147483648) {M : Mm} (K : Ms N A M) : fn_Mo_filled (zI p) M = some (.inl (zI (if 0 ≤ p ∧ p < 4 then (if N p = 0 then 2 else 0) else 1)), mset M 32 6 (zI (if 0 ≤ p ∧ p < 4 then (if N p = 0 then 2 else 0) else 1))) := by
  unfold fn_Mo_filled
  by_cases c : 0 ≤ p ∧ p < 4
  · have k := K p c.1 c.2
    have hn := k.n
    by_cases c2 : N p = 0
    · simp (disch := omega) only [zlit, zI_add, zI_sub, zI_mul, zI_neg, zI_lt, zI_le, zI_eq, zI_cl, zI_max, zI_min, zI_abs, bnd_ok, bnd_ex, lm_eq, li_eq, grd_inb, grd_ser, grd_z, grd_lt, if_true, if_false, if_pos, if_neg, mo_slot, k.many, fn_Mo_filled_25, mset_at]
    · simp (disch := omega) only [zlit, zI_add, zI_sub, zI_mul, zI_neg, zI_lt, zI_le, zI_eq, zI_cl, zI_max, zI_min, zI_abs, bnd_ok, bnd_ex, lm_eq, li_eq, grd_inb, grd_ser, grd_z, grd_lt, if_true, if_false, if_pos, if_neg, mo_slot, k.many, fn_Mo_filled_25, mset_at]
  · simp (disch := omega) only [zlit, zI_add, zI_sub, zI_mul, zI_neg, zI_lt, zI_le, zI_eq, zI_cl, zI_max, zI_min, zI_abs, bnd_ok, bnd_ex, lm_eq, li_eq, grd_inb, grd_ser, grd_z, grd_lt, if_true, if_false, if_pos, if_neg, mo_slot, fn_Mo_filled_25, mset_at]
theorem Q_fil {f : Int32 → Mm → Rs Int32} {g : Int32 → Mm → Rs Int32} {p : Int} (hp : -2147483648 ≤ p ∧ p < 2147483648)
    (hf1 : ∀ M N A, Cs N A M → Ms N A M → 0 ≤ p ∧ p < 4 → 0 < N p → ∃ r, CR (f (zI p) M) M (.inl r) ∧ MR N A (g (zI p)) r 0)
    (hf2 : ∀ M q, fn_SA_filledSeries (zI p) M = some (.inr q, M) → f (zI p) M = some (.inr q, M))
    (hg : ∀ M c, c = 1 ∨ c = 2 → fn_Mo_filled (zI p) M = some (.inl (zI c), mset M 32 6 (zI c)) → g (zI p) M = some (.inl 0, mset M 32 6 (zI c))) : AgR (f (zI p)) [(0, 1), (2, 2)] (g (zI p)) := by
  intro M N A H K
  by_cases c : 0 ≤ p ∧ p < 4
  · have h := H p c.1 c.2
    have hn := h.n
    by_cases c2 : N p = 0
    · refine .inr ⟨2, 0, 2, CR.of (hf2 M 2 (SA_fil_2 c h c2)), rfl, by decide, MR.of (fun M' K' => ?_)⟩
      have e := mo_fil hp K'
      rw [if_pos c, if_pos c2] at e
      exact hg M' 2 (.inr rfl) e
    · exact .inl (hf1 M N A H K c (by omega))
  · refine .inr ⟨0, 0, 1, CR.of (hf2 M 0 (SA_fil_0 hp c)), rfl, by decide, MR.of (fun M' K' => ?_)⟩
    have e := mo_fil hp K'
    rw [if_neg c] at e
    exact hg M' 1 (.inl rfl) e
theorem mo_fil_ok {N : Int → Int} {A : Int → Int → Int} {p : Int} (c : 0 ≤ p ∧ p < 4) (h0 : 0 < N p) {M : Mm} (K : Ms N A M) : fn_Mo_filled (zI p) M = some (.inl (zI 0), mset M 32 6 (zI 0)) := by
  have e := mo_fil (p := p) (by omega) K
  rw [if_pos c, if_neg (by omega)] at e
  exact e
theorem mo_bestOf {N : Int → Int} {A : Int → Int → Int} {p F T : Int} (c : 0 ≤ p ∧ p < 4) (h0 : 0 < N p) (hB : Best (A p) (N p) F T) {M : Mm} (K : Ms N A M) : fn_Mo_bestOf (zI p) M = some (.inl (zI (sF (A p) F T)), mset M 32 6 0) := by
  have k := (K p c.1 c.2).set (k := 32) (by decide) 6 (zI 0)
  have hn := k.n
  have e := k.bestAt hB
  obtain ⟨b1, b2, b3, b4, b5⟩ := hB
  have et := k.total (f := F) (t := T) (by omega) (by omega) (by omega)
  unfold fn_Mo_bestOf
  simp (disch := omega) only [zlit, zI_add, zI_sub, zI_mul, zI_neg, zI_lt, zI_le, zI_eq, zI_cl, zI_max, zI_min, zI_abs, bnd_ok, bnd_ex, lm_eq, li_eq, grd_inb, grd_ser, grd_z, grd_lt, if_true, if_false, if_pos, if_neg, mo_fil_ok c h0 K, e, zI_div]
  rw [show (20 * F + T) / 20 = F by omega, show 20 * F + T - F * 20 = T by omega, et]
  rfl
theorem Q_bestSum {p : Int} (hp : -2147483648 ≤ p ∧ p < 2147483648) : AgR (fn_SA_bestSum (zI p)) [(0, 1), (2, 2)] (fn_Mo_bestSum (zI p)) := by
  refine Q_fil (f := fn_SA_bestSum) (g := fn_Mo_bestSum) hp (fun M N A H K c h0 => ?_) (fun M q e => ?_) (fun M c hc e => ?_)
  · have h := H p c.1 c.2
    have hn := h.n
    obtain ⟨F, T, hB, -⟩ := (K p c.1 c.2).best h0
    refine ⟨zI (sF (A p) F T), CR.of ?_, MR.of (fun M' K' => ?_)⟩
    · unfold fn_SA_bestSum
      simp (disch := omega) only [zlit, zI_add, zI_sub, zI_mul, zI_neg, zI_lt, zI_le, zI_eq, zI_cl, zI_max, zI_min, zI_abs, bnd_ok, bnd_ex, lm_eq, li_eq, grd_inb, grd_ser, grd_z, grd_lt, if_true, if_false, if_pos, if_neg, SA_fil c h, h.topIs hB.top]
    · unfold fn_Mo_bestSum
      rw [mo_bestOf c h0 hB K']
      rfl
  · unfold fn_SA_bestSum
    rw [e]
    rfl
  · unfold fn_Mo_bestSum fn_Mo_bestOf
    rcases hc with rfl | rfl
    · simp (disch := omega) only [zlit, zI_add, zI_sub, zI_mul, zI_neg, zI_lt, zI_le, zI_eq, zI_cl, zI_max, zI_min, zI_abs, bnd_ok, bnd_ex, lm_eq, li_eq, grd_inb, grd_ser, grd_z, grd_lt, if_true, if_false, if_pos, if_neg, e]
    · simp (disch := omega) only [zlit, zI_add, zI_sub, zI_mul, zI_neg, zI_lt, zI_le, zI_eq, zI_cl, zI_max, zI_min, zI_abs, bnd_ok, bnd_ex, lm_eq, li_eq, grd_inb, grd_ser, grd_z, grd_lt, if_true, if_false, if_pos, if_neg, e]
theorem Q_bestSumByRanges {p : Int} (hp : -2147483648 ≤ p ∧ p < 2147483648) : AgR (fn_SA_bestSumByRanges (zI p)) [(0, 1), (2, 2)] (fn_Mo_bestSumByRanges (zI p)) := by
  refine Q_fil (f := fn_SA_bestSumByRanges) (g := fn_Mo_bestSumByRanges) hp (fun M N A H K c h0 => ?_) (fun M q e => ?_) (fun M c hc e => ?_)
  · have h := H p c.1 c.2
    have hn := h.n
    obtain ⟨F, T, hB, -⟩ := (K p c.1 c.2).best h0
    refine ⟨zI (sF (A p) F T), CR.of ?_, MR.of (fun M' K' => ?_)⟩
    · unfold fn_SA_bestSumByRanges
      simp (disch := omega) only [zlit, zI_add, zI_sub, zI_mul, zI_neg, zI_lt, zI_le, zI_eq, zI_cl, zI_max, zI_min, zI_abs, bnd_ok, bnd_ex, lm_eq, li_eq, grd_inb, grd_ser, grd_z, grd_lt, if_true, if_false, if_pos, if_neg, SA_fil c h, h.topRIs hB.top]
    · unfold fn_Mo_bestSumByRanges
      rw [mo_bestOf c h0 hB K']
      rfl
  · unfold fn_SA_bestSumByRanges
    rw [e]
    rfl
  · unfold fn_Mo_bestSumByRanges fn_Mo_bestOf
    rcases hc with rfl | rfl
    · simp (disch := omega) only [zlit, zI_add, zI_sub, zI_mul, zI_neg, zI_lt, zI_le, zI_eq, zI_cl, zI_max, zI_min, zI_abs, bnd_ok, bnd_ex, lm_eq, li_eq, grd_inb, grd_ser, grd_z, grd_lt, if_true, if_false, if_pos, if_neg, e]
    · simp (disch := omega) only [zlit, zI_add, zI_sub, zI_mul, zI_neg, zI_lt, zI_le, zI_eq, zI_cl, zI_max, zI_min, zI_abs, bnd_ok, bnd_ex, lm_eq, li_eq, grd_inb, grd_ser, grd_z, grd_lt, if_true, if_false, if_pos, if_neg, e]
theorem Q_bestStart {p : Int} (hp : -2147483648 ≤ p ∧ p < 2147483648) : AgR (fn_SA_bestStart (zI p)) [(0, 1), (2, 2)] (fn_Mo_bestStart (zI p)) := by
  refine Q_fil (f := fn_SA_bestStart) (g := fn_Mo_bestStart) hp (fun M N A H K c h0 => ?_) (fun M q e => ?_) (fun M c hc e => ?_)
  · have h := H p c.1 c.2
    have hn := h.n
    obtain ⟨F, T, hB, -⟩ := (K p c.1 c.2).best h0
    have hB2 := hB
    obtain ⟨b1, b2, b3, -, -⟩ := hB2
    refine ⟨zI F, CR.of ?_, MR.of (fun M' K' => ?_)⟩
    · unfold fn_SA_bestStart
      simp (disch := omega) only [zlit, zI_add, zI_sub, zI_mul, zI_neg, zI_lt, zI_le, zI_eq, zI_cl, zI_max, zI_min, zI_abs, bnd_ok, bnd_ex, lm_eq, li_eq, grd_inb, grd_ser, grd_z, grd_lt, if_true, if_false, if_pos, if_neg, SA_fil c h, h.firstB hB]
    · have k := (K' p c.1 c.2).set (k := 32) (by decide) 6 (zI 0)
      unfold fn_Mo_bestStart
      simp (disch := omega) only [zlit, zI_add, zI_sub, zI_mul, zI_neg, zI_lt, zI_le, zI_eq, zI_cl, zI_max, zI_min, zI_abs, bnd_ok, bnd_ex, lm_eq, li_eq, grd_inb, grd_ser, grd_z, grd_lt, if_true, if_false, if_pos, if_neg, mo_fil_ok c h0 K', k.bestAt hB, zI_div]
      rw [show (20 * F + T) / 20 = F by omega]
  · unfold fn_SA_bestStart
    rw [e]
    rfl
  · unfold fn_Mo_bestStart
    rcases hc with rfl | rfl
    · simp (disch := omega) only [zlit, zI_add, zI_sub, zI_mul, zI_neg, zI_lt, zI_le, zI_eq, zI_cl, zI_max, zI_min, zI_abs, bnd_ok, bnd_ex, lm_eq, li_eq, grd_inb, grd_ser, grd_z, grd_lt, if_true, if_false, if_pos, if_neg, e]
    · simp (disch := omega) only [zlit, zI_add, zI_sub, zI_mul, zI_neg, zI_lt, zI_le, zI_eq, zI_cl, zI_max, zI_min, zI_abs, bnd_ok, bnd_ex, lm_eq, li_eq, grd_inb, grd_ser, grd_z, grd_lt, if_true, if_false, if_pos, if_neg, e]
theorem Q_bestEnd {p : Int} (hp : -2147483648 ≤ p ∧ p < 2147483648) : AgR (fn_SA_bestEnd (zI p)) [(0, 1), (2, 2)] (fn_Mo_bestEnd (zI p)) := by
  refine Q_fil (f := fn_SA_bestEnd) (g := fn_Mo_bestEnd) hp (fun M N A H K c h0 => ?_) (fun M q e => ?_) (fun M c hc e => ?_)
  · have h := H p c.1 c.2
    have hn := h.n
    obtain ⟨F, T, hB, -⟩ := (K p c.1 c.2).best h0
    have hB2 := hB
    obtain ⟨b1, b2, b3, -, -⟩ := hB2
    refine ⟨zI T, CR.of ?_, MR.of (fun M' K' => ?_)⟩
    · unfold fn_SA_bestEnd
      simp (disch := omega) only [zlit, zI_add, zI_sub, zI_mul, zI_neg, zI_lt, zI_le, zI_eq, zI_cl, zI_max, zI_min, zI_abs, bnd_ok, bnd_ex, lm_eq, li_eq, grd_inb, grd_ser, grd_z, grd_lt, if_true, if_false, if_pos, if_neg, SA_fil c h, h.lastB hB]
    · have k := (K' p c.1 c.2).set (k := 32) (by decide) 6 (zI 0)
      unfold fn_Mo_bestEnd
      simp (disch := omega) only [zlit, zI_add, zI_sub, zI_mul, zI_neg, zI_lt, zI_le, zI_eq, zI_cl, zI_max, zI_min, zI_abs, bnd_ok, bnd_ex, lm_eq, li_eq, grd_inb, grd_ser, grd_z, grd_lt, if_true, if_false, if_pos, if_neg, mo_fil_ok c h0 K', k.bestAt hB, zI_div]
      rw [show 20 * F + T - (20 * F + T) / 20 * 20 = T by omega]
  · unfold fn_SA_bestEnd
    rw [e]
    rfl
  · unfold fn_Mo_bestEnd
    rcases hc with rfl | rfl
    · simp (disch := omega) only [zlit, zI_add, zI_sub, zI_mul, zI_neg, zI_lt, zI_le, zI_eq, zI_cl, zI_max, zI_min, zI_abs, bnd_ok, bnd_ex, lm_eq, li_eq, grd_inb, grd_ser, grd_z, grd_lt, if_true, if_false, if_pos, if_neg, e]
    · simp (disch := omega) only [zlit, zI_add, zI_sub, zI_mul, zI_neg, zI_lt, zI_le, zI_eq, zI_cl, zI_max, zI_min, zI_abs, bnd_ok, bnd_ex, lm_eq, li_eq, grd_inb, grd_ser, grd_z, grd_lt, if_true, if_false, if_pos, if_neg, e]
