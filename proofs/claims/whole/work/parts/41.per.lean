/-! PERIODS AND OCCURRENCES -/
/-- the first k of p stand at the end of the first i of t -/
def suf (p t : Int → Int) (i k : Int) : Prop := 0 ≤ k ∧ k ≤ i ∧ ∀ j, 0 ≤ j → j < k → p j = t (i - k + j)
/-- b is the longest that is shorter than m -/
def LBo (p : Int → Int) (m b : Int) : Prop := (suf p p m b ∧ b < m) ∧ ∀ c, suf p p m c → c < m → c ≤ b
theorem suf_in {p t : Int → Int} {i k c : Int} (h : suf p t i k) (hc : suf p t i c) (hl : c ≤ k) : suf p p k c := by
  obtain ⟨h1, h2, h3⟩ := h
  obtain ⟨c1, c2, c3⟩ := hc
  refine ⟨c1, hl, fun j j1 j2 => ?_⟩
  rw [c3 j j1 j2, h3 (k - c + j) (by omega) (by omega), show i - k + (k - c + j) = i - c + j by omega]
theorem suf_out {p t : Int → Int} {i k c : Int} (h : suf p t i k) (hc : suf p p k c) : suf p t i c := by
  obtain ⟨h1, h2, h3⟩ := h
  obtain ⟨c1, c2, c3⟩ := hc
  refine ⟨c1, by omega, fun j j1 j2 => ?_⟩
  rw [c3 j j1 j2, h3 (k - c + j) (by omega) (by omega), show i - k + (k - c + j) = i - c + j by omega]
theorem suf_next {p t : Int → Int} {i k : Int} (h : suf p t i k) (e : p k = t i) : suf p t (i + 1) (k + 1) := by
  obtain ⟨h1, h2, h3⟩ := h
  refine ⟨by omega, by omega, fun j j1 j2 => ?_⟩
  by_cases c : j = k
  · rw [c, e, show i + 1 - (k + 1) + k = i by omega]
  · rw [h3 j j1 (by omega), show i + 1 - (k + 1) + j = i - k + j by omega]
theorem suf_back {p t : Int → Int} {i c : Int} (h : suf p t (i + 1) c) (hc : 1 ≤ c) : suf p t i (c - 1) ∧ p (c - 1) = t i := by
  obtain ⟨h1, h2, h3⟩ := h
  refine ⟨⟨by omega, by omega, fun j j1 j2 => ?_⟩, ?_⟩
  · rw [h3 j j1 (by omega), show i + 1 - c + j = i - (c - 1) + j by omega]
  · rw [h3 (c - 1) (by omega) (by omega), show i + 1 - c + (c - 1) = i by omega]
theorem suf_0 {p t : Int → Int} {i : Int} (h : 0 ≤ i) : suf p t i 0 := ⟨by omega, h, fun j j1 j2 => by omega⟩
theorem rd27 {M : Mm} {g : Int → Int} {i : Int} (hi : 0 ≤ i ∧ i < 20) : fn_SA_read 27 (zI i) (S1 M 27 g) = some (.inl (zI (g i)), S1 M 27 g) := S1_rd (L := 20) (by decide) (by decide) hi
theorem wr27 {M : Mm} {g : Int → Int} {i x : Int} (hi : 0 ≤ i ∧ i < 20) : fn_SA_write 27 (zI i) (zI x) (S1 M 27 g) = some (.inl (), S1 M 27 (upI g i x)) := S1_wr (L := 20) (by decide) (by decide) hi
theorem c_goOn_6 {M : Mm} {v : Nat} {n : Int} {p : Int → Int} (h : Ser M v n p) {t : Int → Int} {g : Int → Int} {i B k0 : Int} (hb : -99 ≤ t i ∧ t i ≤ 99) (hg : ∀ m, 1 ≤ m → m ≤ B → LBo p m (g (m - 1))) (hB : B < n) : ∀ (k : Nat) (q cnt : Int), suf p t i q → q ≤ B → (∀ d, suf p t i d → q < d → d ≤ k0 → p d ≠ t i) → 0 ≤ cnt → q + cnt ≤ 19 → q < k → ∃ r, fn_Pa_goOn_6 v (zI (t i)) k (zI q) (zI cnt) (S1 M 27 g) = some (.inl (zI r), S1 M 27 g) ∧ suf p t (i + 1) r ∧ r ≤ q + 1 ∧ ∀ c, suf p t (i + 1) c → c ≤ k0 + 1 → c ≤ r := by
  have hv := h.v
  have hn := h.n
  intro k
  induction k with
  | zero => intro q cnt hs; have := hs.1; intros; omega
  | succ k ih =>
    intro q cnt hs h1 h2 h3 h4 h5
    have hse := h.s1 27 (by omega) g
    have hq0 := hs.1
    have hqi := hs.2.1
    have b1 := h.b q
    rw [fn_Pa_goOn_6]
    by_cases c : q ≤ 0
    · have eq : q = 0 := by omega
      by_cases c2 : p q = t i
      · refine ⟨q + 1, ?_, suf_next hs c2, by omega, fun c' hc' hk' => ?_⟩
        · simp (disch := omega) only [zlit, zI_add, zI_sub, zI_mul, zI_neg, zI_lt, zI_le, zI_eq, zI_cl, zI_max, zI_min, zI_abs, bnd_ok, bnd_ex, lm_eq, li_eq, grd_inb, grd_ser, grd_z, grd_lt, if_true, if_false, if_pos, if_neg, fn_Pa_goOn_47, hse.at]
        · by_cases c3 : c' ≤ q + 1
          · exact c3
          · have := suf_back hc' (by omega)
            exact absurd this.2 (h2 (c' - 1) this.1 (by omega) (by omega))
      · refine ⟨q, ?_, by rw [eq]; exact suf_0 (by omega), by omega, fun c' hc' hk' => ?_⟩
        · simp (disch := omega) only [zlit, zI_add, zI_sub, zI_mul, zI_neg, zI_lt, zI_le, zI_eq, zI_cl, zI_max, zI_min, zI_abs, bnd_ok, bnd_ex, lm_eq, li_eq, grd_inb, grd_ser, grd_z, grd_lt, if_true, if_false, if_pos, if_neg, fn_Pa_goOn_47, hse.at]
        · by_cases c3 : c' ≤ q
          · exact c3
          · have := suf_back hc' (by omega)
            by_cases c4 : c' - 1 = q
            · rw [c4] at this
              exact absurd this.2 c2
            · exact absurd this.2 (h2 (c' - 1) this.1 (by omega) (by omega))
    · by_cases c2 : p q = t i
      · refine ⟨q + 1, ?_, suf_next hs c2, by omega, fun c' hc' hk' => ?_⟩
        · simp (disch := omega) only [zlit, zI_add, zI_sub, zI_mul, zI_neg, zI_lt, zI_le, zI_eq, zI_cl, zI_max, zI_min, zI_abs, bnd_ok, bnd_ex, lm_eq, li_eq, grd_inb, grd_ser, grd_z, grd_lt, if_true, if_false, if_pos, if_neg, fn_Pa_goOn_47, hse.at]
        · by_cases c3 : c' ≤ q + 1
          · exact c3
          · have := suf_back hc' (by omega)
            exact absurd this.2 (h2 (c' - 1) this.1 (by omega) (by omega))
      · obtain ⟨⟨l1, l2⟩, l3⟩ := hg q (by omega) h1
        have l0 := l1.1
        obtain ⟨r, e1, e2, e3, e4⟩ := ih (g (q - 1)) (cnt + 1) (suf_out hs l1) (by omega) (fun d d1 d2 d3 => by
          by_cases c3 : q < d
          · exact h2 d d1 c3 d3
          · by_cases c4 : d = q
            · rw [c4]; exact c2
            · have := l3 d (suf_in hs d1 (by omega)) (by omega)
              omega) (by omega) (by omega) (by omega)
        refine ⟨r, ?_, e2, by omega, e4⟩
        simp (disch := omega) only [zlit, zI_add, zI_sub, zI_mul, zI_neg, zI_lt, zI_le, zI_eq, zI_cl, zI_max, zI_min, zI_abs, bnd_ok, bnd_ex, lm_eq, li_eq, grd_inb, grd_ser, grd_z, grd_lt, if_true, if_false, if_pos, if_neg, hse.at, rd27]
        exact e1
theorem Ser.goOn {M : Mm} {v : Nat} {n : Int} {p : Int → Int} (h : Ser M v n p) {t : Int → Int} {g : Int → Int} {i B k0 : Int} (hb : -99 ≤ t i ∧ t i ≤ 99) (hg : ∀ m, 1 ≤ m → m ≤ B → LBo p m (g (m - 1))) (hB : B < n) (hs : suf p t i k0) (h1 : k0 ≤ B) : ∃ r, fn_Pa_goOn v (zI k0) (zI (t i)) (S1 M 27 g) = some (.inl (zI r), S1 M 27 g) ∧ suf p t (i + 1) r ∧ r ≤ k0 + 1 ∧ ∀ c, suf p t (i + 1) c → c ≤ k0 + 1 → c ≤ r := by
  have hv := h.v
  have hn := h.n
  have h0 := hs.1
  obtain ⟨r, e1, e2⟩ := c_goOn_6 h hb hg hB (k0 := k0) 2000 k0 0 hs h1 (fun d d1 d2 d3 => by omega) (by omega) (by omega) (by omega)
  refine ⟨r, ?_, e2⟩
  unfold fn_Pa_goOn fuel0
  simp (disch := omega) only [zlit, zI_add, zI_sub, zI_mul, zI_neg, zI_lt, zI_le, zI_eq, zI_cl, zI_max, zI_min, zI_abs, bnd_ok, bnd_ex, lm_eq, li_eq, grd_inb, grd_ser, grd_z, grd_lt, if_true, if_false, if_pos, if_neg]
  exact e1
theorem c_borders_13 {M : Mm} {v : Nat} {n : Int} {p : Int → Int} (h : Ser M v n p) : ∀ (k : Nat) (b i : Int) (g : Int → Int), LBo p i b → (∀ m, 1 ≤ m → m ≤ i → LBo p m (g (m - 1))) → 1 ≤ i → i ≤ n → n - i < k → ∃ g2, fn_Pa_findBorders_13 v k (zI b) (zI i) (S1 M 27 g) = some (.inl (), S1 M 27 g2) ∧ ∀ m, 1 ≤ m → m ≤ n → LBo p m (g2 (m - 1)) := by
  have hv := h.v
  have hn := h.n
  intro k
  induction k with
  | zero => intros; omega
  | succ k ih =>
    intro b i g hb hg h0 h1 h2
    have hse := h.s1 27 (by omega) g
    rw [fn_Pa_findBorders_13]
    by_cases c : n ≤ i
    · refine ⟨g, ?_, fun m m1 m2 => hg m m1 (by omega)⟩
      simp (disch := omega) only [zlit, zI_add, zI_sub, zI_mul, zI_neg, zI_lt, zI_le, zI_eq, zI_cl, zI_max, zI_min, zI_abs, bnd_ok, bnd_ex, lm_eq, li_eq, grd_inb, grd_ser, grd_z, grd_lt, if_true, if_false, if_pos, if_neg, hse.size]
    · obtain ⟨⟨b1, b2⟩, b3⟩ := hb
      have b0 := b1.1
      obtain ⟨r, e1, e2, e3, e4⟩ := h.goOn (t := p) (g := g) (i := i) (B := b) (k0 := b) (h.b i) (fun m m1 m2 => hg m m1 (by omega)) (by omega) b1 (by omega)
      have hr : LBo p (i + 1) r := by
        refine ⟨⟨e2, by omega⟩, fun c' hc' hl => ?_⟩
        by_cases c3 : c' ≤ 0
        · have := e2.1
          omega
        · have := suf_back hc' (by omega)
          have := b3 (c' - 1) this.1 (by omega)
          exact e4 c' hc' (by omega)
      obtain ⟨g2, e5, e6⟩ := ih r (i + 1) (upI g i r) hr (fun m m1 m2 => by
        by_cases c3 : m = i + 1
        · rw [c3, show i + 1 - 1 = i by omega, upI_eq]
          exact hr
        · rw [upI_ne _ _ (by omega)]
          exact hg m m1 (by omega)) (by omega) (by omega) (by omega)
      refine ⟨g2, ?_, e6⟩
      simp (disch := omega) only [zlit, zI_add, zI_sub, zI_mul, zI_neg, zI_lt, zI_le, zI_eq, zI_cl, zI_max, zI_min, zI_abs, bnd_ok, bnd_ex, lm_eq, li_eq, grd_inb, grd_ser, grd_z, grd_lt, if_true, if_false, if_pos, if_neg, hse.size, hse.at, e1, wr27, e5]
theorem Ser.borders {M : Mm} {v : Nat} {n : Int} {p : Int → Int} (h : Ser M v n p) (hn0 : 0 < n) : ∃ g, fn_Pa_findBorders v M = some (.inl (), S1 M 27 g) ∧ ∀ m, 1 ≤ m → m ≤ n → LBo p m (g (m - 1)) := by
  have hv := h.v
  have hn := h.n
  have h1 : LBo p 1 0 := ⟨⟨suf_0 (by omega), by omega⟩, fun c hc hl => by omega⟩
  obtain ⟨g2, e1, e2⟩ := c_borders_13 h 2000 0 1 (upI (fun i => (M 27 i.toNat).toInt) 0 0) h1 (fun m m1 m2 => by
    rw [show m = 1 by omega, show (1 : Int) - 1 = 0 by omega, upI_eq]
    exact h1) (by omega) (by omega) (by omega)
  refine ⟨g2, ?_, e2⟩
  have e3 := wr27 (M := M) (g := fun i => (M 27 i.toNat).toInt) (i := 0) (x := 0) (by omega)
  rw [S1_self] at e3
  unfold fn_Pa_findBorders fuel0
  simp (disch := omega) only [zlit, zI_add, zI_sub, zI_mul, zI_neg, zI_lt, zI_le, zI_eq, zI_cl, zI_max, zI_min, zI_abs, bnd_ok, bnd_ex, lm_eq, li_eq, grd_inb, grd_ser, grd_z, grd_lt, if_true, if_false, if_pos, if_neg, e3, e1]
/-! periods -/
def perP (a : Int → Int) (n p : Int) : Prop := ∀ i, 0 ≤ i → i + p < n → a i = a (i + p)
def PerIs (a : Int → Int) (n p : Int) : Prop := 1 ≤ p ∧ p ≤ n ∧ perP a n p ∧ ∀ q, 1 ≤ q → q < p → ¬ perP a n q
theorem PerIs.uniq {a : Int → Int} {n p q : Int} (h : PerIs a n p) (k : PerIs a n q) : p = q := by
  obtain ⟨h1, h2, h3, h4⟩ := h
  obtain ⟨k1, k2, k3, k4⟩ := k
  by_cases c : p < q
  · exact absurd h3 (k4 p h1 c)
  · by_cases c2 : q < p
    · exact absurd k3 (h4 q k1 c2)
    · omega
theorem LBo.per {a : Int → Int} {n b : Int} (h : LBo a n b) (hn : 0 < n) : PerIs a n (n - b) := by
  obtain ⟨⟨h1, h2⟩, h3⟩ := h
  have h0 := h1.1
  refine ⟨by omega, by omega, fun i i1 i2 => ?_, fun q q1 q2 hq => ?_⟩
  · rw [h1.2.2 i i1 (by omega), show n - b + i = i + (n - b) by omega]
  · have := h3 (n - q) ⟨by omega, by omega, fun j j1 j2 => by
      rw [hq j j1 (by omega), show n - (n - q) + j = j + q by omega]⟩ (by omega)
    omega
theorem Ser.periodK {M : Mm} {v : Nat} {n : Int} {a : Int → Int} (h : Ser M v n a) {p : Int} (hp : PerIs a n p) : ∃ M1, fn_Pa_period v M = some (.inl (zI p), M1) ∧ Off M M1 := by
  have hv := h.v
  have hn := h.n
  have hp1 := hp.1
  have hp2 := hp.2.1
  obtain ⟨g, e1, e2⟩ := h.borders (by omega)
  have e3 := (e2 n (by omega) (by omega)).per (by omega)
  have e4 := e3.uniq hp
  have hse := h.s1 27 (by omega) g
  refine ⟨S1 M 27 g, ?_, Off.sc M 27 _ (by omega)⟩
  unfold fn_Pa_period
  simp (disch := omega) only [zlit, zI_add, zI_sub, zI_mul, zI_neg, zI_lt, zI_le, zI_eq, zI_cl, zI_max, zI_min, zI_abs, bnd_ok, bnd_ex, lm_eq, li_eq, grd_inb, grd_ser, grd_z, grd_lt, if_true, if_false, if_pos, if_neg, e1, hse.size, rd27]
  rw [e4]
theorem c_repeats_2 {M : Mm} {v : Nat} {n : Int} {a : Int → Int} (h : Ser M v n a) {p : Int} (hp : 1 ≤ p ∧ p ≤ n) : ∀ (k : Nat) (i : Int), (∀ j, 0 ≤ j → j < i → j + p < n → a j = a (j + p)) → 0 ≤ i → i ≤ n → n - i < k → ∃ b : Bool, fn_Pa_repeats_2 v (zI p) k (zI i) M = some (.inl (zI (b01 b)), M) ∧ (b = true ↔ perP a n p) := by
  have hv := h.v
  have hn := h.n
  intro k
  induction k with
  | zero => intros; omega
  | succ k ih =>
    intro i hi h0 h1 h2
    have b1 := h.b i
    have b2 := h.b (i + p)
    rw [fn_Pa_repeats_2]
    by_cases c : n ≤ i + p
    · refine ⟨true, ?_, ⟨fun _ j j1 j2 => hi j j1 (by omega) j2, fun _ => rfl⟩⟩
      simp (disch := omega) only [zlit, zI_add, zI_sub, zI_mul, zI_neg, zI_lt, zI_le, zI_eq, zI_cl, zI_max, zI_min, zI_abs, bnd_ok, bnd_ex, lm_eq, li_eq, grd_inb, grd_ser, grd_z, grd_lt, if_true, if_false, if_pos, if_neg, h.size, b01_true]
    · by_cases c2 : a i = a (i + p)
      · obtain ⟨b, e1, e2⟩ := ih (i + 1) (fun j j1 j2 j3 => by
          by_cases c3 : j = i
          · rw [c3]; exact c2
          · exact hi j j1 (by omega) j3) (by omega) (by omega) (by omega)
        refine ⟨b, ?_, e2⟩
        simp (disch := omega) only [zlit, zI_add, zI_sub, zI_mul, zI_neg, zI_lt, zI_le, zI_eq, zI_cl, zI_max, zI_min, zI_abs, bnd_ok, bnd_ex, lm_eq, li_eq, grd_inb, grd_ser, grd_z, grd_lt, if_true, if_false, if_pos, if_neg, h.size, h.at]
        exact e1
      · refine ⟨false, ?_, ⟨fun z => Bool.noConfusion z, fun z => absurd (z i h0 (by omega)) c2⟩⟩
        simp (disch := omega) only [zlit, zI_add, zI_sub, zI_mul, zI_neg, zI_lt, zI_le, zI_eq, zI_cl, zI_max, zI_min, zI_abs, bnd_ok, bnd_ex, lm_eq, li_eq, grd_inb, grd_ser, grd_z, grd_lt, if_true, if_false, if_pos, if_neg, h.size, h.at, b01_false]
theorem c_trial_2 {M : Mm} {v : Nat} {n : Int} {a : Int → Int} (h : Ser M v n a) : ∀ (k : Nat) (p : Int), (∀ q, 1 ≤ q → q < p → ¬ perP a n q) → 1 ≤ p → p ≤ n → n - p < k → ∃ r, fn_Pa_periodByTrial_2 v k (zI p) M = some (.inl (zI r), M) ∧ PerIs a n r := by
  have hv := h.v
  have hn := h.n
  intro k
  induction k with
  | zero => intros; omega
  | succ k ih =>
    intro p hp h0 h1 h2
    rw [fn_Pa_periodByTrial_2]
    by_cases c : n ≤ p
    · refine ⟨n, ?_, ⟨by omega, by omega, fun i i1 i2 => by omega, fun q q1 q2 => hp q q1 (by omega)⟩⟩
      simp (disch := omega) only [zlit, zI_add, zI_sub, zI_mul, zI_neg, zI_lt, zI_le, zI_eq, zI_cl, zI_max, zI_min, zI_abs, bnd_ok, bnd_ex, lm_eq, li_eq, grd_inb, grd_ser, grd_z, grd_lt, if_true, if_false, if_pos, if_neg, h.size, fn_Pa_periodByTrial_26]
    · obtain ⟨b, e1, e2⟩ := c_repeats_2 h (p := p) ⟨h0, h1⟩ 2000 0 (fun j j1 j2 => by omega) (by omega) (by omega) (by omega)
      have e3 : fn_Pa_repeats v (zI p) M = some (.inl (zI (b01 b)), M) := by
        unfold fn_Pa_repeats fuel0
        simp (disch := omega) only [zlit, zI_add, zI_sub, zI_mul, zI_neg, zI_lt, zI_le, zI_eq, zI_cl, zI_max, zI_min, zI_abs, bnd_ok, bnd_ex, lm_eq, li_eq, grd_inb, grd_ser, grd_z, grd_lt, if_true, if_false, if_pos, if_neg]
        exact e1
      by_cases c2 : b = true
      · refine ⟨p, ?_, ⟨h0, h1, e2.mp c2, hp⟩⟩
        simp (disch := omega) only [zlit, zI_add, zI_sub, zI_mul, zI_neg, zI_lt, zI_le, zI_eq, zI_cl, zI_max, zI_min, zI_abs, bnd_ok, bnd_ex, lm_eq, li_eq, grd_inb, grd_ser, grd_z, grd_lt, if_true, if_false, if_pos, if_neg, h.size, e3, b01_t c2]
      · obtain ⟨r, e4, e5⟩ := ih (p + 1) (fun q q1 q2 => by
          by_cases c3 : q = p
          · rw [c3]; exact fun z => c2 (e2.mpr z)
          · exact hp q q1 (by omega)) (by omega) (by omega) (by omega)
        refine ⟨r, ?_, e5⟩
        simp (disch := omega) only [zlit, zI_add, zI_sub, zI_mul, zI_neg, zI_lt, zI_le, zI_eq, zI_cl, zI_max, zI_min, zI_abs, bnd_ok, bnd_ex, lm_eq, li_eq, grd_inb, grd_ser, grd_z, grd_lt, if_true, if_false, if_pos, if_neg, h.size, e3, b01_f c2, e4]
theorem Ser.trial {M : Mm} {v : Nat} {n : Int} {a : Int → Int} (h : Ser M v n a) {p : Int} (hp : PerIs a n p) : fn_Pa_periodByTrial v M = some (.inl (zI p), M) := by
  have hv := h.v
  have hn := h.n
  have hp1 := hp.1
  have hp2 := hp.2.1
  obtain ⟨r, e1, e2⟩ := c_trial_2 h 2000 1 (fun q q1 q2 => by omega) (by omega) (by omega) (by omega)
  rw [e2.uniq hp] at e1
  unfold fn_Pa_periodByTrial fuel0
  simp (disch := omega) only [zlit, zI_add, zI_sub, zI_mul, zI_neg, zI_lt, zI_le, zI_eq, zI_cl, zI_max, zI_min, zI_abs, bnd_ok, bnd_ex, lm_eq, li_eq, grd_inb, grd_ser, grd_z, grd_lt, if_true, if_false, if_pos, if_neg, e1]
theorem Ser.perEx {M : Mm} {v : Nat} {n : Int} {a : Int → Int} (h : Ser M v n a) (hn0 : 0 < n) : ∃ p, PerIs a n p := by
  have hv := h.v
  have hn := h.n
  obtain ⟨r, e1, e2⟩ := c_trial_2 h 2000 1 (fun q q1 q2 => by omega) (by omega) (by omega) (by omega)
  exact ⟨r, e2⟩
theorem m_period_14 {M : Mm} {v n : Int} {a : Int → Int} (h : Mse M v n a) : ∀ (k : Nat) (p i : Int), (∀ q, 1 ≤ q → q < p → ¬ perP a n q) → (∀ j, 0 ≤ j → j < i → j + p < n → a j = a (j + p)) → 1 ≤ p → p ≤ n → 0 ≤ i → i ≤ n → (n - p) * 21 + (n - i) < k → ∃ r, fn_Mo_period_14 (zI v) k (zI p) (zI i) M = some (.inl (zI r), M) ∧ PerIs a n r := by
  have hv := h.s
  have hn := h.n
  intro k
  induction k with
  | zero => intros; omega
  | succ k ih =>
    intro p i hp hi h0 h1 h2 h3 h4
    have b1 := h.b i
    have b2 := h.b (i + p)
    rw [fn_Mo_period_14]
    by_cases c : n ≤ i + p
    · refine ⟨p, ?_, ⟨h0, h1, fun j j1 j2 => hi j j1 (by omega) j2, hp⟩⟩
      simp (disch := omega) only [zlit, zI_add, zI_sub, zI_mul, zI_neg, zI_lt, zI_le, zI_eq, zI_cl, zI_max, zI_min, zI_abs, bnd_ok, bnd_ex, lm_eq, li_eq, grd_inb, grd_ser, grd_z, grd_lt, if_true, if_false, if_pos, if_neg, h.many]
    · by_cases c2 : a i = a (i + p)
      · obtain ⟨r, e1, e2⟩ := ih p (i + 1) hp (fun j j1 j2 j3 => by
          by_cases c3 : j = i
          · rw [c3]; exact c2
          · exact hi j j1 (by omega) j3) h0 h1 (by omega) (by omega) (by omega)
        refine ⟨r, ?_, e2⟩
        simp (disch := omega) only [zlit, zI_add, zI_sub, zI_mul, zI_neg, zI_lt, zI_le, zI_eq, zI_cl, zI_max, zI_min, zI_abs, bnd_ok, bnd_ex, lm_eq, li_eq, grd_inb, grd_ser, grd_z, grd_lt, if_true, if_false, if_pos, if_neg, h.many, h.at, fn_Mo_period_50]
        exact e1
      · obtain ⟨r, e1, e2⟩ := ih (p + 1) (-1 + 1) (fun q q1 q2 => by
          by_cases c3 : q = p
          · rw [c3]; exact fun z => c2 (z i h2 (by omega))
          · exact hp q q1 (by omega)) (fun j j1 j2 j3 => by omega) (by omega) (by omega) (by omega) (by omega) (by omega)
        refine ⟨r, ?_, e2⟩
        simp (disch := omega) only [zlit, zI_add, zI_sub, zI_mul, zI_neg, zI_lt, zI_le, zI_eq, zI_cl, zI_max, zI_min, zI_abs, bnd_ok, bnd_ex, lm_eq, li_eq, grd_inb, grd_ser, grd_z, grd_lt, if_true, if_false, if_pos, if_neg, h.many, h.at, fn_Mo_period_50]
        exact e1
theorem mo_period {N : Int → Int} {A : Int → Int → Int} {p r : Int} (c : 0 ≤ p ∧ p < 4) (h0 : 0 < N p) (hr : PerIs (A p) (N p) r) {M : Mm} (K : Ms N A M) : fn_Mo_period (zI p) M = some (.inl (zI r), mset M 32 6 0) := by
  have k := (K p c.1 c.2).set (k := 32) (by decide) 6 (zI 0)
  have hn := k.n
  obtain ⟨r2, e1, e2⟩ := m_period_14 k 2000 1 0 (fun q q1 q2 => by omega) (fun j j1 j2 => by omega) (by omega) (by omega) (by omega) (by omega) (by omega)
  rw [e2.uniq hr] at e1
  unfold fn_Mo_period fuel0
  simp (disch := omega) only [zlit, zI_add, zI_sub, zI_mul, zI_neg, zI_lt, zI_le, zI_eq, zI_cl, zI_max, zI_min, zI_abs, bnd_ok, bnd_ex, lm_eq, li_eq, grd_inb, grd_ser, grd_z, grd_lt, if_true, if_false, if_pos, if_neg, mo_fil_ok c h0 K]
  exact e1
theorem Q_leastPeriod {p : Int} (hp : -2147483648 ≤ p ∧ p < 2147483648) : AgR (fn_SA_leastPeriod (zI p)) [(0, 1), (2, 2)] (fn_Mo_leastPeriod (zI p)) := by
  refine Q_fil (f := fn_SA_leastPeriod) (g := fn_Mo_leastPeriod) hp (fun M N A H K c h0 => ?_) (fun M q e => ?_) (fun M c hc e => ?_)
  · have h := H p c.1 c.2
    have hn := h.n
    obtain ⟨r, hr⟩ := h.perEx h0
    obtain ⟨M1, e1, o1⟩ := h.periodK hr
    refine ⟨zI r, ⟨M1, ?_, o1⟩, MR.of (fun M' K' => ?_)⟩
    · unfold fn_SA_leastPeriod
      simp (disch := omega) only [zlit, zI_add, zI_sub, zI_mul, zI_neg, zI_lt, zI_le, zI_eq, zI_cl, zI_max, zI_min, zI_abs, bnd_ok, bnd_ex, lm_eq, li_eq, grd_inb, grd_ser, grd_z, grd_lt, if_true, if_false, if_pos, if_neg, SA_fil c h, e1]
    · unfold fn_Mo_leastPeriod
      rw [mo_period c h0 hr K']
      rfl
  · unfold fn_SA_leastPeriod
    rw [e]
    rfl
  · unfold fn_Mo_leastPeriod fn_Mo_period
    rcases hc with rfl | rfl
    · simp (disch := omega) only [zlit, zI_add, zI_sub, zI_mul, zI_neg, zI_lt, zI_le, zI_eq, zI_cl, zI_max, zI_min, zI_abs, bnd_ok, bnd_ex, lm_eq, li_eq, grd_inb, grd_ser, grd_z, grd_lt, if_true, if_false, if_pos, if_neg, e]
    · simp (disch := omega) only [zlit, zI_add, zI_sub, zI_mul, zI_neg, zI_lt, zI_le, zI_eq, zI_cl, zI_max, zI_min, zI_abs, bnd_ok, bnd_ex, lm_eq, li_eq, grd_inb, grd_ser, grd_z, grd_lt, if_true, if_false, if_pos, if_neg, e]
theorem Q_leastPeriodByTrial {p : Int} (hp : -2147483648 ≤ p ∧ p < 2147483648) : AgR (fn_SA_leastPeriodByTrial (zI p)) [(0, 1), (2, 2)] (fn_Mo_leastPeriodByTrial (zI p)) := by
  refine Q_fil (f := fn_SA_leastPeriodByTrial) (g := fn_Mo_leastPeriodByTrial) hp (fun M N A H K c h0 => ?_) (fun M q e => ?_) (fun M c hc e => ?_)
  · have h := H p c.1 c.2
    have hn := h.n
    obtain ⟨r, hr⟩ := h.perEx h0
    refine ⟨zI r, CR.of ?_, MR.of (fun M' K' => ?_)⟩
    · unfold fn_SA_leastPeriodByTrial
      simp (disch := omega) only [zlit, zI_add, zI_sub, zI_mul, zI_neg, zI_lt, zI_le, zI_eq, zI_cl, zI_max, zI_min, zI_abs, bnd_ok, bnd_ex, lm_eq, li_eq, grd_inb, grd_ser, grd_z, grd_lt, if_true, if_false, if_pos, if_neg, SA_fil c h, h.trial hr]
    · unfold fn_Mo_leastPeriodByTrial
      rw [mo_period c h0 hr K']
      rfl
  · unfold fn_SA_leastPeriodByTrial
    rw [e]
    rfl
  · unfold fn_Mo_leastPeriodByTrial fn_Mo_period
    rcases hc with rfl | rfl
    · simp (disch := omega) only [zlit, zI_add, zI_sub, zI_mul, zI_neg, zI_lt, zI_le, zI_eq, zI_cl, zI_max, zI_min, zI_abs, bnd_ok, bnd_ex, lm_eq, li_eq, grd_inb, grd_ser, grd_z, grd_lt, if_true, if_false, if_pos, if_neg, e]
    · simp (disch := omega) only [zlit, zI_add, zI_sub, zI_mul, zI_neg, zI_lt, zI_le, zI_eq, zI_cl, zI_max, zI_min, zI_abs, bnd_ok, bnd_ex, lm_eq, li_eq, grd_inb, grd_ser, grd_z, grd_lt, if_true, if_false, if_pos, if_neg, e]
