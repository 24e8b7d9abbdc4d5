/-! PROMINENCE, on both roads -/
theorem wkF_le {a : Int → Int} {n x st : Int} : ∀ (F : Nat) (p m : Int), wkF a n x st F p m ≤ m := by
  intro F
  induction F with
  | zero => intro p m; exact Int.le_refl m
  | succ F ih =>
    intro p m
    by_cases c : 0 ≤ p ∧ p < n ∧ a p ≤ a x
    · rw [wkF_in F c]
      have := ih (p + st) (min m (a p))
      omega
    · rw [wkF_out _ c]
      omega
theorem c_reaches_3 {M : Mm} {v : Nat} {n : Int} {a : Int → Int} (h : Ser M v n a) {x st lev : Int} (hx : 0 ≤ x ∧ x < n) (hst : st = 1 ∨ st = -1) (hl : -99 ≤ lev ∧ lev ≤ a x) : ∀ (k : Nat) (m far : Int) (F : Nat), lev ≤ m → 1 ≤ far → far ≤ n → n - far < k → n - far ≤ F → 0 ≤ x + far * st → x + far * st < n → fn_Pe_reaches_3 v (zI x) (zI lev) (zI st) k (zI far) M = some (.inl (zI (if lev ≤ wkF a n x st F (x + far * st) m then 1 else 0)), M) := by
  have hv := h.v
  have hn := h.n
  have b0 := h.b x
  intro k
  induction k with
  | zero => intros; omega
  | succ k ih =>
    intro m far F hm h0 h1 h2 h3 h4 h5
    obtain ⟨-, e2, e3⟩ := far_pos (x := x) hst far
    have ih2 := ih (min m (a (x + far * st))) (far + 1)
    rw [e2] at ih2
    have hle := wkF_le (a := a) (n := n) (x := x) (st := st)
    generalize hp : x + far * st = p at *
    have b1 := h.b p
    rw [fn_Pe_reaches_3]
    obtain ⟨F', rfl⟩ : ∃ F', F = F' + 1 := ⟨F - 1, by omega⟩
    by_cases c1 : a x < a p
    · rw [wkF_out _ (by omega)]
      simp (disch := omega) only [zlit, zI_add, zI_sub, zI_mul, zI_neg, zI_lt, zI_le, zI_eq, zI_cl, zI_max, zI_min, zI_abs, bnd_ok, bnd_ex, lm_eq, li_eq, grd_inb, grd_ser, grd_z, grd_lt, if_true, if_false, if_pos, if_neg, h.size, hp, h.has, h.at]
    · rw [wkF_in F' (by omega)]
      by_cases c2 : a p < lev
      · have := hle F' (p + st) (min m (a p))
        simp (disch := omega) only [zlit, zI_add, zI_sub, zI_mul, zI_neg, zI_lt, zI_le, zI_eq, zI_cl, zI_max, zI_min, zI_abs, bnd_ok, bnd_ex, lm_eq, li_eq, grd_inb, grd_ser, grd_z, grd_lt, if_true, if_false, if_pos, if_neg, h.size, hp, h.has, h.at]
      · by_cases c3 : 0 ≤ p + st ∧ p + st < n
        · simp (disch := omega) only [zlit, zI_add, zI_sub, zI_mul, zI_neg, zI_lt, zI_le, zI_eq, zI_cl, zI_max, zI_min, zI_abs, bnd_ok, bnd_ex, lm_eq, li_eq, grd_inb, grd_ser, grd_z, grd_lt, if_true, if_false, if_pos, if_neg, h.size, hp, h.has, h.at]
          exact ih2 F' (by omega) (by omega) (by omega) (by omega) (by omega) c3.1 c3.2
        · rw [wkF_out F' (by omega)]
          simp (disch := omega) only [zlit, zI_add, zI_sub, zI_mul, zI_neg, zI_lt, zI_le, zI_eq, zI_cl, zI_max, zI_min, zI_abs, bnd_ok, bnd_ex, lm_eq, li_eq, grd_inb, grd_ser, grd_z, grd_lt, if_true, if_false, if_pos, if_neg, h.size, hp, h.has, h.hasn, h.at]
theorem Ser.reaches {M : Mm} {v : Nat} {n : Int} {a : Int → Int} (h : Ser M v n a) {x st lev : Int} (hx : 0 ≤ x ∧ x < n) (hst : st = 1 ∨ st = -1) (hl : -99 ≤ lev ∧ lev ≤ a x) : fn_Pe_reaches v (zI x) (zI lev) (zI st) M = some (.inl (zI (if (0 ≤ x + st ∧ x + st < n) ∧ lev ≤ lowF a n x st then 1 else 0)), M) := by
  have hv := h.v
  have hn := h.n
  unfold fn_Pe_reaches fuel0
  by_cases c : 0 ≤ x + st ∧ x + st < n
  · have e := c_reaches_3 h hx hst hl 2000 (a x) 1 20 hl.2 (by omega) (by omega) (by omega) (by omega) (by omega) (by omega)
    rw [Int.one_mul] at e
    simp (disch := omega) only [zlit, zI_add, zI_sub, zI_mul, zI_neg, zI_lt, zI_le, zI_eq, zI_cl, zI_max, zI_min, zI_abs, bnd_ok, bnd_ex, lm_eq, li_eq, grd_inb, grd_ser, grd_z, grd_lt, if_true, if_false, if_pos, if_neg, e]
    unfold lowF
    by_cases c2 : lev ≤ wkF a n x st 20 (x + st) (a x)
    · rw [if_pos c2, if_pos (by rw [if_pos c]; exact ⟨c, c2⟩)]
    · rw [if_neg c2, if_neg (by rw [if_pos c]; exact fun z => c2 z.2)]
  · rw [if_neg (fun z => c z.1)]
    simp (disch := omega) only [zlit, zI_add, zI_sub, zI_mul, zI_neg, zI_lt, zI_le, zI_eq, zI_cl, zI_max, zI_min, zI_abs, bnd_ok, bnd_ex, lm_eq, li_eq, grd_inb, grd_ser, grd_z, grd_lt, if_true, if_false, if_pos, if_neg]
    rw [show (2000 : Nat) = 1999 + 1 from rfl, fn_Pe_reaches_3]
    by_cases c2 : n = 1
    · simp (disch := omega) only [zlit, zI_add, zI_sub, zI_mul, zI_neg, zI_lt, zI_le, zI_eq, zI_cl, zI_max, zI_min, zI_abs, bnd_ok, bnd_ex, lm_eq, li_eq, grd_inb, grd_ser, grd_z, grd_lt, if_true, if_false, if_pos, if_neg, h.size]
    · simp (disch := omega) only [zlit, zI_add, zI_sub, zI_mul, zI_neg, zI_lt, zI_le, zI_eq, zI_cl, zI_max, zI_min, zI_abs, bnd_ok, bnd_ex, lm_eq, li_eq, grd_inb, grd_ser, grd_z, grd_lt, if_true, if_false, if_pos, if_neg, h.size, Int.one_mul, h.hasn]
theorem c_levels_8 {M : Mm} {v : Nat} {n : Int} {a : Int → Int} (h : Ser M v n a) {x : Int} (hx : 0 ≤ x ∧ x < n) (hn1 : n ≠ 1) : ∀ (k : Nat) (lev : Int), max (lowF a n x (-1)) (lowF a n x 1) ≤ lev → lev ≤ a x → lev - max (lowF a n x (-1)) (lowF a n x 1) < k → fn_Pe_heightByLevels_8 v (zI x) (zI (a x)) k (zI lev) M = some (.inl (zI (a x - max (lowF a n x (-1)) (lowF a n x 1))), M) := by
  have hv := h.v
  have hn := h.n
  have b0 := h.b x
  have h1 := lowF_b (n := n) (x := x) (st := -1) h.b
  have h2 := lowF_b (n := n) (x := x) (st := 1) h.b
  have h3 : x = 0 → lowF a n x (-1) = -99 := fun e => if_neg (by omega)
  have h4 : x = n - 1 → lowF a n x 1 = -99 := fun e => if_neg (by omega)
  intro k
  induction k with
  | zero => intros; omega
  | succ k ih =>
    intro lev l1 l2 l3
    have r1 := h.reaches hx (st := -1) (.inr rfl) (lev := lev) (by omega)
    have r2 := h.reaches hx (st := 1) (.inl rfl) (lev := lev) (by omega)
    rw [fn_Pe_heightByLevels_8]
    by_cases c1 : (0 ≤ x + -1 ∧ x + -1 < n) ∧ lev ≤ lowF a n x (-1)
    · rw [if_pos c1] at r1
      simp (disch := omega) only [zlit, zI_add, zI_sub, zI_mul, zI_neg, zI_lt, zI_le, zI_eq, zI_cl, zI_max, zI_min, zI_abs, bnd_ok, bnd_ex, lm_eq, li_eq, grd_inb, grd_ser, grd_z, grd_lt, if_true, if_false, if_pos, if_neg, r1, fn_Pe_heightByLevels_34]
      rw [show lev = max (lowF a n x (-1)) (lowF a n x 1) by omega]
    · rw [if_neg c1] at r1
      by_cases c2 : (0 ≤ x + 1 ∧ x + 1 < n) ∧ lev ≤ lowF a n x 1
      · rw [if_pos c2] at r2
        simp (disch := omega) only [zlit, zI_add, zI_sub, zI_mul, zI_neg, zI_lt, zI_le, zI_eq, zI_cl, zI_max, zI_min, zI_abs, bnd_ok, bnd_ex, lm_eq, li_eq, grd_inb, grd_ser, grd_z, grd_lt, if_true, if_false, if_pos, if_neg, r1, r2, fn_Pe_heightByLevels_34]
        rw [show lev = max (lowF a n x (-1)) (lowF a n x 1) by omega]
      · rw [if_neg c2] at r2
        have hlt : max (lowF a n x (-1)) (lowF a n x 1) < lev := by
          by_cases e1 : x = 0
          · have := h3 e1
            omega
          · by_cases e2 : x = n - 1
            · have := h4 e2
              omega
            · omega
        simp (disch := omega) only [zlit, zI_add, zI_sub, zI_mul, zI_neg, zI_lt, zI_le, zI_eq, zI_cl, zI_max, zI_min, zI_abs, bnd_ok, bnd_ex, lm_eq, li_eq, grd_inb, grd_ser, grd_z, grd_lt, if_true, if_false, if_pos, if_neg, r1, r2]
        exact ih (lev + -1) (by omega) (by omega) (by omega)
theorem c_levels_1 {M : Mm} {v : Nat} {n : Int} {a : Int → Int} (h : Ser M v n a) {x : Int} (hx : 0 ≤ x ∧ x < n) (hn1 : n = 1) : ∀ (k : Nat) (lev : Int), -100 ≤ lev → lev ≤ a x → lev + 100 < k → fn_Pe_heightByLevels_8 v (zI x) (zI (a x)) k (zI lev) M = some (.inl (zI 0), M) := by
  have hv := h.v
  have hn := h.n
  have b0 := h.b x
  intro k
  induction k with
  | zero => intros; omega
  | succ k ih =>
    intro lev l1 l2 l3
    rw [fn_Pe_heightByLevels_8]
    by_cases c : lev < -99
    · simp (disch := omega) only [zlit, zI_add, zI_sub, zI_mul, zI_neg, zI_lt, zI_le, zI_eq, zI_cl, zI_max, zI_min, zI_abs, bnd_ok, bnd_ex, lm_eq, li_eq, grd_inb, grd_ser, grd_z, grd_lt, if_true, if_false, if_pos, if_neg]
    · have r1 := h.reaches hx (st := -1) (.inr rfl) (lev := lev) (by omega)
      have r2 := h.reaches hx (st := 1) (.inl rfl) (lev := lev) (by omega)
      rw [if_neg (by omega)] at r1 r2
      simp (disch := omega) only [zlit, zI_add, zI_sub, zI_mul, zI_neg, zI_lt, zI_le, zI_eq, zI_cl, zI_max, zI_min, zI_abs, bnd_ok, bnd_ex, lm_eq, li_eq, grd_inb, grd_ser, grd_z, grd_lt, if_true, if_false, if_pos, if_neg, r1, r2]
      exact ih (lev + -1) (by omega) (by omega) (by omega)
theorem lowF_le {a : Int → Int} {n x st : Int} (hb : ∀ i, -99 ≤ a i ∧ a i ≤ 99) : lowF a n x st ≤ a x := by
  have h1 := hb x
  have h2 := wkF_le (a := a) (n := n) (x := x) (st := st) 20 (x + st) (a x)
  unfold lowF
  by_cases c : 0 ≤ x + st ∧ x + st < n
  · rw [if_pos c]; omega
  · rw [if_neg c]; omega
theorem Ser.levels {M : Mm} {v : Nat} {n : Int} {a : Int → Int} (h : Ser M v n a) {x : Int} (hx : 0 ≤ x ∧ x < n) : fn_Pe_heightByLevels v (zI x) M = some (.inl (zI (hgtF a n x)), M) := by
  have hv := h.v
  have hn := h.n
  have b0 := h.b x
  have h1 := lowF_b (n := n) (x := x) (st := -1) h.b
  have h2 := lowF_b (n := n) (x := x) (st := 1) h.b
  have h3 := lowF_le (n := n) (x := x) (st := -1) h.b
  have h4 := lowF_le (n := n) (x := x) (st := 1) h.b
  unfold fn_Pe_heightByLevels fuel0 hgtF
  by_cases c : n = 1
  · simp (disch := omega) only [zlit, zI_add, zI_sub, zI_mul, zI_neg, zI_lt, zI_le, zI_eq, zI_cl, zI_max, zI_min, zI_abs, bnd_ok, bnd_ex, lm_eq, li_eq, grd_inb, grd_ser, grd_z, grd_lt, if_true, if_false, if_pos, if_neg, h.at]
    exact c_levels_1 h hx c 2000 (a x) (by omega) (by omega) (by omega)
  · simp (disch := omega) only [zlit, zI_add, zI_sub, zI_mul, zI_neg, zI_lt, zI_le, zI_eq, zI_cl, zI_max, zI_min, zI_abs, bnd_ok, bnd_ex, lm_eq, li_eq, grd_inb, grd_ser, grd_z, grd_lt, if_true, if_false, if_pos, if_neg, h.at]
    exact c_levels_8 h hx c 2000 (a x) (by omega) (by omega) (by omega)
/-- a call on a peak -/
theorem Q_peak {f : Int32 → Int32 → Mm → Rs Int32} {g : Int32 → Int32 → Mm → Rs Int32} {p i : Int} (hp : -2147483648 ≤ p ∧ p < 2147483648) (hi : -2147483648 ≤ i ∧ i < 2147483648)
    (hg : ∀ M, g (zI p) (zI i) M = bnd (fn_Mo_standing (zI p) (zI i) M) (fun r M => some (.inl r, M)))
    (hf1 : ∀ M N A, Cs N A M → 0 ≤ p ∧ p < 4 → 0 ≤ i ∧ i < N p → pkB (A p) (N p) i = true → f (zI p) (zI i) M = some (.inl (zI (hgtF (A p) (N p) i)), M))
    (hf2 : ∀ M q, fn_SA_seriesWithPeak (zI p) (zI i) M = some (.inr q, M) → f (zI p) (zI i) M = some (.inr q, M)) : AgR (f (zI p) (zI i)) [(0, 1), (3, 2)] (g (zI p) (zI i)) := by
  intro M N A H K
  by_cases c : 0 ≤ p ∧ p < 4
  · have h := H p c.1 c.2
    have hn := h.n
    by_cases c2 : 0 ≤ i ∧ i < N p
    · by_cases c3 : pkB (A p) (N p) i = true
      · refine .inl ⟨zI (hgtF (A p) (N p) i), CR.of (hf1 M N A H c c2 c3), MR.of (fun M' K' => ?_)⟩
        have k := K' p c.1 c.2
        have k2 := k.set (k := 32) (by decide) 6 (zI 0)
        rw [hg]
        unfold fn_Mo_standing
        simp (disch := omega) only [zlit, zI_add, zI_sub, zI_mul, zI_neg, zI_lt, zI_le, zI_eq, zI_cl, zI_max, zI_min, zI_abs, bnd_ok, bnd_ex, lm_eq, li_eq, grd_inb, grd_ser, grd_z, grd_lt, if_true, if_false, if_pos, if_neg, k.index, k.peak, b01_t c3, fn_Mo_standing_28, mset_at, k2.rise c2 c3]
      · refine .inr ⟨3, 0, 2, CR.of (hf2 M 3 ?_), rfl, by decide, MR.of (fun M' K' => ?_)⟩
        · unfold fn_SA_seriesWithPeak
          simp (disch := omega) only [zlit, zI_add, zI_sub, zI_mul, zI_neg, zI_lt, zI_le, zI_eq, zI_cl, zI_max, zI_min, zI_abs, bnd_ok, bnd_ex, lm_eq, li_eq, grd_inb, grd_ser, grd_z, grd_lt, if_true, if_false, if_pos, if_neg, SA_with c h, h.peak, b01_f c3]
        · have k := K' p c.1 c.2
          rw [hg]
          unfold fn_Mo_standing
          simp (disch := omega) only [zlit, zI_add, zI_sub, zI_mul, zI_neg, zI_lt, zI_le, zI_eq, zI_cl, zI_max, zI_min, zI_abs, bnd_ok, bnd_ex, lm_eq, li_eq, grd_inb, grd_ser, grd_z, grd_lt, if_true, if_false, if_pos, if_neg, k.index, k.peak, b01_f c3, fn_Mo_standing_28, mset_at]
    · refine .inr ⟨0, 0, 1, CR.of (hf2 M 0 ?_), rfl, by decide, MR.of (fun M' K' => ?_)⟩
      · unfold fn_SA_seriesWithPeak
        simp (disch := omega) only [zlit, zI_add, zI_sub, zI_mul, zI_neg, zI_lt, zI_le, zI_eq, zI_cl, zI_max, zI_min, zI_abs, bnd_ok, bnd_ex, lm_eq, li_eq, grd_inb, grd_ser, grd_z, grd_lt, if_true, if_false, if_pos, if_neg, SA_with_no c h]
      · have k := K' p c.1 c.2
        rw [hg]
        unfold fn_Mo_standing
        simp (disch := omega) only [zlit, zI_add, zI_sub, zI_mul, zI_neg, zI_lt, zI_le, zI_eq, zI_cl, zI_max, zI_min, zI_abs, bnd_ok, bnd_ex, lm_eq, li_eq, grd_inb, grd_ser, grd_z, grd_lt, if_true, if_false, if_pos, if_neg, k.index, fn_Mo_standing_28, mset_at]
  · refine .inr ⟨0, 0, 1, CR.of (hf2 M 0 ?_), rfl, by decide, MR.of (fun M' K' => ?_)⟩
    · unfold fn_SA_seriesWithPeak
      simp (disch := omega) only [zlit, zI_add, zI_sub, zI_mul, zI_neg, zI_lt, zI_le, zI_eq, zI_cl, zI_max, zI_min, zI_abs, bnd_ok, bnd_ex, lm_eq, li_eq, grd_inb, grd_ser, grd_z, grd_lt, if_true, if_false, if_pos, if_neg, SA_with_no2]
    · rw [hg]
      unfold fn_Mo_standing
      simp (disch := omega) only [zlit, zI_add, zI_sub, zI_mul, zI_neg, zI_lt, zI_le, zI_eq, zI_cl, zI_max, zI_min, zI_abs, bnd_ok, bnd_ex, lm_eq, li_eq, grd_inb, grd_ser, grd_z, grd_lt, if_true, if_false, if_pos, if_neg, mo_index_no, fn_Mo_standing_28, mset_at]
theorem Q_prominence {p i : Int} (hp : -2147483648 ≤ p ∧ p < 2147483648) (hi : -2147483648 ≤ i ∧ i < 2147483648) : AgR (fn_SA_prominence (zI p) (zI i)) [(0, 1), (3, 2)] (fn_Mo_prominence (zI p) (zI i)) := by
  refine Q_peak (f := fn_SA_prominence) (g := fn_Mo_prominence) hp hi (fun M => rfl) (fun M N A H c c2 c3 => ?_) (fun M q e => ?_)
  · have h := H p c.1 c.2
    have hn := h.n
    unfold fn_SA_prominence fn_SA_seriesWithPeak
    simp (disch := omega) only [zlit, zI_add, zI_sub, zI_mul, zI_neg, zI_lt, zI_le, zI_eq, zI_cl, zI_max, zI_min, zI_abs, bnd_ok, bnd_ex, lm_eq, li_eq, grd_inb, grd_ser, grd_z, grd_lt, if_true, if_false, if_pos, if_neg, SA_with c h, h.peak, b01_t c3, h.height]
  · unfold fn_SA_prominence
    rw [e]
    rfl
theorem Q_prominenceByLevels {p i : Int} (hp : -2147483648 ≤ p ∧ p < 2147483648) (hi : -2147483648 ≤ i ∧ i < 2147483648) : AgR (fn_SA_prominenceByLevels (zI p) (zI i)) [(0, 1), (3, 2)] (fn_Mo_prominenceByLevels (zI p) (zI i)) := by
  refine Q_peak (f := fn_SA_prominenceByLevels) (g := fn_Mo_prominenceByLevels) hp hi (fun M => rfl) (fun M N A H c c2 c3 => ?_) (fun M q e => ?_)
  · have h := H p c.1 c.2
    have hn := h.n
    unfold fn_SA_prominenceByLevels fn_SA_seriesWithPeak
    simp (disch := omega) only [zlit, zI_add, zI_sub, zI_mul, zI_neg, zI_lt, zI_le, zI_eq, zI_cl, zI_max, zI_min, zI_abs, bnd_ok, bnd_ex, lm_eq, li_eq, grd_inb, grd_ser, grd_z, grd_lt, if_true, if_false, if_pos, if_neg, SA_with c h, h.peak, b01_t c3, h.levels]
  · unfold fn_SA_prominenceByLevels
    rw [e]
    rfl
/-! the peak of a rank -/
def prB (a : Int → Int) (n x y : Int) : Bool := pkB a n y && decide (hgtF a n x < hgtF a n y ∨ (hgtF a n y = hgtF a n x ∧ y < x))
theorem prB_f {a : Int → Int} {n x y : Int} (h : ¬ pkB a n y = true) : ¬ prB a n x y = true := by
  unfold prB
  rw [Bool.eq_false_iff.mpr h]
  exact fun e => Bool.noConfusion e
theorem prB_i {a : Int → Int} {n x y : Int} (h : pkB a n y = true) : prB a n x y = true ↔ (hgtF a n x < hgtF a n y ∨ (hgtF a n y = hgtF a n x ∧ y < x)) := by
  unfold prB
  rw [h, Bool.true_and, decide_eq_true_eq]
def prkF (a : Int → Int) (n x : Int) : Int := cntF (prB a n x) 0 n 0
theorem prkF_b {a : Int → Int} {n x : Int} (hn : 0 ≤ n) : 0 ≤ prkF a n x ∧ prkF a n x ≤ n := by
  have := cntF_b (p := prB a n x) (i := 0) (j := n) (s := 0) hn
  unfold prkF
  omega
theorem c_prank_11 {M : Mm} {v : Nat} {n : Int} {a : Int → Int} (h : Ser M v n a) {x : Int} (hx : 0 ≤ x ∧ x < n) : ∀ (k : Nat) (s i : Int), 0 ≤ i → i ≤ n → n - i < k → fn_Pe_rankOf_11 v (zI x) (zI (hgtF a n x)) k (zI s) (zI i) M = some (.inl (zI (cntF (prB a n x) i n s)), M) := by
  have hv := h.v
  have hn := h.n
  have b1 := hgtF_b (n := n) (x := x) h.b
  intro k
  induction k with
  | zero => intros; omega
  | succ k ih =>
    intro s i h0 h1 h2
    have b2 := hgtF_b (n := n) (x := i) h.b
    rw [fn_Pe_rankOf_11]
    by_cases c : n ≤ i
    · simp (disch := omega) only [zlit, zI_add, zI_sub, zI_mul, zI_neg, zI_lt, zI_le, zI_eq, zI_cl, zI_max, zI_min, zI_abs, bnd_ok, bnd_ex, lm_eq, li_eq, grd_inb, grd_ser, grd_z, grd_lt, if_true, if_false, if_pos, if_neg, h.size, cd_stop]
    · by_cases c2 : pkB a n i = true
      · by_cases c3 : hgtF a n x < hgtF a n i
        · simp (disch := omega) only [zlit, zI_add, zI_sub, zI_mul, zI_neg, zI_lt, zI_le, zI_eq, zI_cl, zI_max, zI_min, zI_abs, bnd_ok, bnd_ex, lm_eq, li_eq, grd_inb, grd_ser, grd_z, grd_lt, if_true, if_false, if_pos, if_neg, h.size, h.peak, b01_t c2, h.height, fn_Pe_rankOf_56, fn_Pe_rankOf_60, fn_Pe_rankOf_61, fn_Pe_rankOf_63]
          rw [ih (s + 1) (i + 1) (by omega) (by omega) (by omega), cb_y (i := i) (by omega) ((prB_i c2).mpr (by omega))]
        · by_cases c4 : hgtF a n i = hgtF a n x
          · by_cases c5 : i < x
            · simp (disch := omega) only [zlit, zI_add, zI_sub, zI_mul, zI_neg, zI_lt, zI_le, zI_eq, zI_cl, zI_max, zI_min, zI_abs, bnd_ok, bnd_ex, lm_eq, li_eq, grd_inb, grd_ser, grd_z, grd_lt, if_true, if_false, if_pos, if_neg, h.size, h.peak, b01_t c2, h.height, fn_Pe_rankOf_56, fn_Pe_rankOf_60, fn_Pe_rankOf_61, fn_Pe_rankOf_63]
              rw [ih (s + 1) (i + 1) (by omega) (by omega) (by omega), cb_y (i := i) (by omega) ((prB_i c2).mpr (by omega))]
            · simp (disch := omega) only [zlit, zI_add, zI_sub, zI_mul, zI_neg, zI_lt, zI_le, zI_eq, zI_cl, zI_max, zI_min, zI_abs, bnd_ok, bnd_ex, lm_eq, li_eq, grd_inb, grd_ser, grd_z, grd_lt, if_true, if_false, if_pos, if_neg, h.size, h.peak, b01_t c2, h.height, fn_Pe_rankOf_56, fn_Pe_rankOf_60, fn_Pe_rankOf_61, fn_Pe_rankOf_63]
              rw [ih (s + 0) (i + 1) (by omega) (by omega) (by omega), cb_n (i := i) (by omega) (fun z => absurd ((prB_i c2).mp z) (by omega))]
          · simp (disch := omega) only [zlit, zI_add, zI_sub, zI_mul, zI_neg, zI_lt, zI_le, zI_eq, zI_cl, zI_max, zI_min, zI_abs, bnd_ok, bnd_ex, lm_eq, li_eq, grd_inb, grd_ser, grd_z, grd_lt, if_true, if_false, if_pos, if_neg, h.size, h.peak, b01_t c2, h.height, fn_Pe_rankOf_56, fn_Pe_rankOf_60, fn_Pe_rankOf_61, fn_Pe_rankOf_63]
            rw [ih (s + 0) (i + 1) (by omega) (by omega) (by omega), cb_n (i := i) (by omega) (fun z => absurd ((prB_i c2).mp z) (by omega))]
      · simp (disch := omega) only [zlit, zI_add, zI_sub, zI_mul, zI_neg, zI_lt, zI_le, zI_eq, zI_cl, zI_max, zI_min, zI_abs, bnd_ok, bnd_ex, lm_eq, li_eq, grd_inb, grd_ser, grd_z, grd_lt, if_true, if_false, if_pos, if_neg, h.size, h.peak, b01_f c2, fn_Pe_rankOf_63]
        rw [ih s (i + 1) (by omega) (by omega) (by omega), cb_n (i := i) (by omega) (prB_f c2), Int.add_zero]
theorem Ser.prank {M : Mm} {v : Nat} {n : Int} {a : Int → Int} (h : Ser M v n a) {x : Int} (hx : 0 ≤ x ∧ x < n) : fn_Pe_rankOf v (zI x) M = some (.inl (zI (prkF a n x)), M) := by
  have hv := h.v
  have hn := h.n
  unfold fn_Pe_rankOf fuel0 prkF
  simp (disch := omega) only [zlit, zI_add, zI_sub, zI_mul, zI_neg, zI_lt, zI_le, zI_eq, zI_cl, zI_max, zI_min, zI_abs, bnd_ok, bnd_ex, lm_eq, li_eq, grd_inb, grd_ser, grd_z, grd_lt, if_true, if_false, if_pos, if_neg, h.height, c_prank_11 h hx]
theorem pq_hit {p : Int → Bool} {q : Int → Prop} {d : ∀ x, Decidable (q x)} {i j : Int} (h : i < j) (hp : p i = true) (hq : q i) : fs (fun x => p x && @decide (q x) (d x)) i j = i := fs_hit h (by show (p i && @decide (q i) (d i)) = true; rw [hp, decide_eq_true hq]; rfl)
theorem pq_miss1 {p : Int → Bool} {q : Int → Prop} {d : ∀ x, Decidable (q x)} {i j : Int} (h : i < j) (hp : ¬ p i = true) : fs (fun x => p x && @decide (q x) (d x)) i j = fs (fun x => p x && @decide (q x) (d x)) (i + 1) j := fs_miss h (by show ¬ (p i && @decide (q i) (d i)) = true; rw [Bool.eq_false_iff.mpr hp]; exact fun e => Bool.noConfusion e)
theorem pq_miss2 {p : Int → Bool} {q : Int → Prop} {d : ∀ x, Decidable (q x)} {i j : Int} (h : i < j) (hp : p i = true) (hq : ¬ q i) : fs (fun x => p x && @decide (q x) (d x)) i j = fs (fun x => p x && @decide (q x) (d x)) (i + 1) j := fs_miss h (by show ¬ (p i && @decide (q i) (d i)) = true; rw [hp, decide_eq_false hq]; exact fun e => Bool.noConfusion e)
theorem c_ofRank_2 {M : Mm} {v : Nat} {n : Int} {a : Int → Int} (h : Ser M v n a) {r : Int} (hr : -2147483648 ≤ r ∧ r < 2147483648) : ∀ (k : Nat) (i : Int), 0 ≤ i → i ≤ n → n - i < k → fn_Pe_ofRank_2 v (zI r) k (zI i) M = some (.inl (zI (fs (fun x => pkB a n x && decide (prkF a n x = r)) i n)), M) := by
  have hv := h.v
  have hn := h.n
  intro k
  induction k with
  | zero => intros; omega
  | succ k ih =>
    intro i h0 h1 h2
    have b2 := prkF_b (a := a) (n := n) (x := i) hn.1
    rw [fn_Pe_ofRank_2]
    by_cases c : n ≤ i
    · simp (disch := omega) only [zlit, zI_add, zI_sub, zI_mul, zI_neg, zI_lt, zI_le, zI_eq, zI_cl, zI_max, zI_min, zI_abs, bnd_ok, bnd_ex, lm_eq, li_eq, grd_inb, grd_ser, grd_z, grd_lt, if_true, if_false, if_pos, if_neg, h.size, fs_stop]
    · by_cases c2 : pkB a n i = true
      · by_cases c3 : prkF a n i = r
        · simp (disch := omega) only [zlit, zI_add, zI_sub, zI_mul, zI_neg, zI_lt, zI_le, zI_eq, zI_cl, zI_max, zI_min, zI_abs, bnd_ok, bnd_ex, lm_eq, li_eq, grd_inb, grd_ser, grd_z, grd_lt, if_true, if_false, if_pos, if_neg, h.size, h.peak, b01_t c2, h.prank]
          rw [pq_hit (i := i) (by omega) c2 c3]
        · simp (disch := omega) only [zlit, zI_add, zI_sub, zI_mul, zI_neg, zI_lt, zI_le, zI_eq, zI_cl, zI_max, zI_min, zI_abs, bnd_ok, bnd_ex, lm_eq, li_eq, grd_inb, grd_ser, grd_z, grd_lt, if_true, if_false, if_pos, if_neg, h.size, h.peak, b01_t c2, h.prank, fn_Pe_ofRank_29]
          rw [ih (i + 1) (by omega) (by omega) (by omega), pq_miss2 (i := i) (by omega) c2 c3]
      · simp (disch := omega) only [zlit, zI_add, zI_sub, zI_mul, zI_neg, zI_lt, zI_le, zI_eq, zI_cl, zI_max, zI_min, zI_abs, bnd_ok, bnd_ex, lm_eq, li_eq, grd_inb, grd_ser, grd_z, grd_lt, if_true, if_false, if_pos, if_neg, h.size, h.peak, b01_f c2, fn_Pe_ofRank_29]
        rw [ih (i + 1) (by omega) (by omega) (by omega), pq_miss1 (i := i) (by omega) c2]
theorem m_prank_42 {M : Mm} {v n : Int} {a : Int → Int} (h : Mse M v n a) {x r : Int} (hx : 0 ≤ x ∧ x < n) (hp : pkB a n x = true) (k15 : Int32 → Mm → Rs Int32) : ∀ (k : Nat) (s i : Int), 0 ≤ i → i ≤ n → n - i < k → fn_Mo_peakByProminence_42 k15 (zI v) (zI r) (zI x) k (zI s) (zI i) M = fn_Mo_peakByProminence_116 k15 (zI v) (zI r) (zI x) (zI (cntF (prB a n x) i n s)) M := by
  have hv := h.s
  have hn := h.n
  have b1 := hgtF_b (n := n) (x := x) h.b
  intro k
  induction k with
  | zero => intros; omega
  | succ k ih =>
    intro s i h0 h1 h2
    have b2 := hgtF_b (n := n) (x := i) h.b
    rw [fn_Mo_peakByProminence_42]
    by_cases c : n ≤ i
    · simp (disch := omega) only [zlit, zI_add, zI_sub, zI_mul, zI_neg, zI_lt, zI_le, zI_eq, zI_cl, zI_max, zI_min, zI_abs, bnd_ok, bnd_ex, lm_eq, li_eq, grd_inb, grd_ser, grd_z, grd_lt, if_true, if_false, if_pos, if_neg, h.many, cd_stop]
    · by_cases c2 : pkB a n i = true
      · by_cases c3 : hgtF a n x < hgtF a n i
        · simp (disch := omega) only [zlit, zI_add, zI_sub, zI_mul, zI_neg, zI_lt, zI_le, zI_eq, zI_cl, zI_max, zI_min, zI_abs, bnd_ok, bnd_ex, lm_eq, li_eq, grd_inb, grd_ser, grd_z, grd_lt, if_true, if_false, if_pos, if_neg, h.many, h.peak, b01_t c2, h.rise (x := i) ⟨h0, by omega⟩ c2, h.rise hx hp, fn_Mo_peakByProminence_102, fn_Mo_peakByProminence_106, fn_Mo_peakByProminence_107]
          rw [ih (s + 1) (i + 1) (by omega) (by omega) (by omega), cb_y (i := i) (by omega) ((prB_i c2).mpr (by omega))]
        · by_cases c4 : hgtF a n i = hgtF a n x
          · by_cases c5 : i < x
            · simp (disch := omega) only [zlit, zI_add, zI_sub, zI_mul, zI_neg, zI_lt, zI_le, zI_eq, zI_cl, zI_max, zI_min, zI_abs, bnd_ok, bnd_ex, lm_eq, li_eq, grd_inb, grd_ser, grd_z, grd_lt, if_true, if_false, if_pos, if_neg, h.many, h.peak, b01_t c2, h.rise (x := i) ⟨h0, by omega⟩ c2, h.rise hx hp, fn_Mo_peakByProminence_102, fn_Mo_peakByProminence_106, fn_Mo_peakByProminence_107]
              rw [ih (s + 1) (i + 1) (by omega) (by omega) (by omega), cb_y (i := i) (by omega) ((prB_i c2).mpr (by omega))]
            · simp (disch := omega) only [zlit, zI_add, zI_sub, zI_mul, zI_neg, zI_lt, zI_le, zI_eq, zI_cl, zI_max, zI_min, zI_abs, bnd_ok, bnd_ex, lm_eq, li_eq, grd_inb, grd_ser, grd_z, grd_lt, if_true, if_false, if_pos, if_neg, h.many, h.peak, b01_t c2, h.rise (x := i) ⟨h0, by omega⟩ c2, h.rise hx hp, fn_Mo_peakByProminence_102, fn_Mo_peakByProminence_106, fn_Mo_peakByProminence_107]
              rw [ih (s + 0) (i + 1) (by omega) (by omega) (by omega), cb_n (i := i) (by omega) (fun z => absurd ((prB_i c2).mp z) (by omega))]
          · simp (disch := omega) only [zlit, zI_add, zI_sub, zI_mul, zI_neg, zI_lt, zI_le, zI_eq, zI_cl, zI_max, zI_min, zI_abs, bnd_ok, bnd_ex, lm_eq, li_eq, grd_inb, grd_ser, grd_z, grd_lt, if_true, if_false, if_pos, if_neg, h.many, h.peak, b01_t c2, h.rise (x := i) ⟨h0, by omega⟩ c2, h.rise hx hp, fn_Mo_peakByProminence_102, fn_Mo_peakByProminence_106, fn_Mo_peakByProminence_107]
            rw [ih (s + 0) (i + 1) (by omega) (by omega) (by omega), cb_n (i := i) (by omega) (fun z => absurd ((prB_i c2).mp z) (by omega))]
      · simp (disch := omega) only [zlit, zI_add, zI_sub, zI_mul, zI_neg, zI_lt, zI_le, zI_eq, zI_cl, zI_max, zI_min, zI_abs, bnd_ok, bnd_ex, lm_eq, li_eq, grd_inb, grd_ser, grd_z, grd_lt, if_true, if_false, if_pos, if_neg, h.many, h.peak, b01_f c2, fn_Mo_peakByProminence_106, fn_Mo_peakByProminence_107]
        rw [ih (s + 0) (i + 1) (by omega) (by omega) (by omega), cb_n (i := i) (by omega) (prB_f c2)]
theorem m_pbp_15 {M : Mm} {v n : Int} {a : Int → Int} (h : Mse M v n a) {r : Int} (hr : -2147483648 ≤ r ∧ r < 2147483648) : ∀ (k : Nat) (i : Int), 0 ≤ i → i ≤ n → n - i < k → fn_Mo_peakByProminence_15 (zI v) (zI r) k (zI i) M = if fs (fun x => pkB a n x && decide (prkF a n x = r)) i n = -1 then some (.inl 0, mset M 32 6 2) else some (.inl (zI (fs (fun x => pkB a n x && decide (prkF a n x = r)) i n)), M) := by
  have hv := h.s
  have hn := h.n
  intro k
  induction k with
  | zero => intros; omega
  | succ k ih =>
    intro i h0 h1 h2
    have b2 := prkF_b (a := a) (n := n) (x := i) hn.1
    rw [fn_Mo_peakByProminence_15]
    unfold fuel0
    by_cases c : n ≤ i
    · simp (disch := omega) only [zlit, zI_add, zI_sub, zI_mul, zI_neg, zI_lt, zI_le, zI_eq, zI_cl, zI_max, zI_min, zI_abs, bnd_ok, bnd_ex, lm_eq, li_eq, grd_inb, grd_ser, grd_z, grd_lt, if_true, if_false, if_pos, if_neg, h.many, fn_Mo_peakByProminence_130, mo_fail, fs_stop]
    · by_cases c2 : pkB a n i = true
      · have e := m_prank_42 h (x := i) (r := r) ⟨h0, by omega⟩ c2 (fn_Mo_peakByProminence_15 (zI v) (zI r) k) 2000 0 0 (by omega) (by omega) (by omega)
        by_cases c3 : prkF a n i = r
        · rw [pq_hit (i := i) (by omega) c2 c3]
          have c4 := c3
          unfold prkF at c4
          simp (disch := omega) only [zlit, zI_add, zI_sub, zI_mul, zI_neg, zI_lt, zI_le, zI_eq, zI_cl, zI_max, zI_min, zI_abs, bnd_ok, bnd_ex, lm_eq, li_eq, grd_inb, grd_ser, grd_z, grd_lt, if_true, if_false, if_pos, if_neg, h.many, h.peak, b01_t c2, e, fn_Mo_peakByProminence_116, c4]
        · have c4 := c3
          unfold prkF at c4 b2
          rw [pq_miss2 (i := i) (by omega) c2 c3]
          simp (disch := omega) only [zlit, zI_add, zI_sub, zI_mul, zI_neg, zI_lt, zI_le, zI_eq, zI_cl, zI_max, zI_min, zI_abs, bnd_ok, bnd_ex, lm_eq, li_eq, grd_inb, grd_ser, grd_z, grd_lt, if_true, if_false, if_pos, if_neg, h.many, h.peak, b01_t c2, e, fn_Mo_peakByProminence_116, fn_Mo_peakByProminence_124]
          rw [ih (i + 1) (by omega) (by omega) (by omega)]
          rfl
      · rw [pq_miss1 (i := i) (by omega) c2]
        simp (disch := omega) only [zlit, zI_add, zI_sub, zI_mul, zI_neg, zI_lt, zI_le, zI_eq, zI_cl, zI_max, zI_min, zI_abs, bnd_ok, bnd_ex, lm_eq, li_eq, grd_inb, grd_ser, grd_z, grd_lt, if_true, if_false, if_pos, if_neg, h.many, h.peak, b01_f c2, fn_Mo_peakByProminence_124]
        rw [ih (i + 1) (by omega) (by omega) (by omega)]
        rfl
theorem Q_peakByProminence {p r : Int} (hp : -2147483648 ≤ p ∧ p < 2147483648) (hr : -2147483648 ≤ r ∧ r < 2147483648) : AgR (fn_SA_peakByProminence (zI p) (zI r)) [(0, 1), (3, 2)] (fn_Mo_peakByProminence (zI p) (zI r)) := by
  intro M N A H K
  by_cases c : 0 ≤ p ∧ p < 4
  · have h := H p c.1 c.2
    have hn := h.n
    have e9 := fs_is (p := fun x => pkB (A p) (N p) x && decide (prkF (A p) (N p) x = r)) 0 (N p)
    by_cases c3 : fs (fun x => pkB (A p) (N p) x && decide (prkF (A p) (N p) x = r)) 0 (N p) = -1
    · refine .inr ⟨3, 0, 2, CR.of ?_, rfl, by decide, MR.of (fun M' K' => ?_)⟩
      · unfold fn_SA_peakByProminence fn_Pe_ofRank fn_SA_found fuel0
        simp (disch := omega) only [zlit, zI_add, zI_sub, zI_mul, zI_neg, zI_lt, zI_le, zI_eq, zI_cl, zI_max, zI_min, zI_abs, bnd_ok, bnd_ex, lm_eq, li_eq, grd_inb, grd_ser, grd_z, grd_lt, if_true, if_false, if_pos, if_neg, SA_in, c_ofRank_2 h hr, c3]
      · have k := (K' p c.1 c.2).set (k := 32) (by decide) 6 (zI 0)
        unfold fn_Mo_peakByProminence fuel0
        simp (disch := omega) only [zlit, zI_add, zI_sub, zI_mul, zI_neg, zI_lt, zI_le, zI_eq, zI_cl, zI_max, zI_min, zI_abs, bnd_ok, bnd_ex, lm_eq, li_eq, grd_inb, grd_ser, grd_z, grd_lt, if_true, if_false, if_pos, if_neg, mo_slot, mo_checked, Int.sub_self]
        rw [m_pbp_15 k hr 2000 0 (by omega) (by omega) (by omega), if_pos c3, mset_mset]
        rfl
    · have e91 : 0 ≤ fs (fun x => pkB (A p) (N p) x && decide (prkF (A p) (N p) x = r)) 0 (N p) ∧ fs (fun x => pkB (A p) (N p) x && decide (prkF (A p) (N p) x = r)) 0 (N p) < N p := by
        rcases e9 with e9 | e9
        · exact absurd e9.1 c3
        · exact ⟨e9.1, e9.2.1⟩
      refine .inl ⟨zI (fs (fun x => pkB (A p) (N p) x && decide (prkF (A p) (N p) x = r)) 0 (N p)), CR.of ?_, MR.of (fun M' K' => ?_)⟩
      · unfold fn_SA_peakByProminence fn_Pe_ofRank fn_SA_found fuel0
        simp (disch := omega) only [zlit, zI_add, zI_sub, zI_mul, zI_neg, zI_lt, zI_le, zI_eq, zI_cl, zI_max, zI_min, zI_abs, bnd_ok, bnd_ex, lm_eq, li_eq, grd_inb, grd_ser, grd_z, grd_lt, if_true, if_false, if_pos, if_neg, SA_in, c_ofRank_2 h hr]
      · have k := (K' p c.1 c.2).set (k := 32) (by decide) 6 (zI 0)
        unfold fn_Mo_peakByProminence fuel0
        simp (disch := omega) only [zlit, zI_add, zI_sub, zI_mul, zI_neg, zI_lt, zI_le, zI_eq, zI_cl, zI_max, zI_min, zI_abs, bnd_ok, bnd_ex, lm_eq, li_eq, grd_inb, grd_ser, grd_z, grd_lt, if_true, if_false, if_pos, if_neg, mo_slot, mo_checked, Int.sub_self]
        rw [m_pbp_15 k hr 2000 0 (by omega) (by omega) (by omega), if_neg c3]
  · refine .inr ⟨0, 0, 1, CR.of ?_, rfl, by decide, MR.of (fun M' K' => ?_)⟩
    · unfold fn_SA_peakByProminence
      simp (disch := omega) only [zlit, zI_add, zI_sub, zI_mul, zI_neg, zI_lt, zI_le, zI_eq, zI_cl, zI_max, zI_min, zI_abs, bnd_ok, bnd_ex, lm_eq, li_eq, grd_inb, grd_ser, grd_z, grd_lt, if_true, if_false, if_pos, if_neg, SA_in_no]
    · unfold fn_Mo_peakByProminence
      simp (disch := omega) only [zlit, zI_add, zI_sub, zI_mul, zI_neg, zI_lt, zI_le, zI_eq, zI_cl, zI_max, zI_min, zI_abs, bnd_ok, bnd_ex, lm_eq, li_eq, grd_inb, grd_ser, grd_z, grd_lt, if_true, if_false, if_pos, if_neg, mo_slot, mo_checked, Int.sub_zero]
