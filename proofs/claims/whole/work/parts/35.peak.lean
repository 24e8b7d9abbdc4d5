/-! PEAKS -/
theorem cb_y {p : Int → Bool} {i j s : Int} (h : i < j) (hp : p i = true) : cntF p i j s = cntF p (i + 1) j (s + 1) := by
  unfold cntF
  rw [lp_step h, b01_t hp]
theorem cb_n {p : Int → Bool} {i j s : Int} (h : i < j) (hp : ¬ p i = true) : cntF p i j s = cntF p (i + 1) j (s + 0) := by
  unfold cntF
  rw [lp_step h, b01_f hp]
def pkB (a : Int → Int) (n i : Int) : Bool := decide ((i = 0 ∨ a (i - 1) < a i) ∧ (i = n - 1 ∨ a (i + 1) < a i))
theorem pkB_iff {a : Int → Int} {n i : Int} : pkB a n i = true ↔ (i = 0 ∨ a (i - 1) < a i) ∧ (i = n - 1 ∨ a (i + 1) < a i) := by
  unfold pkB
  rw [decide_eq_true_eq]
theorem pk1 {a : Int → Int} {n i : Int} (h : (i = 0 ∨ a (i - 1) < a i) ∧ (i = n - 1 ∨ a (i + 1) < a i)) : b01 (pkB a n i) = 1 := b01_t (pkB_iff.mpr h)
theorem pk0 {a : Int → Int} {n i : Int} (h : ¬ ((i = 0 ∨ a (i - 1) < a i) ∧ (i = n - 1 ∨ a (i + 1) < a i))) : b01 (pkB a n i) = 0 := b01_f (fun e => h (pkB_iff.mp e))
theorem Ser.peak {M : Mm} {v : Nat} {n : Int} {a : Int → Int} (h : Ser M v n a) {i : Int} (hi : 0 ≤ i ∧ i < n) : fn_Pe_standsOut v (zI i) M = some (.inl (zI (b01 (pkB a n i))), M) := by
  have hv := h.v
  have hn := h.n
  have b0 := h.b i
  have b1 := h.b (i - 1)
  have b2 := h.b (i + 1)
  have e2 : fn_Pe_standsOut_25 v (zI i) M = some (.inl (zI (if i = n - 1 ∨ a (i + 1) < a i then 1 else 0)), M) := by
    unfold fn_Pe_standsOut_25
    by_cases c : i = n - 1
    · simp (disch := omega) only [zlit, zI_add, zI_sub, zI_mul, zI_neg, zI_lt, zI_le, zI_eq, zI_cl, zI_max, zI_min, zI_abs, bnd_ok, bnd_ex, lm_eq, li_eq, grd_inb, grd_ser, grd_z, grd_lt, if_true, if_false, if_pos, if_neg, h.hasn, fn_Pe_standsOut_50]
    · by_cases c2 : a (i + 1) < a i
      · simp (disch := omega) only [zlit, zI_add, zI_sub, zI_mul, zI_neg, zI_lt, zI_le, zI_eq, zI_cl, zI_max, zI_min, zI_abs, bnd_ok, bnd_ex, lm_eq, li_eq, grd_inb, grd_ser, grd_z, grd_lt, if_true, if_false, if_pos, if_neg, h.has, h.at, fn_Pe_standsOut_50]
      · simp (disch := omega) only [zlit, zI_add, zI_sub, zI_mul, zI_neg, zI_lt, zI_le, zI_eq, zI_cl, zI_max, zI_min, zI_abs, bnd_ok, bnd_ex, lm_eq, li_eq, grd_inb, grd_ser, grd_z, grd_lt, if_true, if_false, if_pos, if_neg, h.has, h.at, fn_Pe_standsOut_50]
  unfold fn_Pe_standsOut
  by_cases c : i = 0
  · by_cases c2 : i = n - 1 ∨ a (i + 1) < a i
    · simp (disch := omega) only [zlit, zI_add, zI_sub, zI_mul, zI_neg, zI_lt, zI_le, zI_eq, zI_cl, zI_max, zI_min, zI_abs, bnd_ok, bnd_ex, lm_eq, li_eq, grd_inb, grd_ser, grd_z, grd_lt, if_true, if_false, if_pos, if_neg, h.hasn, e2, pk1]
    · simp (disch := omega) only [zlit, zI_add, zI_sub, zI_mul, zI_neg, zI_lt, zI_le, zI_eq, zI_cl, zI_max, zI_min, zI_abs, bnd_ok, bnd_ex, lm_eq, li_eq, grd_inb, grd_ser, grd_z, grd_lt, if_true, if_false, if_pos, if_neg, h.hasn, e2, pk0]
  · by_cases c3 : a (i - 1) < a i
    · by_cases c2 : i = n - 1 ∨ a (i + 1) < a i
      · simp (disch := omega) only [zlit, zI_add, zI_sub, zI_mul, zI_neg, zI_lt, zI_le, zI_eq, zI_cl, zI_max, zI_min, zI_abs, bnd_ok, bnd_ex, lm_eq, li_eq, grd_inb, grd_ser, grd_z, grd_lt, if_true, if_false, if_pos, if_neg, h.has, h.at, e2, pk1]
      · simp (disch := omega) only [zlit, zI_add, zI_sub, zI_mul, zI_neg, zI_lt, zI_le, zI_eq, zI_cl, zI_max, zI_min, zI_abs, bnd_ok, bnd_ex, lm_eq, li_eq, grd_inb, grd_ser, grd_z, grd_lt, if_true, if_false, if_pos, if_neg, h.has, h.at, e2, pk0]
    · simp (disch := omega) only [zlit, zI_add, zI_sub, zI_mul, zI_neg, zI_lt, zI_le, zI_eq, zI_cl, zI_max, zI_min, zI_abs, bnd_ok, bnd_ex, lm_eq, li_eq, grd_inb, grd_ser, grd_z, grd_lt, if_true, if_false, if_pos, if_neg, h.has, h.at, pk0]
theorem Mse.peak {M : Mm} {v n : Int} {a : Int → Int} (h : Mse M v n a) {i : Int} (hi : 0 ≤ i ∧ i < n) : fn_Mo_peaks (zI v) (zI i) M = some (.inl (zI (b01 (pkB a n i))), M) := by
  have hv := h.s
  have hn := h.n
  have b0 := h.b i
  have b1 := h.b (i - 1)
  have b2 := h.b (i + 1)
  have e2 : fn_Mo_peaks_26 (zI v) (zI i) (zI 1) M = some (.inl (zI (if i = n - 1 ∨ a (i + 1) < a i then 1 else 0)), M) := by
    unfold fn_Mo_peaks_26
    by_cases c : i = n - 1
    · simp (disch := omega) only [zlit, zI_add, zI_sub, zI_mul, zI_neg, zI_lt, zI_le, zI_eq, zI_cl, zI_max, zI_min, zI_abs, bnd_ok, bnd_ex, lm_eq, li_eq, grd_inb, grd_ser, grd_z, grd_lt, if_true, if_false, if_pos, if_neg, h.many, fn_Mo_peaks_59]
    · by_cases c2 : a (i + 1) < a i
      · simp (disch := omega) only [zlit, zI_add, zI_sub, zI_mul, zI_neg, zI_lt, zI_le, zI_eq, zI_cl, zI_max, zI_min, zI_abs, bnd_ok, bnd_ex, lm_eq, li_eq, grd_inb, grd_ser, grd_z, grd_lt, if_true, if_false, if_pos, if_neg, h.many, h.at, fn_Mo_peaks_59]
      · simp (disch := omega) only [zlit, zI_add, zI_sub, zI_mul, zI_neg, zI_lt, zI_le, zI_eq, zI_cl, zI_max, zI_min, zI_abs, bnd_ok, bnd_ex, lm_eq, li_eq, grd_inb, grd_ser, grd_z, grd_lt, if_true, if_false, if_pos, if_neg, h.many, h.at, fn_Mo_peaks_59]
  unfold fn_Mo_peaks
  by_cases c : i = 0
  · by_cases c2 : i = n - 1 ∨ a (i + 1) < a i
    · simp (disch := omega) only [zlit, zI_add, zI_sub, zI_mul, zI_neg, zI_lt, zI_le, zI_eq, zI_cl, zI_max, zI_min, zI_abs, bnd_ok, bnd_ex, lm_eq, li_eq, grd_inb, grd_ser, grd_z, grd_lt, if_true, if_false, if_pos, if_neg, fn_Mo_peaks_21, e2, pk1]
    · simp (disch := omega) only [zlit, zI_add, zI_sub, zI_mul, zI_neg, zI_lt, zI_le, zI_eq, zI_cl, zI_max, zI_min, zI_abs, bnd_ok, bnd_ex, lm_eq, li_eq, grd_inb, grd_ser, grd_z, grd_lt, if_true, if_false, if_pos, if_neg, fn_Mo_peaks_21, e2, pk0]
  · by_cases c3 : a (i - 1) < a i
    · by_cases c2 : i = n - 1 ∨ a (i + 1) < a i
      · simp (disch := omega) only [zlit, zI_add, zI_sub, zI_mul, zI_neg, zI_lt, zI_le, zI_eq, zI_cl, zI_max, zI_min, zI_abs, bnd_ok, bnd_ex, lm_eq, li_eq, grd_inb, grd_ser, grd_z, grd_lt, if_true, if_false, if_pos, if_neg, fn_Mo_peaks_21, h.at, e2, pk1]
      · simp (disch := omega) only [zlit, zI_add, zI_sub, zI_mul, zI_neg, zI_lt, zI_le, zI_eq, zI_cl, zI_max, zI_min, zI_abs, bnd_ok, bnd_ex, lm_eq, li_eq, grd_inb, grd_ser, grd_z, grd_lt, if_true, if_false, if_pos, if_neg, fn_Mo_peaks_21, h.at, e2, pk0]
    · simp (disch := omega) only [zlit, zI_add, zI_sub, zI_mul, zI_neg, zI_lt, zI_le, zI_eq, zI_cl, zI_max, zI_min, zI_abs, bnd_ok, bnd_ex, lm_eq, li_eq, grd_inb, grd_ser, grd_z, grd_lt, if_true, if_false, if_pos, if_neg, h.at, fn_Mo_peaks_26, pk0]
theorem c_number_4 {M : Mm} {v : Nat} {n : Int} {a : Int → Int} (h : Ser M v n a) : ∀ (k : Nat) (s i : Int), 0 ≤ i → i ≤ n → n - i < k → fn_Pe_number_4 v k (zI s) (zI i) M = some (.inl (zI (cntF (pkB a n) i n s)), M) := by
  have hv := h.v
  have hn := h.n
  intro k
  induction k with
  | zero => intros; omega
  | succ k ih =>
    intro s i h0 h1 h2
    rw [fn_Pe_number_4]
    by_cases c : n ≤ i
    · simp (disch := omega) only [zlit, zI_add, zI_sub, zI_mul, zI_neg, zI_lt, zI_le, zI_eq, zI_cl, zI_max, zI_min, zI_abs, bnd_ok, bnd_ex, lm_eq, li_eq, grd_inb, grd_ser, grd_z, grd_lt, if_true, if_false, if_pos, if_neg, h.size, cd_stop]
    · by_cases c2 : pkB a n i = true
      · simp (disch := omega) only [zlit, zI_add, zI_sub, zI_mul, zI_neg, zI_lt, zI_le, zI_eq, zI_cl, zI_max, zI_min, zI_abs, bnd_ok, bnd_ex, lm_eq, li_eq, grd_inb, grd_ser, grd_z, grd_lt, if_true, if_false, if_pos, if_neg, h.size, h.peak, b01_t c2, fn_Pe_number_26]
        rw [ih (s + 1) (i + 1) (by omega) (by omega) (by omega), cb_y (by omega) c2]
      · simp (disch := omega) only [zlit, zI_add, zI_sub, zI_mul, zI_neg, zI_lt, zI_le, zI_eq, zI_cl, zI_max, zI_min, zI_abs, bnd_ok, bnd_ex, lm_eq, li_eq, grd_inb, grd_ser, grd_z, grd_lt, if_true, if_false, if_pos, if_neg, h.size, h.peak, b01_f c2, fn_Pe_number_26]
        rw [ih (s + 0) (i + 1) (by omega) (by omega) (by omega), cb_n (by omega) c2]
theorem m_peakCount_17 {M : Mm} {v n : Int} {a : Int → Int} (h : Mse M v n a) : ∀ (k : Nat) (s i : Int), 0 ≤ i → i ≤ n → n - i < k → fn_Mo_peakCount_17 (zI v) k (zI s) (zI i) M = some (.inl (zI (cntF (pkB a n) i n s)), M) := by
  have hv := h.s
  have hn := h.n
  intro k
  induction k with
  | zero => intros; omega
  | succ k ih =>
    intro s i h0 h1 h2
    rw [fn_Mo_peakCount_17]
    by_cases c : n ≤ i
    · simp (disch := omega) only [zlit, zI_add, zI_sub, zI_mul, zI_neg, zI_lt, zI_le, zI_eq, zI_cl, zI_max, zI_min, zI_abs, bnd_ok, bnd_ex, lm_eq, li_eq, grd_inb, grd_ser, grd_z, grd_lt, if_true, if_false, if_pos, if_neg, h.many, cd_stop]
    · by_cases c2 : pkB a n i = true
      · simp (disch := omega) only [zlit, zI_add, zI_sub, zI_mul, zI_neg, zI_lt, zI_le, zI_eq, zI_cl, zI_max, zI_min, zI_abs, bnd_ok, bnd_ex, lm_eq, li_eq, grd_inb, grd_ser, grd_z, grd_lt, if_true, if_false, if_pos, if_neg, h.many, h.peak, b01_t c2, fn_Mo_peakCount_41]
        rw [ih (s + 1) (i + 1) (by omega) (by omega) (by omega), cb_y (by omega) c2]
      · simp (disch := omega) only [zlit, zI_add, zI_sub, zI_mul, zI_neg, zI_lt, zI_le, zI_eq, zI_cl, zI_max, zI_min, zI_abs, bnd_ok, bnd_ex, lm_eq, li_eq, grd_inb, grd_ser, grd_z, grd_lt, if_true, if_false, if_pos, if_neg, h.many, h.peak, b01_f c2, fn_Mo_peakCount_41]
        rw [ih (s + 0) (i + 1) (by omega) (by omega) (by omega), cb_n (by omega) c2]
theorem Q_peakCount {p : Int} (hp : -2147483648 ≤ p ∧ p < 2147483648) : AgR (fn_SA_peakCount (zI p)) [(0, 1)] (fn_Mo_peakCount (zI p)) := by
  intro M N A H K
  by_cases c : 0 ≤ p ∧ p < 4
  · have h := H p c.1 c.2
    have hn := h.n
    refine .inl ⟨zI (cntF (pkB (A p) (N p)) 0 (N p) 0), CR.of ?_, MR.of (fun M' K' => ?_)⟩
    · unfold fn_SA_peakCount fn_Pe_number fuel0
      simp (disch := omega) only [zlit, zI_add, zI_sub, zI_mul, zI_neg, zI_lt, zI_le, zI_eq, zI_cl, zI_max, zI_min, zI_abs, bnd_ok, bnd_ex, lm_eq, li_eq, grd_inb, grd_ser, grd_z, grd_lt, if_true, if_false, if_pos, if_neg, SA_in, c_number_4 h]
    · have k := (K' p c.1 c.2).set (k := 32) (by decide) 6 (zI 0)
      unfold fn_Mo_peakCount fuel0
      simp (disch := omega) only [zlit, zI_add, zI_sub, zI_mul, zI_neg, zI_lt, zI_le, zI_eq, zI_cl, zI_max, zI_min, zI_abs, bnd_ok, bnd_ex, lm_eq, li_eq, grd_inb, grd_ser, grd_z, grd_lt, if_true, if_false, if_pos, if_neg, mo_slot, mo_checked, Int.sub_self, m_peakCount_17 k]
  · refine .inr ⟨0, 0, 1, CR.of ?_, rfl, by decide, MR.of (fun M' K' => ?_)⟩
    · unfold fn_SA_peakCount
      simp (disch := omega) only [zlit, zI_add, zI_sub, zI_mul, zI_neg, zI_lt, zI_le, zI_eq, zI_cl, zI_max, zI_min, zI_abs, bnd_ok, bnd_ex, lm_eq, li_eq, grd_inb, grd_ser, grd_z, grd_lt, if_true, if_false, if_pos, if_neg, SA_in_no]
    · unfold fn_Mo_peakCount
      simp (disch := omega) only [zlit, zI_add, zI_sub, zI_mul, zI_neg, zI_lt, zI_le, zI_eq, zI_cl, zI_max, zI_min, zI_abs, bnd_ok, bnd_ex, lm_eq, li_eq, grd_inb, grd_ser, grd_z, grd_lt, if_true, if_false, if_pos, if_neg, mo_slot, mo_checked, Int.sub_zero]
theorem Q_isPeak {p i : Int} (hp : -2147483648 ≤ p ∧ p < 2147483648) (hi : -2147483648 ≤ i ∧ i < 2147483648) : AgR (fn_SA_isPeak (zI p) (zI i)) [(0, 1)] (fn_Mo_isPeak (zI p) (zI i)) := by
  intro M N A H K
  by_cases c : 0 ≤ p ∧ p < 4
  · have h := H p c.1 c.2
    have hn := h.n
    by_cases c2 : 0 ≤ i ∧ i < N p
    · have b := b01_b (pkB (A p) (N p) i)
      refine .inl ⟨zI (b01 (pkB (A p) (N p) i)), CR.of ?_, MR.of (fun M' K' => ?_)⟩
      · unfold fn_SA_isPeak
        simp (disch := omega) only [zlit, zI_add, zI_sub, zI_mul, zI_neg, zI_lt, zI_le, zI_eq, zI_cl, zI_max, zI_min, zI_abs, bnd_ok, bnd_ex, lm_eq, li_eq, grd_inb, grd_ser, grd_z, grd_lt, if_true, if_false, if_pos, if_neg, SA_with c h, h.peak]
      · have k := K' p c.1 c.2
        have k2 := k.set (k := 32) (by decide) 6 (zI 0)
        unfold fn_Mo_isPeak
        rcases b with b | b
        · simp (disch := omega) only [zlit, zI_add, zI_sub, zI_mul, zI_neg, zI_lt, zI_le, zI_eq, zI_cl, zI_max, zI_min, zI_abs, bnd_ok, bnd_ex, lm_eq, li_eq, grd_inb, grd_ser, grd_z, grd_lt, if_true, if_false, if_pos, if_neg, k.index, mo_checked, Int.sub_self, k2.peak, b]
        · simp (disch := omega) only [zlit, zI_add, zI_sub, zI_mul, zI_neg, zI_lt, zI_le, zI_eq, zI_cl, zI_max, zI_min, zI_abs, bnd_ok, bnd_ex, lm_eq, li_eq, grd_inb, grd_ser, grd_z, grd_lt, if_true, if_false, if_pos, if_neg, k.index, mo_checked, Int.sub_self, k2.peak, b]
    · refine .inr ⟨0, 0, 1, CR.of ?_, rfl, by decide, MR.of (fun M' K' => ?_)⟩
      · unfold fn_SA_isPeak
        simp (disch := omega) only [zlit, zI_add, zI_sub, zI_mul, zI_neg, zI_lt, zI_le, zI_eq, zI_cl, zI_max, zI_min, zI_abs, bnd_ok, bnd_ex, lm_eq, li_eq, grd_inb, grd_ser, grd_z, grd_lt, if_true, if_false, if_pos, if_neg, SA_with_no c h]
      · have k := (K' p c.1 c.2)
        unfold fn_Mo_isPeak
        simp (disch := omega) only [zlit, zI_add, zI_sub, zI_mul, zI_neg, zI_lt, zI_le, zI_eq, zI_cl, zI_max, zI_min, zI_abs, bnd_ok, bnd_ex, lm_eq, li_eq, grd_inb, grd_ser, grd_z, grd_lt, if_true, if_false, if_pos, if_neg, k.index, mo_checked, Int.sub_zero]
  · refine .inr ⟨0, 0, 1, CR.of ?_, rfl, by decide, MR.of (fun M' K' => ?_)⟩
    · unfold fn_SA_isPeak
      simp (disch := omega) only [zlit, zI_add, zI_sub, zI_mul, zI_neg, zI_lt, zI_le, zI_eq, zI_cl, zI_max, zI_min, zI_abs, bnd_ok, bnd_ex, lm_eq, li_eq, grd_inb, grd_ser, grd_z, grd_lt, if_true, if_false, if_pos, if_neg, SA_with_no2]
    · unfold fn_Mo_isPeak
      simp (disch := omega) only [zlit, zI_add, zI_sub, zI_mul, zI_neg, zI_lt, zI_le, zI_eq, zI_cl, zI_max, zI_min, zI_abs, bnd_ok, bnd_ex, lm_eq, li_eq, grd_inb, grd_ser, grd_z, grd_lt, if_true, if_false, if_pos, if_neg, mo_index_no, mo_checked, Int.sub_zero]
/-! how a peak stands out -/
def wkF (a : Int → Int) (n x st : Int) : Nat → Int → Int → Int
  | 0, _, m => m
  | f + 1, p, m => if 0 ≤ p ∧ p < n ∧ a p ≤ a x then wkF a n x st f (p + st) (min m (a p)) else m
theorem wkF_out {a : Int → Int} {n x st p m : Int} (F : Nat) (h : ¬ (0 ≤ p ∧ p < n ∧ a p ≤ a x)) : wkF a n x st F p m = m := by
  cases F with
  | zero => rfl
  | succ F => exact if_neg h
theorem wkF_in {a : Int → Int} {n x st p m : Int} (F : Nat) (h : 0 ≤ p ∧ p < n ∧ a p ≤ a x) : wkF a n x st (F + 1) p m = wkF a n x st F (p + st) (min m (a p)) := if_pos h
theorem wkF_b {a : Int → Int} {n x st : Int} (hb : ∀ i, -99 ≤ a i ∧ a i ≤ 99) : ∀ (F : Nat) (p m : Int), -99 ≤ m ∧ m ≤ 99 → -99 ≤ wkF a n x st F p m ∧ wkF a n x st F p m ≤ 99 := by
  intro F
  induction F with
  | zero => intro p m hm; exact hm
  | succ F ih =>
    intro p m hm
    by_cases c : 0 ≤ p ∧ p < n ∧ a p ≤ a x
    · rw [wkF_in F c]
      have := hb p
      exact ih _ _ (by omega)
    · rw [wkF_out _ c]
      exact hm
theorem far_pos {x st : Int} (hst : st = 1 ∨ st = -1) (far : Int) : x + far * st - x = far * st ∧ x + (far + 1) * st = x + far * st + st ∧ ((st = 1 ∧ far * st = far) ∨ (st = -1 ∧ far * st = -far)) := by
  rcases hst with rfl | rfl
  · omega
  · omega
theorem c_leastBeside_9 {M : Mm} {v : Nat} {n : Int} {a : Int → Int} (h : Ser M v n a) {x st : Int} (hx : 0 ≤ x ∧ x < n) (hst : st = 1 ∨ st = -1) : ∀ (k : Nat) (m far : Int) (F : Nat), -99 ≤ m ∧ m ≤ 99 → 1 ≤ far → far ≤ n → n - far < k → n - far ≤ F → fn_Pe_leastBeside_9 v (zI x) (zI st) k (zI m) (zI far) M = some (.inl (zI (wkF a n x st F (x + far * st) m)), M) := by
  have hv := h.v
  have hn := h.n
  have b0 := h.b x
  intro k
  induction k with
  | zero => intros; omega
  | succ k ih =>
    intro m far F hm h0 h1 h2 h3
    obtain ⟨-, e2, e3⟩ := far_pos (x := x) hst far
    generalize hp : x + far * st = p at *
    have b1 := h.b p
    rw [fn_Pe_leastBeside_9]
    by_cases c : n ≤ far
    · simp (disch := omega) only [zlit, zI_add, zI_sub, zI_mul, zI_neg, zI_lt, zI_le, zI_eq, zI_cl, zI_max, zI_min, zI_abs, bnd_ok, bnd_ex, lm_eq, li_eq, grd_inb, grd_ser, grd_z, grd_lt, if_true, if_false, if_pos, if_neg, h.size]
      rw [wkF_out F (by omega)]
    · obtain ⟨F', rfl⟩ : ∃ F', F = F' + 1 := ⟨F - 1, by omega⟩
      by_cases c2 : 0 ≤ p ∧ p < n
      · by_cases c3 : a p ≤ a x
        · simp (disch := omega) only [zlit, zI_add, zI_sub, zI_mul, zI_neg, zI_lt, zI_le, zI_eq, zI_cl, zI_max, zI_min, zI_abs, bnd_ok, bnd_ex, lm_eq, li_eq, grd_inb, grd_ser, grd_z, grd_lt, if_true, if_false, if_pos, if_neg, h.size, hp, h.has, h.at]
          rw [ih _ _ F' (by omega) (by omega) (by omega) (by omega) (by omega), e2, wkF_in F' ⟨c2.1, c2.2, c3⟩]
        · simp (disch := omega) only [zlit, zI_add, zI_sub, zI_mul, zI_neg, zI_lt, zI_le, zI_eq, zI_cl, zI_max, zI_min, zI_abs, bnd_ok, bnd_ex, lm_eq, li_eq, grd_inb, grd_ser, grd_z, grd_lt, if_true, if_false, if_pos, if_neg, h.size, hp, h.has, h.at, fn_Pe_leastBeside_49]
          rw [wkF_out _ (by omega)]
      · simp (disch := omega) only [zlit, zI_add, zI_sub, zI_mul, zI_neg, zI_lt, zI_le, zI_eq, zI_cl, zI_max, zI_min, zI_abs, bnd_ok, bnd_ex, lm_eq, li_eq, grd_inb, grd_ser, grd_z, grd_lt, if_true, if_false, if_pos, if_neg, h.size, hp, h.hasn]
        rw [wkF_out _ (by omega)]
theorem m_pit_9 {M : Mm} {v n : Int} {a : Int → Int} (h : Mse M v n a) {x st : Int} (hx : 0 ≤ x ∧ x < n) (hst : st = 1 ∨ st = -1) : ∀ (k : Nat) (m far : Int) (F : Nat), -99 ≤ m ∧ m ≤ 1000000000 → 1 ≤ far → far ≤ n → n - far < k → n - far ≤ F → fn_Mo_pit_9 (zI v) (zI x) (zI st) k (zI m) (zI (x + far * st)) M = fn_Mo_pit_63 (zI (wkF a n x st F (x + far * st) m)) M := by
  have hv := h.s
  have hn := h.n
  have b0 := h.b x
  intro k
  induction k with
  | zero => intros; omega
  | succ k ih =>
    intro m far F hm h0 h1 h2 h3
    have ih2 := ih (min m (a (x + far * st))) (far + 1)
    obtain ⟨-, e2, e3⟩ := far_pos (x := x) hst far
    rw [e2] at ih2
    generalize hp : x + far * st = p at *
    have b1 := h.b p
    rw [fn_Mo_pit_9]
    by_cases c : n ≤ far
    · by_cases c2 : p < 0
      · simp (disch := omega) only [zlit, zI_add, zI_sub, zI_mul, zI_neg, zI_lt, zI_le, zI_eq, zI_cl, zI_max, zI_min, zI_abs, bnd_ok, bnd_ex, lm_eq, li_eq, grd_inb, grd_ser, grd_z, grd_lt, if_true, if_false, if_pos, if_neg]
        rw [wkF_out F (by omega)]
      · simp (disch := omega) only [zlit, zI_add, zI_sub, zI_mul, zI_neg, zI_lt, zI_le, zI_eq, zI_cl, zI_max, zI_min, zI_abs, bnd_ok, bnd_ex, lm_eq, li_eq, grd_inb, grd_ser, grd_z, grd_lt, if_true, if_false, if_pos, if_neg, h.many]
        rw [wkF_out F (by omega)]
    · obtain ⟨F', rfl⟩ : ∃ F', F = F' + 1 := ⟨F - 1, by omega⟩
      by_cases c2 : 0 ≤ p ∧ p < n
      · by_cases c3 : a p ≤ a x
        · simp (disch := omega) only [zlit, zI_add, zI_sub, zI_mul, zI_neg, zI_lt, zI_le, zI_eq, zI_cl, zI_max, zI_min, zI_abs, bnd_ok, bnd_ex, lm_eq, li_eq, grd_inb, grd_ser, grd_z, grd_lt, if_true, if_false, if_pos, if_neg, h.many, h.at, mo_less]
          rw [ih2 F' (by omega) (by omega) (by omega) (by omega) (by omega), wkF_in F' ⟨c2.1, c2.2, c3⟩]
        · simp (disch := omega) only [zlit, zI_add, zI_sub, zI_mul, zI_neg, zI_lt, zI_le, zI_eq, zI_cl, zI_max, zI_min, zI_abs, bnd_ok, bnd_ex, lm_eq, li_eq, grd_inb, grd_ser, grd_z, grd_lt, if_true, if_false, if_pos, if_neg, h.many, h.at]
          rw [wkF_out _ (by omega)]
      · by_cases c4 : p < 0
        · simp (disch := omega) only [zlit, zI_add, zI_sub, zI_mul, zI_neg, zI_lt, zI_le, zI_eq, zI_cl, zI_max, zI_min, zI_abs, bnd_ok, bnd_ex, lm_eq, li_eq, grd_inb, grd_ser, grd_z, grd_lt, if_true, if_false, if_pos, if_neg]
          rw [wkF_out _ (by omega)]
        · simp (disch := omega) only [zlit, zI_add, zI_sub, zI_mul, zI_neg, zI_lt, zI_le, zI_eq, zI_cl, zI_max, zI_min, zI_abs, bnd_ok, bnd_ex, lm_eq, li_eq, grd_inb, grd_ser, grd_z, grd_lt, if_true, if_false, if_pos, if_neg, h.many]
          rw [wkF_out _ (by omega)]
def lowF (a : Int → Int) (n x st : Int) : Int := if 0 ≤ x + st ∧ x + st < n then wkF a n x st 20 (x + st) (a x) else -99
def hgtF (a : Int → Int) (n x : Int) : Int := if n = 1 then 0 else a x - max (lowF a n x (-1)) (lowF a n x 1)
theorem lowF_b {a : Int → Int} {n x st : Int} (hb : ∀ i, -99 ≤ a i ∧ a i ≤ 99) : -99 ≤ lowF a n x st ∧ lowF a n x st ≤ 99 := by
  unfold lowF
  by_cases c : 0 ≤ x + st ∧ x + st < n
  · rw [if_pos c]
    exact wkF_b hb 20 _ _ (hb x)
  · rw [if_neg c]
    omega
theorem hgtF_b {a : Int → Int} {n x : Int} (hb : ∀ i, -99 ≤ a i ∧ a i ≤ 99) : -200 ≤ hgtF a n x ∧ hgtF a n x ≤ 200 := by
  have h1 := lowF_b (n := n) (x := x) (st := -1) hb
  have h2 := lowF_b (n := n) (x := x) (st := 1) hb
  have h3 := hb x
  unfold hgtF
  by_cases c : n = 1
  · rw [if_pos c]; omega
  · rw [if_neg c]; omega
theorem Ser.beside {M : Mm} {v : Nat} {n : Int} {a : Int → Int} (h : Ser M v n a) {x st : Int} (hx : 0 ≤ x ∧ x < n) (hst : st = 1 ∨ st = -1) (hp : 0 ≤ x + st ∧ x + st < n) : fn_Pe_leastBeside v (zI x) (zI st) M = some (.inl (zI (lowF a n x st)), M) := by
  have hv := h.v
  have hn := h.n
  have b0 := h.b x
  unfold fn_Pe_leastBeside fuel0 lowF
  simp (disch := omega) only [zlit, zI_add, zI_sub, zI_mul, zI_neg, zI_lt, zI_le, zI_eq, zI_cl, zI_max, zI_min, zI_abs, bnd_ok, bnd_ex, lm_eq, li_eq, grd_inb, grd_ser, grd_z, grd_lt, if_true, if_false, if_pos, if_neg, h.at]
  rw [c_leastBeside_9 h hx hst 2000 (a x) 1 20 b0 (by omega) (by omega) (by omega) (by omega), Int.one_mul]
theorem Ser.height {M : Mm} {v : Nat} {n : Int} {a : Int → Int} (h : Ser M v n a) {x : Int} (hx : 0 ≤ x ∧ x < n) : fn_Pe_heightBySides v (zI x) M = some (.inl (zI (hgtF a n x)), M) := by
  have hv := h.v
  have hn := h.n
  have b0 := h.b x
  have h1 := lowF_b (n := n) (x := x) (st := -1) h.b
  have h2 := lowF_b (n := n) (x := x) (st := 1) h.b
  unfold fn_Pe_heightBySides hgtF
  by_cases c1 : x = 0
  · have e1 : lowF a n x (-1) = -99 := if_neg (by omega)
    by_cases c2 : x = n - 1
    · simp (disch := omega) only [zlit, zI_add, zI_sub, zI_mul, zI_neg, zI_lt, zI_le, zI_eq, zI_cl, zI_max, zI_min, zI_abs, bnd_ok, bnd_ex, lm_eq, li_eq, grd_inb, grd_ser, grd_z, grd_lt, if_true, if_false, if_pos, if_neg, h.hasn]
    · simp (disch := omega) only [zlit, zI_add, zI_sub, zI_mul, zI_neg, zI_lt, zI_le, zI_eq, zI_cl, zI_max, zI_min, zI_abs, bnd_ok, bnd_ex, lm_eq, li_eq, grd_inb, grd_ser, grd_z, grd_lt, if_true, if_false, if_pos, if_neg, h.hasn, h.has, fn_Pe_heightBySides_26, fn_Pe_heightBySides_41, fn_Pe_heightBySides_58, h.beside, h.at, e1]
  · by_cases c2 : x = n - 1
    · have e1 : lowF a n x 1 = -99 := if_neg (by omega)
      simp (disch := omega) only [zlit, zI_add, zI_sub, zI_mul, zI_neg, zI_lt, zI_le, zI_eq, zI_cl, zI_max, zI_min, zI_abs, bnd_ok, bnd_ex, lm_eq, li_eq, grd_inb, grd_ser, grd_z, grd_lt, if_true, if_false, if_pos, if_neg, h.hasn, h.has, fn_Pe_heightBySides_26, fn_Pe_heightBySides_41, fn_Pe_heightBySides_58, h.beside, h.at, e1]
    · simp (disch := omega) only [zlit, zI_add, zI_sub, zI_mul, zI_neg, zI_lt, zI_le, zI_eq, zI_cl, zI_max, zI_min, zI_abs, bnd_ok, bnd_ex, lm_eq, li_eq, grd_inb, grd_ser, grd_z, grd_lt, if_true, if_false, if_pos, if_neg, h.hasn, h.has, fn_Pe_heightBySides_26, fn_Pe_heightBySides_41, fn_Pe_heightBySides_58, h.beside, h.at]
/-- beside a peak, with a value on that side -/
theorem Mse.pit {M : Mm} {v n : Int} {a : Int → Int} (h : Mse M v n a) {x st : Int} (hx : 0 ≤ x ∧ x < n) (hst : st = 1 ∨ st = -1) (hp : 0 ≤ x + st ∧ x + st < n) (hk : a (x + st) ≤ a x) : fn_Mo_pit (zI v) (zI x) (zI st) M = some (.inl (zI (lowF a n x st)), M) := by
  have hv := h.s
  have hn := h.n
  have b0 := h.b x
  have b1 := h.b (x + st)
  have e := m_pit_9 h hx hst 2000 1000000000 1 20 (by omega) (by omega) (by omega) (by omega) (by omega)
  rw [Int.one_mul] at e
  have hl := lowF_b (n := n) (x := x) (st := st) h.b
  unfold fn_Mo_pit fuel0
  simp (disch := omega) only [zlit, zI_add, zI_sub, zI_mul, zI_neg, zI_lt, zI_le, zI_eq, zI_cl, zI_max, zI_min, zI_abs, bnd_ok, bnd_ex, lm_eq, li_eq, grd_inb, grd_ser, grd_z, grd_lt, if_true, if_false, if_pos, if_neg, e]
  unfold lowF at hl ⊢
  rw [if_pos hp] at hl ⊢
  rw [show (20 : Nat) = 19 + 1 from rfl, wkF_in 19 ⟨hp.1, hp.2, hk⟩, show min 1000000000 (a (x + st)) = a (x + st) by omega]
  rw [show (20 : Nat) = 19 + 1 from rfl, wkF_in 19 ⟨hp.1, hp.2, hk⟩, show min (a x) (a (x + st)) = a (x + st) by omega] at hl
  rw [wkF_in 19 ⟨hp.1, hp.2, hk⟩, show min (a x) (a (x + st)) = a (x + st) by omega]
  unfold fn_Mo_pit_63
  simp (disch := omega) only [zlit, zI_add, zI_sub, zI_mul, zI_neg, zI_lt, zI_le, zI_eq, zI_cl, zI_max, zI_min, zI_abs, bnd_ok, bnd_ex, lm_eq, li_eq, grd_inb, grd_ser, grd_z, grd_lt, if_true, if_false, if_pos, if_neg]
theorem Mse.pit_no {M : Mm} {v n : Int} {a : Int → Int} (h : Mse M v n a) {x st : Int} (hx : 0 ≤ x ∧ x < n) (hst : st = 1 ∨ st = -1) (hp : ¬ (0 ≤ x + st ∧ x + st < n)) : fn_Mo_pit (zI v) (zI x) (zI st) M = some (.inl (zI (-1000000000)), M) := by
  have hv := h.s
  have hn := h.n
  have e := m_pit_9 h hx hst 2000 1000000000 1 20 (by omega) (by omega) (by omega) (by omega) (by omega)
  rw [Int.one_mul] at e
  unfold fn_Mo_pit fuel0
  simp (disch := omega) only [zlit, zI_add, zI_sub, zI_mul, zI_neg, zI_lt, zI_le, zI_eq, zI_cl, zI_max, zI_min, zI_abs, bnd_ok, bnd_ex, lm_eq, li_eq, grd_inb, grd_ser, grd_z, grd_lt, if_true, if_false, if_pos, if_neg, e]
  rw [wkF_out 20 (by omega)]
  unfold fn_Mo_pit_63
  simp (disch := omega) only [zlit, zI_add, zI_sub, zI_mul, zI_neg, zI_lt, zI_le, zI_eq, zI_cl, zI_max, zI_min, zI_abs, bnd_ok, bnd_ex, lm_eq, li_eq, grd_inb, grd_ser, grd_z, grd_lt, if_true, if_false, if_pos, if_neg]
theorem Mse.rise {M : Mm} {v n : Int} {a : Int → Int} (h : Mse M v n a) {x : Int} (hx : 0 ≤ x ∧ x < n) (hp : pkB a n x = true) : fn_Mo_rise (zI v) (zI x) M = some (.inl (zI (hgtF a n x)), M) := by
  have hv := h.s
  have hn := h.n
  have b0 := h.b x
  have hk := pkB_iff.mp hp
  have h1 := lowF_b (n := n) (x := x) (st := -1) h.b
  have h2 := lowF_b (n := n) (x := x) (st := 1) h.b
  unfold fn_Mo_rise hgtF
  by_cases c : n = 1
  · simp (disch := omega) only [zlit, zI_add, zI_sub, zI_mul, zI_neg, zI_lt, zI_le, zI_eq, zI_cl, zI_max, zI_min, zI_abs, bnd_ok, bnd_ex, lm_eq, li_eq, grd_inb, grd_ser, grd_z, grd_lt, if_true, if_false, if_pos, if_neg, h.many]
  · by_cases c1 : x = 0
    · have e1 := h.pit_no hx (st := -1) (.inr rfl) (by omega)
      have e2 := h.pit hx (st := 1) (.inl rfl) (by omega) (by omega)
      have e3 : lowF a n x (-1) = -99 := if_neg (by omega)
      simp (disch := omega) only [zlit, zI_add, zI_sub, zI_mul, zI_neg, zI_lt, zI_le, zI_eq, zI_cl, zI_max, zI_min, zI_abs, bnd_ok, bnd_ex, lm_eq, li_eq, grd_inb, grd_ser, grd_z, grd_lt, if_true, if_false, if_pos, if_neg, h.many, h.at, e1, e2, mo_more]
      rw [show max (-1000000000) (lowF a n x 1) = max (lowF a n x (-1)) (lowF a n x 1) by omega]
    · by_cases c2 : x = n - 1
      · have e1 := h.pit hx (st := -1) (.inr rfl) (by omega) (by rw [show x + -1 = x - 1 by omega]; omega)
        have e2 := h.pit_no hx (st := 1) (.inl rfl) (by omega)
        have e3 : lowF a n x 1 = -99 := if_neg (by omega)
        simp (disch := omega) only [zlit, zI_add, zI_sub, zI_mul, zI_neg, zI_lt, zI_le, zI_eq, zI_cl, zI_max, zI_min, zI_abs, bnd_ok, bnd_ex, lm_eq, li_eq, grd_inb, grd_ser, grd_z, grd_lt, if_true, if_false, if_pos, if_neg, h.many, h.at, e1, e2, mo_more]
        rw [show max (lowF a n x (-1)) (-1000000000) = max (lowF a n x (-1)) (lowF a n x 1) by omega]
      · have e1 := h.pit hx (st := -1) (.inr rfl) (by omega) (by rw [show x + -1 = x - 1 by omega]; omega)
        have e2 := h.pit hx (st := 1) (.inl rfl) (by omega) (by omega)
        simp (disch := omega) only [zlit, zI_add, zI_sub, zI_mul, zI_neg, zI_lt, zI_le, zI_eq, zI_cl, zI_max, zI_min, zI_abs, bnd_ok, bnd_ex, lm_eq, li_eq, grd_inb, grd_ser, grd_z, grd_lt, if_true, if_false, if_pos, if_neg, h.many, h.at, e1, e2, mo_more]
