/-! THE MODEL'S SERIES, read: in the row 33, 21 numbers a slot -/
def Mse (M : Mm) (s n : Int) (a : Int → Int) : Prop := (0 ≤ s ∧ s < 4) ∧ (0 ≤ n ∧ n ≤ 20) ∧ M 33 (21 * s).toNat = zI n ∧ (∀ i, 0 ≤ i → i < n → M 33 (21 * s + 1 + i).toNat = zI (a i)) ∧ ∀ i, -99 ≤ a i ∧ a i ≤ 99
theorem Mse.s {M : Mm} {s n : Int} {a : Int → Int} (h : Mse M s n a) : 0 ≤ s ∧ s < 4 := h.1
theorem Mse.n {M : Mm} {s n : Int} {a : Int → Int} (h : Mse M s n a) : 0 ≤ n ∧ n ≤ 20 := h.2.1
theorem Mse.c {M : Mm} {s n : Int} {a : Int → Int} (h : Mse M s n a) : M 33 (21 * s).toNat = zI n := h.2.2.1
theorem Mse.e {M : Mm} {s n : Int} {a : Int → Int} (h : Mse M s n a) : ∀ i, 0 ≤ i → i < n → M 33 (21 * s + 1 + i).toNat = zI (a i) := h.2.2.2.1
theorem Mse.b {M : Mm} {s n : Int} {a : Int → Int} (h : Mse M s n a) : ∀ i, -99 ≤ a i ∧ a i ≤ 99 := h.2.2.2.2
theorem Mse.to {M M' : Mm} {s n : Int} {a : Int → Int} (h : Mse M s n a) (h1 : M' 33 = M 33) : Mse M' s n a := by
  refine ⟨h.s, h.n, ?_, fun i h0 hi => ?_, h.b⟩
  · rw [h1]
    exact h.c
  · rw [h1]
    exact h.e i h0 hi
theorem Mse.row {M : Mm} {s n : Int} {a : Int → Int} (h : Mse M s n a) {k : Nat} (hk : k ≠ 33) (g : Nat → Int32) : Mse (mrow M k g) s n a := h.to (mrow_ne M g (Ne.symm hk))
theorem Mse.set {M : Mm} {s n : Int} {a : Int → Int} (h : Mse M s n a) {k : Nat} (hk : k ≠ 33) (j : Nat) (x : Int32) : Mse (mset M k j x) s n a := h.to (mset_ne M j x (Ne.symm hk))
theorem Mse.congr {M : Mm} {s n : Int} {a b : Int → Int} (h : Mse M s n a) (he : ∀ i, 0 ≤ i → i < n → a i = b i) (hb : ∀ i, -99 ≤ b i ∧ b i ≤ 99) : Mse M s n b :=
  ⟨h.s, h.n, h.c, fun i h0 h1 => by rw [h.e i h0 h1, he i h0 h1], hb⟩
theorem Mse.many {M : Mm} {s n : Int} {a : Int → Int} (h : Mse M s n a) : fn_Mo_many (zI s) M = some (.inl (zI n), M) := by
  have hs := h.s
  unfold fn_Mo_many
  simp (disch := omega) only [zlit, zI_add, zI_sub, zI_mul, zI_neg, zI_lt, zI_le, zI_eq, zI_cl, zI_max, zI_min, zI_abs, bnd_ok, bnd_ex, lm_eq, li_eq, grd_inb, grd_ser, grd_z, grd_lt, if_true, if_false, if_pos, if_neg, h.c]
theorem mo_at_raw {M : Mm} {s i : Int} (hs : 0 ≤ s ∧ s < 4) (hi : 0 ≤ i ∧ i < 20) : fn_Mo_at (zI s) (zI i) M = some (.inl (M 33 (21 * s + 1 + i).toNat), M) := by
  unfold fn_Mo_at
  simp (disch := omega) only [zlit, zI_add, zI_sub, zI_mul, zI_neg, zI_lt, zI_le, zI_eq, zI_cl, zI_max, zI_min, zI_abs, bnd_ok, bnd_ex, lm_eq, li_eq, grd_inb, grd_ser, grd_z, grd_lt, if_true, if_false, if_pos, if_neg]
theorem Mse.at {M : Mm} {s n : Int} {a : Int → Int} (h : Mse M s n a) {i : Int} (h0 : 0 ≤ i) (h1 : i < n) : fn_Mo_at (zI s) (zI i) M = some (.inl (zI (a i)), M) := by
  have hs := h.s
  have hn := h.n
  unfold fn_Mo_at
  simp (disch := omega) only [zlit, zI_add, zI_sub, zI_mul, zI_neg, zI_lt, zI_le, zI_eq, zI_cl, zI_max, zI_min, zI_abs, bnd_ok, bnd_ex, lm_eq, li_eq, grd_inb, grd_ser, grd_z, grd_lt, if_true, if_false, if_pos, if_neg, h.e i h0 h1]
theorem mo_in {M : Mm} {a b c : Int} (ha : -2147483648 ≤ a ∧ a < 2147483648) (hb : -2147483648 ≤ b ∧ b < 2147483648) (hc : -2147483648 ≤ c ∧ c < 2147483648) : fn_Mo_in (zI a) (zI b) (zI c) M = some (.inl (zI (if b ≤ a ∧ a ≤ c then 1 else 0)), M) := by
  unfold fn_Mo_in
  by_cases c1 : a < b
  · simp (disch := omega) only [zlit, zI_add, zI_sub, zI_mul, zI_neg, zI_lt, zI_le, zI_eq, zI_cl, zI_max, zI_min, zI_abs, bnd_ok, bnd_ex, lm_eq, li_eq, grd_inb, grd_ser, grd_z, grd_lt, if_true, if_false, if_pos, if_neg]
  · by_cases c2 : c < a
    · simp (disch := omega) only [zlit, zI_add, zI_sub, zI_mul, zI_neg, zI_lt, zI_le, zI_eq, zI_cl, zI_max, zI_min, zI_abs, bnd_ok, bnd_ex, lm_eq, li_eq, grd_inb, grd_ser, grd_z, grd_lt, if_true, if_false, if_pos, if_neg]
    · simp (disch := omega) only [zlit, zI_add, zI_sub, zI_mul, zI_neg, zI_lt, zI_le, zI_eq, zI_cl, zI_max, zI_min, zI_abs, bnd_ok, bnd_ex, lm_eq, li_eq, grd_inb, grd_ser, grd_z, grd_lt, if_true, if_false, if_pos, if_neg]
theorem mo_slot {M : Mm} {s : Int} (ha : -2147483648 ≤ s ∧ s < 2147483648) : fn_Mo_isSlot (zI s) M = some (.inl (zI (if 0 ≤ s ∧ s < 4 then 1 else 0)), M) := by
  unfold fn_Mo_isSlot
  by_cases c1 : 0 ≤ s ∧ s < 4
  · simp (disch := omega) only [zlit, zI_add, zI_sub, zI_mul, zI_neg, zI_lt, zI_le, zI_eq, zI_cl, zI_max, zI_min, zI_abs, bnd_ok, bnd_ex, lm_eq, li_eq, grd_inb, grd_ser, grd_z, grd_lt, if_true, if_false, if_pos, if_neg, mo_in]
  · simp (disch := omega) only [zlit, zI_add, zI_sub, zI_mul, zI_neg, zI_lt, zI_le, zI_eq, zI_cl, zI_max, zI_min, zI_abs, bnd_ok, bnd_ex, lm_eq, li_eq, grd_inb, grd_ser, grd_z, grd_lt, if_true, if_false, if_pos, if_neg, mo_in]
theorem mo_value {M : Mm} {s : Int} (ha : -2147483648 ≤ s ∧ s < 2147483648) : fn_Mo_isValue (zI s) M = some (.inl (zI (if -99 ≤ s ∧ s ≤ 99 then 1 else 0)), M) := by
  unfold fn_Mo_isValue
  by_cases c1 : -99 ≤ s ∧ s ≤ 99
  · simp (disch := omega) only [zlit, zI_add, zI_sub, zI_mul, zI_neg, zI_lt, zI_le, zI_eq, zI_cl, zI_max, zI_min, zI_abs, bnd_ok, bnd_ex, lm_eq, li_eq, grd_inb, grd_ser, grd_z, grd_lt, if_true, if_false, if_pos, if_neg, mo_in]
  · simp (disch := omega) only [zlit, zI_add, zI_sub, zI_mul, zI_neg, zI_lt, zI_le, zI_eq, zI_cl, zI_max, zI_min, zI_abs, bnd_ok, bnd_ex, lm_eq, li_eq, grd_inb, grd_ser, grd_z, grd_lt, if_true, if_false, if_pos, if_neg, mo_in]
theorem mo_less {M : Mm} {a b : Int} (ha : -2147483648 ≤ a ∧ a < 2147483648) (hb : -2147483648 ≤ b ∧ b < 2147483648) : fn_Mo_less (zI a) (zI b) M = some (.inl (zI (min a b)), M) := by
  unfold fn_Mo_less
  by_cases c : b ≤ a
  · simp (disch := omega) only [zlit, zI_add, zI_sub, zI_mul, zI_neg, zI_lt, zI_le, zI_eq, zI_cl, zI_max, zI_min, zI_abs, bnd_ok, bnd_ex, lm_eq, li_eq, grd_inb, grd_ser, grd_z, grd_lt, if_true, if_false, if_pos, if_neg]
    rw [show min a b = b by omega]
  · simp (disch := omega) only [zlit, zI_add, zI_sub, zI_mul, zI_neg, zI_lt, zI_le, zI_eq, zI_cl, zI_max, zI_min, zI_abs, bnd_ok, bnd_ex, lm_eq, li_eq, grd_inb, grd_ser, grd_z, grd_lt, if_true, if_false, if_pos, if_neg]
    rw [show min a b = a by omega]
theorem mo_more {M : Mm} {a b : Int} (ha : -2147483648 ≤ a ∧ a < 2147483648) (hb : -2147483648 ≤ b ∧ b < 2147483648) : fn_Mo_more (zI a) (zI b) M = some (.inl (zI (max a b)), M) := by
  unfold fn_Mo_more
  by_cases c : a ≤ b
  · simp (disch := omega) only [zlit, zI_add, zI_sub, zI_mul, zI_neg, zI_lt, zI_le, zI_eq, zI_cl, zI_max, zI_min, zI_abs, bnd_ok, bnd_ex, lm_eq, li_eq, grd_inb, grd_ser, grd_z, grd_lt, if_true, if_false, if_pos, if_neg]
    rw [show max a b = b by omega]
  · simp (disch := omega) only [zlit, zI_add, zI_sub, zI_mul, zI_neg, zI_lt, zI_le, zI_eq, zI_cl, zI_max, zI_min, zI_abs, bnd_ok, bnd_ex, lm_eq, li_eq, grd_inb, grd_ser, grd_z, grd_lt, if_true, if_false, if_pos, if_neg]
    rw [show max a b = a by omega]
theorem mo_size {M : Mm} {a : Int} (ha : -2147483648 ≤ a ∧ a < 2147483648) : fn_Mo_size (zI a) M = some (.inl (zI (if 0 ≤ a then a else -a)), M) := by
  unfold fn_Mo_size
  by_cases c : 0 ≤ a
  · simp (disch := omega) only [zlit, zI_add, zI_sub, zI_mul, zI_neg, zI_lt, zI_le, zI_eq, zI_cl, zI_max, zI_min, zI_abs, bnd_ok, bnd_ex, lm_eq, li_eq, grd_inb, grd_ser, grd_z, grd_lt, if_true, if_false, if_pos, if_neg]
  · simp (disch := omega) only [zlit, zI_add, zI_sub, zI_mul, zI_neg, zI_lt, zI_le, zI_eq, zI_cl, zI_max, zI_min, zI_abs, bnd_ok, bnd_ex, lm_eq, li_eq, grd_inb, grd_ser, grd_z, grd_lt, if_true, if_false, if_pos, if_neg]
theorem mset_at (M : Mm) (k j : Nat) (x : Int32) : mset M k j x k j = x := by
  rw [mset_eq]
  exact if_pos rfl
theorem mset_oth (M : Mm) (k j : Nat) (x : Int32) {i : Nat} (h : i ≠ j) : mset M k j x k i = M k i := by
  rw [mset_eq]
  exact if_neg h
theorem mset_mset (M : Mm) (k j : Nat) (x y : Int32) : mset (mset M k j x) k j y = mset M k j y := by
  rw [mset_row, mset_row, mset_row, mrow_mrow]
  congr 1
  funext i
  unfold upd
  by_cases e : i = j
  · rw [if_pos e, if_pos e]
  · rw [if_neg e, if_neg e, mrow_eq, if_neg e]
theorem mo_checked {M : Mm} {c : Int} (hc : c = 0 ∨ c = 1) : fn_Mo_checked (zI c) M = some (.inl (zI (1 - c)), mset M 32 6 (zI (1 - c))) := by
  unfold fn_Mo_checked
  rcases hc with rfl | rfl
  · simp (disch := omega) only [zlit, zI_add, zI_sub, zI_mul, zI_neg, zI_lt, zI_le, zI_eq, zI_cl, zI_max, zI_min, zI_abs, bnd_ok, bnd_ex, lm_eq, li_eq, grd_inb, grd_ser, grd_z, grd_lt, if_true, if_false, if_pos, if_neg, fn_Mo_checked_10, mset_at]
    rfl
  · simp (disch := omega) only [zlit, zI_add, zI_sub, zI_mul, zI_neg, zI_lt, zI_le, zI_eq, zI_cl, zI_max, zI_min, zI_abs, bnd_ok, bnd_ex, lm_eq, li_eq, grd_inb, grd_ser, grd_z, grd_lt, if_true, if_false, if_pos, if_neg, fn_Mo_checked_10, mset_at]
    rfl
theorem mo_fail {M : Mm} (x : Int32) : fn_Mo_fail x M = some (.inl (zI 0), mset M 32 6 x) := rfl
theorem mo_plain {M : Mm} (x : Int32) : fn_Mo_plain x M = some (.inl x, mset M 32 6 (zI 0)) := rfl
theorem Mse.index {M : Mm} {s n : Int} {a : Int → Int} (h : Mse M s n a) {i : Int} (hi : -2147483648 ≤ i ∧ i < 2147483648) : fn_Mo_isIndex (zI s) (zI i) M = some (.inl (zI (if 0 ≤ i ∧ i < n then 1 else 0)), M) := by
  have hs := h.s
  have hn := h.n
  unfold fn_Mo_isIndex
  by_cases c1 : 0 ≤ i ∧ i < n
  · simp (disch := omega) only [zlit, zI_add, zI_sub, zI_mul, zI_neg, zI_lt, zI_le, zI_eq, zI_cl, zI_max, zI_min, zI_abs, bnd_ok, bnd_ex, lm_eq, li_eq, grd_inb, grd_ser, grd_z, grd_lt, if_true, if_false, if_pos, if_neg, mo_slot, mo_in, h.many]
  · simp (disch := omega) only [zlit, zI_add, zI_sub, zI_mul, zI_neg, zI_lt, zI_le, zI_eq, zI_cl, zI_max, zI_min, zI_abs, bnd_ok, bnd_ex, lm_eq, li_eq, grd_inb, grd_ser, grd_z, grd_lt, if_true, if_false, if_pos, if_neg, mo_slot, mo_in, h.many]
theorem mo_index_no {M : Mm} {s i : Int} (hi : -2147483648 ≤ s ∧ s < 2147483648) (hs : ¬ (0 ≤ s ∧ s < 4)) : fn_Mo_isIndex (zI s) (zI i) M = some (.inl (zI 0), M) := by
  unfold fn_Mo_isIndex
  simp (disch := omega) only [zlit, zI_add, zI_sub, zI_mul, zI_neg, zI_lt, zI_le, zI_eq, zI_cl, zI_max, zI_min, zI_abs, bnd_ok, bnd_ex, lm_eq, li_eq, grd_inb, grd_ser, grd_z, grd_lt, if_true, if_false, if_pos, if_neg, mo_slot]
theorem m_total_6 {M : Mm} {v n : Int} {a : Int → Int} (h : Mse M v n a) {t : Int} (ht : -1 ≤ t ∧ t < n) : ∀ (k : Nat) (s i : Int), 0 ≤ i → i ≤ t + 1 → t + 1 - i < k → fn_Mo_total_6 (zI v) (zI t) k (zI s) (zI i) M = some (.inl (zI (sumF a i (t + 1) s)), M) := by
  have hv := h.s
  have hn := h.n
  intro k
  induction k with
  | zero => intros; omega
  | succ k ih =>
    intro s i h0 h1 h2
    rw [fn_Mo_total_6]
    by_cases c : t < i
    · simp (disch := omega) only [zlit, zI_add, zI_sub, zI_mul, zI_neg, zI_lt, zI_le, zI_eq, zI_cl, zI_max, zI_min, zI_abs, bnd_ok, bnd_ex, lm_eq, li_eq, grd_inb, grd_ser, grd_z, grd_lt, if_true, if_false, if_pos, if_neg, sumF, lp_stop]
    · simp (disch := omega) only [zlit, zI_add, zI_sub, zI_mul, zI_neg, zI_lt, zI_le, zI_eq, zI_cl, zI_max, zI_min, zI_abs, bnd_ok, bnd_ex, lm_eq, li_eq, grd_inb, grd_ser, grd_z, grd_lt, if_true, if_false, if_pos, if_neg, h.at, ih, sumF, lp_step]
theorem Mse.total {M : Mm} {v n : Int} {a : Int → Int} (h : Mse M v n a) {f t : Int} (hf : 0 ≤ f) (hft : f ≤ t + 1) (ht : t < n) : fn_Mo_total (zI v) (zI f) (zI t) M = some (.inl (zI (sumF a f (t + 1) 0)), M) := by
  have hv := h.s
  have hn := h.n
  unfold fn_Mo_total fuel0
  simp (disch := omega) only [zlit, zI_add, zI_sub, zI_mul, zI_neg, zI_lt, zI_le, zI_eq, zI_cl, zI_max, zI_min, zI_abs, bnd_ok, bnd_ex, lm_eq, li_eq, grd_inb, grd_ser, grd_z, grd_lt, if_true, if_false, if_pos, if_neg, m_total_6 h]
theorem m_lowest_11 {M : Mm} {v n : Int} {a : Int → Int} (h : Mse M v n a) {t : Int} (ht : 0 ≤ t ∧ t < n) : ∀ (k : Nat) (s i : Int), -99 ≤ s ∧ s ≤ 99 → 0 ≤ i → i ≤ t + 1 → t + 1 - i < k → fn_Mo_lowest_11 (zI v) (zI t) k (zI s) (zI i) M = some (.inl (zI (minF a i (t + 1) s)), M) := by
  have hv := h.s
  have hn := h.n
  intro k
  induction k with
  | zero => intros; omega
  | succ k ih =>
    intro s i hs h0 h1 h2
    have b1 := h.b i
    rw [fn_Mo_lowest_11]
    by_cases c : t < i
    · simp (disch := omega) only [zlit, zI_add, zI_sub, zI_mul, zI_neg, zI_lt, zI_le, zI_eq, zI_cl, zI_max, zI_min, zI_abs, bnd_ok, bnd_ex, lm_eq, li_eq, grd_inb, grd_ser, grd_z, grd_lt, if_true, if_false, if_pos, if_neg, minF, lp_stop]
    · simp (disch := omega) only [zlit, zI_add, zI_sub, zI_mul, zI_neg, zI_lt, zI_le, zI_eq, zI_cl, zI_max, zI_min, zI_abs, bnd_ok, bnd_ex, lm_eq, li_eq, grd_inb, grd_ser, grd_z, grd_lt, if_true, if_false, if_pos, if_neg, h.at, mo_less, ih, minF, lp_step]
theorem minF_self {a : Int → Int} {i j : Int} (h : i < j) : minF a i j (a i) = minF a (i + 1) j (a i) := by
  unfold minF
  rw [lp_step h, show min (a i) (a i) = a i by omega]
theorem maxF_self {a : Int → Int} {i j : Int} (h : i < j) : maxF a i j (a i) = maxF a (i + 1) j (a i) := by
  unfold maxF
  rw [lp_step h, show max (a i) (a i) = a i by omega]
theorem Mse.lowest {M : Mm} {v n : Int} {a : Int → Int} (h : Mse M v n a) {f t : Int} (hf : 0 ≤ f) (hft : f ≤ t) (ht : t < n) : fn_Mo_lowest (zI v) (zI f) (zI t) M = some (.inl (zI (minF a (f + 1) (t + 1) (a f))), M) := by
  have hv := h.s
  have hn := h.n
  have b1 := h.b f
  unfold fn_Mo_lowest fuel0
  simp (disch := omega) only [zlit, zI_add, zI_sub, zI_mul, zI_neg, zI_lt, zI_le, zI_eq, zI_cl, zI_max, zI_min, zI_abs, bnd_ok, bnd_ex, lm_eq, li_eq, grd_inb, grd_ser, grd_z, grd_lt, if_true, if_false, if_pos, if_neg, h.at, m_lowest_11 h, minF_self]
theorem m_highest_11 {M : Mm} {v n : Int} {a : Int → Int} (h : Mse M v n a) {t : Int} (ht : 0 ≤ t ∧ t < n) : ∀ (k : Nat) (s i : Int), -99 ≤ s ∧ s ≤ 99 → 0 ≤ i → i ≤ t + 1 → t + 1 - i < k → fn_Mo_highest_11 (zI v) (zI t) k (zI s) (zI i) M = some (.inl (zI (maxF a i (t + 1) s)), M) := by
  have hv := h.s
  have hn := h.n
  intro k
  induction k with
  | zero => intros; omega
  | succ k ih =>
    intro s i hs h0 h1 h2
    have b1 := h.b i
    rw [fn_Mo_highest_11]
    by_cases c : t < i
    · simp (disch := omega) only [zlit, zI_add, zI_sub, zI_mul, zI_neg, zI_lt, zI_le, zI_eq, zI_cl, zI_max, zI_min, zI_abs, bnd_ok, bnd_ex, lm_eq, li_eq, grd_inb, grd_ser, grd_z, grd_lt, if_true, if_false, if_pos, if_neg, maxF, lp_stop]
    · simp (disch := omega) only [zlit, zI_add, zI_sub, zI_mul, zI_neg, zI_lt, zI_le, zI_eq, zI_cl, zI_max, zI_min, zI_abs, bnd_ok, bnd_ex, lm_eq, li_eq, grd_inb, grd_ser, grd_z, grd_lt, if_true, if_false, if_pos, if_neg, h.at, mo_more, ih, maxF, lp_step]
theorem Mse.highest {M : Mm} {v n : Int} {a : Int → Int} (h : Mse M v n a) {f t : Int} (hf : 0 ≤ f) (hft : f ≤ t) (ht : t < n) : fn_Mo_highest (zI v) (zI f) (zI t) M = some (.inl (zI (maxF a (f + 1) (t + 1) (a f))), M) := by
  have hv := h.s
  have hn := h.n
  have b1 := h.b f
  unfold fn_Mo_highest fuel0
  simp (disch := omega) only [zlit, zI_add, zI_sub, zI_mul, zI_neg, zI_lt, zI_le, zI_eq, zI_cl, zI_max, zI_min, zI_abs, bnd_ok, bnd_ex, lm_eq, li_eq, grd_inb, grd_ser, grd_z, grd_lt, if_true, if_false, if_pos, if_neg, h.at, m_highest_11 h, maxF_self]
theorem m_countAbove_18 {M : Mm} {v n : Int} {a : Int → Int} (h : Mse M v n a) {t : Int} (ht : -2147483648 ≤ t ∧ t < 2147483648) : ∀ (k : Nat) (s i : Int), 0 ≤ i → i ≤ n → n - i < k → fn_Mo_countAbove_18 (zI v) (zI t) k (zI s) (zI i) M = some (.inl (zI (cntF (fun x => decide (t < a x)) i n s)), M) := by
  have hv := h.s
  have hn := h.n
  intro k
  induction k with
  | zero => intros; omega
  | succ k ih =>
    intro s i h0 h1 h2
    have b1 := h.b i
    rw [fn_Mo_countAbove_18]
    by_cases c : n ≤ i
    · simp (disch := omega) only [zlit, zI_add, zI_sub, zI_mul, zI_neg, zI_lt, zI_le, zI_eq, zI_cl, zI_max, zI_min, zI_abs, bnd_ok, bnd_ex, lm_eq, li_eq, grd_inb, grd_ser, grd_z, grd_lt, if_true, if_false, if_pos, if_neg, h.many, cd_stop]
    · by_cases c2 : t < a i
      · simp (disch := omega) only [zlit, zI_add, zI_sub, zI_mul, zI_neg, zI_lt, zI_le, zI_eq, zI_cl, zI_max, zI_min, zI_abs, bnd_ok, bnd_ex, lm_eq, li_eq, grd_inb, grd_ser, grd_z, grd_lt, if_true, if_false, if_pos, if_neg, h.many, h.at, fn_Mo_countAbove_45]
        simp (disch := omega) only [ih, cd_y, cd_n]
      · simp (disch := omega) only [zlit, zI_add, zI_sub, zI_mul, zI_neg, zI_lt, zI_le, zI_eq, zI_cl, zI_max, zI_min, zI_abs, bnd_ok, bnd_ex, lm_eq, li_eq, grd_inb, grd_ser, grd_z, grd_lt, if_true, if_false, if_pos, if_neg, h.many, h.at, fn_Mo_countAbove_45]
        simp (disch := omega) only [ih, cd_y, cd_n]
theorem m_valueByRank_61 {M : Mm} {v n : Int} {a : Int → Int} (h : Mse M v n a) {t r : Int} (ht : 0 ≤ t ∧ t < n) (k46 : Int32 → Mm → Rs Int32) : ∀ (k : Nat) (s i : Int), 0 ≤ i → i ≤ n → n - i < k → fn_Mo_valueByRank_61 k46 (zI v) (zI r) (zI t) k (zI s) (zI i) M = fn_Mo_valueByRank_125 k46 (zI v) (zI r) (zI t) (zI (cntF (fun x => decide (a x < a t ∨ (a x = a t ∧ x < t))) i n s)) M := by
  have hv := h.s
  have hn := h.n
  have b2 := h.b t
  intro k
  induction k with
  | zero => intros; omega
  | succ k ih =>
    intro s i h0 h1 h2
    have b1 := h.b i
    rw [fn_Mo_valueByRank_61]
    by_cases c : n ≤ i
    · simp (disch := omega) only [zlit, zI_add, zI_sub, zI_mul, zI_neg, zI_lt, zI_le, zI_eq, zI_cl, zI_max, zI_min, zI_abs, bnd_ok, bnd_ex, lm_eq, li_eq, grd_inb, grd_ser, grd_z, grd_lt, if_true, if_false, if_pos, if_neg, h.many, cd_stop]
    · by_cases c2 : a i < a t
      · simp (disch := omega) only [zlit, zI_add, zI_sub, zI_mul, zI_neg, zI_lt, zI_le, zI_eq, zI_cl, zI_max, zI_min, zI_abs, bnd_ok, bnd_ex, lm_eq, li_eq, grd_inb, grd_ser, grd_z, grd_lt, if_true, if_false, if_pos, if_neg, h.many, h.at, fn_Mo_valueByRank_111, fn_Mo_valueByRank_115, fn_Mo_valueByRank_116]
        simp (disch := omega) only [ih, cd_y, cd_n]
      · by_cases c3 : a i = a t
        · by_cases c4 : i < t
          · simp (disch := omega) only [zlit, zI_add, zI_sub, zI_mul, zI_neg, zI_lt, zI_le, zI_eq, zI_cl, zI_max, zI_min, zI_abs, bnd_ok, bnd_ex, lm_eq, li_eq, grd_inb, grd_ser, grd_z, grd_lt, if_true, if_false, if_pos, if_neg, h.many, h.at, fn_Mo_valueByRank_111, fn_Mo_valueByRank_115, fn_Mo_valueByRank_116]
            simp (disch := omega) only [ih, cd_y, cd_n]
          · simp (disch := omega) only [zlit, zI_add, zI_sub, zI_mul, zI_neg, zI_lt, zI_le, zI_eq, zI_cl, zI_max, zI_min, zI_abs, bnd_ok, bnd_ex, lm_eq, li_eq, grd_inb, grd_ser, grd_z, grd_lt, if_true, if_false, if_pos, if_neg, h.many, h.at, fn_Mo_valueByRank_111, fn_Mo_valueByRank_115, fn_Mo_valueByRank_116]
            simp (disch := omega) only [ih, cd_y, cd_n]
        · simp (disch := omega) only [zlit, zI_add, zI_sub, zI_mul, zI_neg, zI_lt, zI_le, zI_eq, zI_cl, zI_max, zI_min, zI_abs, bnd_ok, bnd_ex, lm_eq, li_eq, grd_inb, grd_ser, grd_z, grd_lt, if_true, if_false, if_pos, if_neg, h.many, h.at, fn_Mo_valueByRank_111, fn_Mo_valueByRank_115, fn_Mo_valueByRank_116]
          simp (disch := omega) only [ih, cd_y, cd_n]
/-- the value of a rank; 0 if there is none -/
def vrkF (a : Int → Int) (n r i : Int) : Int := if fs (fun x => decide (rnkF a n x = r)) i n = -1 then 0 else a (fs (fun x => decide (rnkF a n x = r)) i n)
theorem m_valueByRank_46 {M : Mm} {v n : Int} {a : Int → Int} (h : Mse M v n a) {r : Int} (hr : 0 ≤ r ∧ r < n) : ∀ (k : Nat) (i : Int), 0 ≤ i → i ≤ n → n - i < k → fn_Mo_valueByRank_46 (zI v) (zI r) k (zI i) M = some (.inl (zI (vrkF a n r i)), M) := by
  have hv := h.s
  have hn := h.n
  intro k
  induction k with
  | zero => intros; omega
  | succ k ih =>
    intro i h0 h1 h2
    have b1 := h.b i
    have b2 := rnkF_b (a := a) (i := i) hn.1
    rw [fn_Mo_valueByRank_46]
    by_cases c : n ≤ i
    · unfold vrkF
      simp (disch := omega) only [zlit, zI_add, zI_sub, zI_mul, zI_neg, zI_lt, zI_le, zI_eq, zI_cl, zI_max, zI_min, zI_abs, bnd_ok, bnd_ex, lm_eq, li_eq, grd_inb, grd_ser, grd_z, grd_lt, if_true, if_false, if_pos, if_neg, h.many, fd_stop]
    · unfold fuel0
      simp (disch := omega) only [zlit, zI_add, zI_sub, zI_mul, zI_neg, zI_lt, zI_le, zI_eq, zI_cl, zI_max, zI_min, zI_abs, bnd_ok, bnd_ex, lm_eq, li_eq, grd_inb, grd_ser, grd_z, grd_lt, if_true, if_false, if_pos, if_neg, h.many]
      rw [m_valueByRank_61 h ⟨h0, by omega⟩ _ 2000 0 0 (by omega) (by omega) (by omega)]
      show fn_Mo_valueByRank_125 _ _ _ _ (zI (rnkF a n i)) M = _
      unfold fn_Mo_valueByRank_125
      by_cases c2 : rnkF a n i = r
      · unfold vrkF
        simp (disch := omega) only [zlit, zI_add, zI_sub, zI_mul, zI_neg, zI_lt, zI_le, zI_eq, zI_cl, zI_max, zI_min, zI_abs, bnd_ok, bnd_ex, lm_eq, li_eq, grd_inb, grd_ser, grd_z, grd_lt, if_true, if_false, if_pos, if_neg, h.at, fn_Mo_valueByRank_131, fd_hit]
      · simp (disch := omega) only [zlit, zI_add, zI_sub, zI_mul, zI_neg, zI_lt, zI_le, zI_eq, zI_cl, zI_max, zI_min, zI_abs, bnd_ok, bnd_ex, lm_eq, li_eq, grd_inb, grd_ser, grd_z, grd_lt, if_true, if_false, if_pos, if_neg]
        rw [ih (i + 1) (by omega) (by omega) (by omega)]
        unfold vrkF
        simp (disch := omega) only [fd_miss]
