/-! THE CLASS'S SERIES, read: n numbers a 0 .. a (n-1) at the location v -/
def Ser (M : Mm) (v : Nat) (n : Int) (a : Int → Int) : Prop := (2 ≤ v ∧ v ≤ 6) ∧ (0 ≤ n ∧ n ≤ 20) ∧ M v 1 = zI n ∧ (∀ i, 0 ≤ i → i < n → M (v + 5) i.toNat = zI (a i)) ∧ ∀ i, -99 ≤ a i ∧ a i ≤ 99
theorem Ser.v {M : Mm} {v : Nat} {n : Int} {a : Int → Int} (h : Ser M v n a) : 2 ≤ v ∧ v ≤ 6 := h.1
theorem Ser.n {M : Mm} {v : Nat} {n : Int} {a : Int → Int} (h : Ser M v n a) : 0 ≤ n ∧ n ≤ 20 := h.2.1
theorem Ser.c {M : Mm} {v : Nat} {n : Int} {a : Int → Int} (h : Ser M v n a) : M v 1 = zI n := h.2.2.1
theorem Ser.e {M : Mm} {v : Nat} {n : Int} {a : Int → Int} (h : Ser M v n a) : ∀ i, 0 ≤ i → i < n → M (v + 5) i.toNat = zI (a i) := h.2.2.2.1
theorem Ser.b {M : Mm} {v : Nat} {n : Int} {a : Int → Int} (h : Ser M v n a) : ∀ i, -99 ≤ a i ∧ a i ≤ 99 := h.2.2.2.2
/-- a row that isn't the series' own may change -/
theorem Ser.row {M : Mm} {v : Nat} {n : Int} {a : Int → Int} (h : Ser M v n a) {k : Nat} (hk : k ≠ v ∧ k ≠ v + 5) (g : Nat → Int32) : Ser (mrow M k g) v n a := by
  refine ⟨h.v, h.n, ?_, fun i h0 h1 => ?_, h.b⟩
  · rw [mrow_ne M g (Ne.symm hk.1)]
    exact h.c
  · rw [mrow_ne M g (Ne.symm hk.2)]
    exact h.e i h0 h1
theorem Ser.to {M M' : Mm} {v : Nat} {n : Int} {a : Int → Int} (h : Ser M v n a) (h1 : M' v = M v) (h2 : M' (v + 5) = M (v + 5)) : Ser M' v n a := by
  refine ⟨h.v, h.n, ?_, fun i h0 hi => ?_, h.b⟩
  · rw [h1]
    exact h.c
  · rw [h2]
    exact h.e i h0 hi
theorem Ser.congr {M : Mm} {v : Nat} {n : Int} {a b : Int → Int} (h : Ser M v n a) (he : ∀ i, 0 ≤ i → i < n → a i = b i) (hb : ∀ i, -99 ≤ b i ∧ b i ≤ 99) : Ser M v n b :=
  ⟨h.v, h.n, h.c, fun i h0 h1 => by rw [h.e i h0 h1, he i h0 h1], hb⟩
theorem Ser.at {M : Mm} {v : Nat} {n : Int} {a : Int → Int} (h : Ser M v n a) {i : Int} (h0 : 0 ≤ i) (h1 : i < n) : fn_Se_at v (zI i) M = some (.inl (zI (a i)), M) := by
  have hv := h.v
  have hn := h.n
  have e := h.e i h0 h1
  unfold fn_Se_at
  simp (disch := omega) only [zlit, zI_add, zI_sub, zI_mul, zI_neg, zI_lt, zI_le, zI_eq, zI_cl, zI_max, zI_min, zI_abs, bnd_ok, bnd_ex, lm_eq, li_eq, grd_inb, grd_ser, grd_z, grd_lt, if_true, if_false, if_pos, if_neg, e]
theorem se_at_neg {M : Mm} {v : Nat} (hv : 2 ≤ v ∧ v ≤ 6) {i : Int} (h0 : -2147483648 ≤ i ∧ i < 0) : fn_Se_at v (zI i) M = some (.inl (zI 0), M) := by
  unfold fn_Se_at
  simp (disch := omega) only [zlit, zI_add, zI_sub, zI_mul, zI_neg, zI_lt, zI_le, zI_eq, zI_cl, zI_max, zI_min, zI_abs, bnd_ok, bnd_ex, lm_eq, li_eq, grd_inb, grd_ser, grd_z, grd_lt, if_true, if_false, if_pos, if_neg]
theorem Ser.size {M : Mm} {v : Nat} {n : Int} {a : Int → Int} (h : Ser M v n a) : fn_Se_size v M = some (.inl (zI n), M) := by
  have hv := h.v
  unfold fn_Se_size
  simp (disch := omega) only [zlit, zI_add, zI_sub, zI_mul, zI_neg, zI_lt, zI_le, zI_eq, zI_cl, zI_max, zI_min, zI_abs, bnd_ok, bnd_ex, lm_eq, li_eq, grd_inb, grd_ser, grd_z, grd_lt, if_true, if_false, if_pos, if_neg, h.c]
theorem Ser.has {M : Mm} {v : Nat} {n : Int} {a : Int → Int} (h : Ser M v n a) {i : Int} (h0 : 0 ≤ i) (h1 : i < n) : fn_Se_has v (zI i) M = some (.inl (zI 1), M) := by
  have hv := h.v
  have hn := h.n
  unfold fn_Se_has
  simp (disch := omega) only [zlit, zI_add, zI_sub, zI_mul, zI_neg, zI_lt, zI_le, zI_eq, zI_cl, zI_max, zI_min, zI_abs, bnd_ok, bnd_ex, lm_eq, li_eq, grd_inb, grd_ser, grd_z, grd_lt, if_true, if_false, if_pos, if_neg, h.c]
theorem Ser.hasn {M : Mm} {v : Nat} {n : Int} {a : Int → Int} (h : Ser M v n a) {i : Int} (hr : -2147483648 ≤ i ∧ i < 2147483648) (h1 : i < 0 ∨ n ≤ i) : fn_Se_has v (zI i) M = some (.inl (zI 0), M) := by
  have hv := h.v
  have hn := h.n
  unfold fn_Se_has
  by_cases c : i < 0
  · simp (disch := omega) only [zlit, zI_add, zI_sub, zI_mul, zI_neg, zI_lt, zI_le, zI_eq, zI_cl, zI_max, zI_min, zI_abs, bnd_ok, bnd_ex, lm_eq, li_eq, grd_inb, grd_ser, grd_z, grd_lt, if_true, if_false, if_pos, if_neg]
  · simp (disch := omega) only [zlit, zI_add, zI_sub, zI_mul, zI_neg, zI_lt, zI_le, zI_eq, zI_cl, zI_max, zI_min, zI_abs, bnd_ok, bnd_ex, lm_eq, li_eq, grd_inb, grd_ser, grd_z, grd_lt, if_true, if_false, if_pos, if_neg, h.c]
theorem Ser.emp {M : Mm} {v : Nat} {n : Int} {a : Int → Int} (h : Ser M v n a) : fn_Se_isEmpty v M = some (.inl (zI (if n = 0 then 1 else 0)), M) := by
  have hv := h.v
  have hn := h.n
  unfold fn_Se_isEmpty
  by_cases c : n = 0
  · simp (disch := omega) only [zlit, zI_add, zI_sub, zI_mul, zI_neg, zI_lt, zI_le, zI_eq, zI_cl, zI_max, zI_min, zI_abs, bnd_ok, bnd_ex, lm_eq, li_eq, grd_inb, grd_ser, grd_z, grd_lt, if_true, if_false, if_pos, if_neg, h.c]
  · simp (disch := omega) only [zlit, zI_add, zI_sub, zI_mul, zI_neg, zI_lt, zI_le, zI_eq, zI_cl, zI_max, zI_min, zI_abs, bnd_ok, bnd_ex, lm_eq, li_eq, grd_inb, grd_ser, grd_z, grd_lt, if_true, if_false, if_pos, if_neg, h.c]
theorem Ser.full {M : Mm} {v : Nat} {n : Int} {a : Int → Int} (h : Ser M v n a) : fn_Se_isFull v M = some (.inl (zI (if n = 20 then 1 else 0)), M) := by
  have hv := h.v
  have hn := h.n
  unfold fn_Se_isFull
  by_cases c : n = 20
  · simp (disch := omega) only [zlit, zI_add, zI_sub, zI_mul, zI_neg, zI_lt, zI_le, zI_eq, zI_cl, zI_max, zI_min, zI_abs, bnd_ok, bnd_ex, lm_eq, li_eq, grd_inb, grd_ser, grd_z, grd_lt, if_true, if_false, if_pos, if_neg, h.c]
  · simp (disch := omega) only [zlit, zI_add, zI_sub, zI_mul, zI_neg, zI_lt, zI_le, zI_eq, zI_cl, zI_max, zI_min, zI_abs, bnd_ok, bnd_ex, lm_eq, li_eq, grd_inb, grd_ser, grd_z, grd_lt, if_true, if_false, if_pos, if_neg, h.c]
/-! the numbers that both sides speak of -/
def sumF (a : Int → Int) (i j s : Int) : Int := lp (fun x s => s + a x) i j s
def minF (a : Int → Int) (i j m : Int) : Int := lp (fun x m => min m (a x)) i j m
def maxF (a : Int → Int) (i j m : Int) : Int := lp (fun x m => max m (a x)) i j m
def rnkF (a : Int → Int) (n i : Int) : Int := cntF (fun x => decide (a x < a i ∨ (a x = a i ∧ x < i))) 0 n 0
theorem minF_b {a : Int → Int} (hb : ∀ i, -99 ≤ a i ∧ a i ≤ 99) {i j m : Int} (hij : i ≤ j) (hm : -99 ≤ m ∧ m ≤ 99) : -99 ≤ minF a i j m ∧ minF a i j m ≤ 99 :=
  lp_inv (fun _ m => -99 ≤ m ∧ m ≤ 99) hij hm (fun x m _ _ h => by have := hb x; show -99 ≤ min m (a x) ∧ min m (a x) ≤ 99; omega)
theorem maxF_b {a : Int → Int} (hb : ∀ i, -99 ≤ a i ∧ a i ≤ 99) {i j m : Int} (hij : i ≤ j) (hm : -99 ≤ m ∧ m ≤ 99) : -99 ≤ maxF a i j m ∧ maxF a i j m ≤ 99 :=
  lp_inv (fun _ m => -99 ≤ m ∧ m ≤ 99) hij hm (fun x m _ _ h => by have := hb x; show -99 ≤ max m (a x) ∧ max m (a x) ≤ 99; omega)
theorem sumF_b {a : Int → Int} (hb : ∀ i, -99 ≤ a i ∧ a i ≤ 99) {i j s : Int} (hij : i ≤ j) : s - 99 * (j - i) ≤ sumF a i j s ∧ sumF a i j s ≤ s + 99 * (j - i) := by
  have h := lp_inv (f := fun x s => s + a x) (fun y t => s - 99 * (y - i) ≤ t ∧ t ≤ s + 99 * (y - i)) hij (b := s) (by omega) (fun x t h1 h2 h => by
    have := hb x
    show s - 99 * (x + 1 - i) ≤ t + a x ∧ t + a x ≤ s + 99 * (x + 1 - i)
    omega)
  exact h
theorem cntF_b {p : Int → Bool} {i j s : Int} (hij : i ≤ j) : s ≤ cntF p i j s ∧ cntF p i j s ≤ s + (j - i) := by
  have h := lp_inv (f := fun x s => s + b01 (p x)) (fun y t => s ≤ t ∧ t ≤ s + (y - i)) hij (b := s) (by omega) (fun x t h1 h2 h => by
    have := b01_b (p x)
    show s ≤ t + b01 (p x) ∧ t + b01 (p x) ≤ s + (x + 1 - i)
    omega)
  exact h
theorem c_total_5 {M : Mm} {v : Nat} {n : Int} {a : Int → Int} (h : Ser M v n a) {t : Int} (ht : -1 ≤ t ∧ t < n) : ∀ (k : Nat) (s i : Int), 0 ≤ i → i ≤ t + 1 → t + 1 - i < k → fn_Se_total_5 v (zI t) k (zI s) (zI i) M = some (.inl (zI (sumF a i (t + 1) s)), M) := by
  have hv := h.v
  have hn := h.n
  intro k
  induction k with
  | zero => intros; omega
  | succ k ih =>
    intro s i h0 h1 h2
    rw [fn_Se_total_5]
    by_cases c : t < i
    · simp (disch := omega) only [zlit, zI_add, zI_sub, zI_mul, zI_neg, zI_lt, zI_le, zI_eq, zI_cl, zI_max, zI_min, zI_abs, bnd_ok, bnd_ex, lm_eq, li_eq, grd_inb, grd_ser, grd_z, grd_lt, if_true, if_false, if_pos, if_neg, sumF, lp_stop]
    · simp (disch := omega) only [zlit, zI_add, zI_sub, zI_mul, zI_neg, zI_lt, zI_le, zI_eq, zI_cl, zI_max, zI_min, zI_abs, bnd_ok, bnd_ex, lm_eq, li_eq, grd_inb, grd_ser, grd_z, grd_lt, if_true, if_false, if_pos, if_neg, h.at, ih, sumF, lp_step]
theorem Ser.total {M : Mm} {v : Nat} {n : Int} {a : Int → Int} (h : Ser M v n a) {f t : Int} (hf : 0 ≤ f) (hft : f ≤ t + 1) (ht : t < n) : fn_Se_total v (zI f) (zI t) M = some (.inl (zI (sumF a f (t + 1) 0)), M) := by
  have hv := h.v
  have hn := h.n
  unfold fn_Se_total fuel0
  simp (disch := omega) only [zlit, zI_add, zI_sub, zI_mul, zI_neg, zI_lt, zI_le, zI_eq, zI_cl, zI_max, zI_min, zI_abs, bnd_ok, bnd_ex, lm_eq, li_eq, grd_inb, grd_ser, grd_z, grd_lt, if_true, if_false, if_pos, if_neg, c_total_5 h]
theorem c_least_11 {M : Mm} {v : Nat} {n : Int} {a : Int → Int} (h : Ser M v n a) {t : Int} (ht : 0 ≤ t ∧ t < n) : ∀ (k : Nat) (s i : Int), -99 ≤ s ∧ s ≤ 99 → 0 ≤ i → i ≤ t + 1 → t + 1 - i < k → fn_Se_least_11 v (zI t) k (zI s) (zI i) M = some (.inl (zI (minF a i (t + 1) s)), M) := by
  have hv := h.v
  have hn := h.n
  intro k
  induction k with
  | zero => intros; omega
  | succ k ih =>
    intro s i hs h0 h1 h2
    have b1 := h.b i
    rw [fn_Se_least_11]
    by_cases c : t < i
    · simp (disch := omega) only [zlit, zI_add, zI_sub, zI_mul, zI_neg, zI_lt, zI_le, zI_eq, zI_cl, zI_max, zI_min, zI_abs, bnd_ok, bnd_ex, lm_eq, li_eq, grd_inb, grd_ser, grd_z, grd_lt, if_true, if_false, if_pos, if_neg, minF, lp_stop]
    · simp (disch := omega) only [zlit, zI_add, zI_sub, zI_mul, zI_neg, zI_lt, zI_le, zI_eq, zI_cl, zI_max, zI_min, zI_abs, bnd_ok, bnd_ex, lm_eq, li_eq, grd_inb, grd_ser, grd_z, grd_lt, if_true, if_false, if_pos, if_neg, h.at, ih, minF, lp_step]
theorem Ser.least {M : Mm} {v : Nat} {n : Int} {a : Int → Int} (h : Ser M v n a) {f t : Int} (hf : 0 ≤ f) (hft : f ≤ t) (ht : t < n) : fn_Se_least v (zI f) (zI t) M = some (.inl (zI (minF a (f + 1) (t + 1) (a f))), M) := by
  have hv := h.v
  have hn := h.n
  have b1 := h.b f
  unfold fn_Se_least fuel0
  simp (disch := omega) only [zlit, zI_add, zI_sub, zI_mul, zI_neg, zI_lt, zI_le, zI_eq, zI_cl, zI_max, zI_min, zI_abs, bnd_ok, bnd_ex, lm_eq, li_eq, grd_inb, grd_ser, grd_z, grd_lt, if_true, if_false, if_pos, if_neg, h.at, c_least_11 h]
theorem c_greatest_11 {M : Mm} {v : Nat} {n : Int} {a : Int → Int} (h : Ser M v n a) {t : Int} (ht : 0 ≤ t ∧ t < n) : ∀ (k : Nat) (s i : Int), -99 ≤ s ∧ s ≤ 99 → 0 ≤ i → i ≤ t + 1 → t + 1 - i < k → fn_Se_greatest_11 v (zI t) k (zI s) (zI i) M = some (.inl (zI (maxF a i (t + 1) s)), M) := by
  have hv := h.v
  have hn := h.n
  intro k
  induction k with
  | zero => intros; omega
  | succ k ih =>
    intro s i hs h0 h1 h2
    have b1 := h.b i
    rw [fn_Se_greatest_11]
    by_cases c : t < i
    · simp (disch := omega) only [zlit, zI_add, zI_sub, zI_mul, zI_neg, zI_lt, zI_le, zI_eq, zI_cl, zI_max, zI_min, zI_abs, bnd_ok, bnd_ex, lm_eq, li_eq, grd_inb, grd_ser, grd_z, grd_lt, if_true, if_false, if_pos, if_neg, maxF, lp_stop]
    · simp (disch := omega) only [zlit, zI_add, zI_sub, zI_mul, zI_neg, zI_lt, zI_le, zI_eq, zI_cl, zI_max, zI_min, zI_abs, bnd_ok, bnd_ex, lm_eq, li_eq, grd_inb, grd_ser, grd_z, grd_lt, if_true, if_false, if_pos, if_neg, h.at, ih, maxF, lp_step]
theorem Ser.greatest {M : Mm} {v : Nat} {n : Int} {a : Int → Int} (h : Ser M v n a) {f t : Int} (hf : 0 ≤ f) (hft : f ≤ t) (ht : t < n) : fn_Se_greatest v (zI f) (zI t) M = some (.inl (zI (maxF a (f + 1) (t + 1) (a f))), M) := by
  have hv := h.v
  have hn := h.n
  have b1 := h.b f
  unfold fn_Se_greatest fuel0
  simp (disch := omega) only [zlit, zI_add, zI_sub, zI_mul, zI_neg, zI_lt, zI_le, zI_eq, zI_cl, zI_max, zI_min, zI_abs, bnd_ok, bnd_ex, lm_eq, li_eq, grd_inb, grd_ser, grd_z, grd_lt, if_true, if_false, if_pos, if_neg, h.at, c_greatest_11 h]
theorem c_countOver_4 {M : Mm} {v : Nat} {n : Int} {a : Int → Int} (h : Ser M v n a) {t : Int} (ht : -2147483648 ≤ t ∧ t < 2147483648) : ∀ (k : Nat) (s i : Int), 0 ≤ i → i ≤ n → n - i < k → fn_Se_countOver_4 v (zI t) k (zI s) (zI i) M = some (.inl (zI (cntF (fun x => decide (t < a x)) i n s)), M) := by
  have hv := h.v
  have hn := h.n
  intro k
  induction k with
  | zero => intros; omega
  | succ k ih =>
    intro s i h0 h1 h2
    have b1 := h.b i
    rw [fn_Se_countOver_4]
    by_cases c : n ≤ i
    · simp (disch := omega) only [zlit, zI_add, zI_sub, zI_mul, zI_neg, zI_lt, zI_le, zI_eq, zI_cl, zI_max, zI_min, zI_abs, bnd_ok, bnd_ex, lm_eq, li_eq, grd_inb, grd_ser, grd_z, grd_lt, if_true, if_false, if_pos, if_neg, h.c, cd_stop]
    · by_cases c2 : t < a i
      · simp (disch := omega) only [zlit, zI_add, zI_sub, zI_mul, zI_neg, zI_lt, zI_le, zI_eq, zI_cl, zI_max, zI_min, zI_abs, bnd_ok, bnd_ex, lm_eq, li_eq, grd_inb, grd_ser, grd_z, grd_lt, if_true, if_false, if_pos, if_neg, h.c, h.at, fn_Se_countOver_27]
        simp (disch := omega) only [ih, cd_y, cd_n]
      · simp (disch := omega) only [zlit, zI_add, zI_sub, zI_mul, zI_neg, zI_lt, zI_le, zI_eq, zI_cl, zI_max, zI_min, zI_abs, bnd_ok, bnd_ex, lm_eq, li_eq, grd_inb, grd_ser, grd_z, grd_lt, if_true, if_false, if_pos, if_neg, h.c, h.at, fn_Se_countOver_27]
        simp (disch := omega) only [ih, cd_y, cd_n]
theorem Ser.countOver {M : Mm} {v : Nat} {n : Int} {a : Int → Int} (h : Ser M v n a) {t : Int} (ht : -2147483648 ≤ t ∧ t < 2147483648) : fn_Se_countOver v (zI t) M = some (.inl (zI (cntF (fun x => decide (t < a x)) 0 n 0)), M) := by
  have hv := h.v
  have hn := h.n
  unfold fn_Se_countOver fuel0
  simp (disch := omega) only [zlit, zI_add, zI_sub, zI_mul, zI_neg, zI_lt, zI_le, zI_eq, zI_cl, zI_max, zI_min, zI_abs, bnd_ok, bnd_ex, lm_eq, li_eq, grd_inb, grd_ser, grd_z, grd_lt, if_true, if_false, if_pos, if_neg, c_countOver_4 h]
theorem c_rankOf_4 {M : Mm} {v : Nat} {n : Int} {a : Int → Int} (h : Ser M v n a) {t : Int} (ht : 0 ≤ t ∧ t < n) : ∀ (k : Nat) (s i : Int), 0 ≤ i → i ≤ n → n - i < k → fn_Se_rankOf_4 v (zI t) k (zI s) (zI i) M = some (.inl (zI (cntF (fun x => decide (a x < a t ∨ (a x = a t ∧ x < t))) i n s)), M) := by
  have hv := h.v
  have hn := h.n
  have b2 := h.b t
  intro k
  induction k with
  | zero => intros; omega
  | succ k ih =>
    intro s i h0 h1 h2
    have b1 := h.b i
    rw [fn_Se_rankOf_4]
    by_cases c : n ≤ i
    · simp (disch := omega) only [zlit, zI_add, zI_sub, zI_mul, zI_neg, zI_lt, zI_le, zI_eq, zI_cl, zI_max, zI_min, zI_abs, bnd_ok, bnd_ex, lm_eq, li_eq, grd_inb, grd_ser, grd_z, grd_lt, if_true, if_false, if_pos, if_neg, h.c, cd_stop]
    · by_cases c2 : a i < a t
      · simp (disch := omega) only [zlit, zI_add, zI_sub, zI_mul, zI_neg, zI_lt, zI_le, zI_eq, zI_cl, zI_max, zI_min, zI_abs, bnd_ok, bnd_ex, lm_eq, li_eq, grd_inb, grd_ser, grd_z, grd_lt, if_true, if_false, if_pos, if_neg, h.c, h.at, fn_Se_rankOf_43, fn_Se_rankOf_48, fn_Se_rankOf_61]
        simp (disch := omega) only [ih, cd_y, cd_n]
      · by_cases c3 : a i = a t
        · by_cases c4 : i < t
          · simp (disch := omega) only [zlit, zI_add, zI_sub, zI_mul, zI_neg, zI_lt, zI_le, zI_eq, zI_cl, zI_max, zI_min, zI_abs, bnd_ok, bnd_ex, lm_eq, li_eq, grd_inb, grd_ser, grd_z, grd_lt, if_true, if_false, if_pos, if_neg, h.c, h.at, fn_Se_rankOf_43, fn_Se_rankOf_47, fn_Se_rankOf_48, fn_Se_rankOf_61]
            simp (disch := omega) only [ih, cd_y, cd_n]
          · simp (disch := omega) only [zlit, zI_add, zI_sub, zI_mul, zI_neg, zI_lt, zI_le, zI_eq, zI_cl, zI_max, zI_min, zI_abs, bnd_ok, bnd_ex, lm_eq, li_eq, grd_inb, grd_ser, grd_z, grd_lt, if_true, if_false, if_pos, if_neg, h.c, h.at, fn_Se_rankOf_43, fn_Se_rankOf_47, fn_Se_rankOf_48, fn_Se_rankOf_61]
            simp (disch := omega) only [ih, cd_y, cd_n]
        · simp (disch := omega) only [zlit, zI_add, zI_sub, zI_mul, zI_neg, zI_lt, zI_le, zI_eq, zI_cl, zI_max, zI_min, zI_abs, bnd_ok, bnd_ex, lm_eq, li_eq, grd_inb, grd_ser, grd_z, grd_lt, if_true, if_false, if_pos, if_neg, h.c, h.at, fn_Se_rankOf_43, fn_Se_rankOf_47, fn_Se_rankOf_48, fn_Se_rankOf_61]
          simp (disch := omega) only [ih, cd_y, cd_n]
theorem rnkF_b {a : Int → Int} {n i : Int} (hn : 0 ≤ n) : 0 ≤ rnkF a n i ∧ rnkF a n i ≤ n := by
  have := cntF_b (p := fun x => decide (a x < a i ∨ (a x = a i ∧ x < i))) (i := 0) (j := n) (s := 0) hn
  unfold rnkF
  omega
theorem Ser.rank {M : Mm} {v : Nat} {n : Int} {a : Int → Int} (h : Ser M v n a) {t : Int} (ht : 0 ≤ t ∧ t < n) : fn_Se_rankOf v (zI t) M = some (.inl (zI (rnkF a n t)), M) := by
  have hv := h.v
  have hn := h.n
  unfold fn_Se_rankOf fuel0 rnkF
  simp (disch := omega) only [zlit, zI_add, zI_sub, zI_mul, zI_neg, zI_lt, zI_le, zI_eq, zI_cl, zI_max, zI_min, zI_abs, bnd_ok, bnd_ex, lm_eq, li_eq, grd_inb, grd_ser, grd_z, grd_lt, if_true, if_false, if_pos, if_neg, c_rankOf_4 h ht]
theorem c_indexOfRank_2 {M : Mm} {v : Nat} {n : Int} {a : Int → Int} (h : Ser M v n a) {r : Int} (hr : 0 ≤ r ∧ r < n) : ∀ (k : Nat) (i : Int), 0 ≤ i → i ≤ n → n - i < k → fn_Se_indexOfRank_2 v (zI r) k (zI i) M = some (.inl (zI (fs (fun x => decide (rnkF a n x = r)) i n)), M) := by
  have hv := h.v
  have hn := h.n
  intro k
  induction k with
  | zero => intros; omega
  | succ k ih =>
    intro i h0 h1 h2
    have b1 := rnkF_b (a := a) (i := i) hn.1
    rw [fn_Se_indexOfRank_2]
    by_cases c : n ≤ i
    · simp (disch := omega) only [zlit, zI_add, zI_sub, zI_mul, zI_neg, zI_lt, zI_le, zI_eq, zI_cl, zI_max, zI_min, zI_abs, bnd_ok, bnd_ex, lm_eq, li_eq, grd_inb, grd_ser, grd_z, grd_lt, if_true, if_false, if_pos, if_neg, h.c, fd_stop]
    · by_cases c2 : rnkF a n i = r
      · simp (disch := omega) only [zlit, zI_add, zI_sub, zI_mul, zI_neg, zI_lt, zI_le, zI_eq, zI_cl, zI_max, zI_min, zI_abs, bnd_ok, bnd_ex, lm_eq, li_eq, grd_inb, grd_ser, grd_z, grd_lt, if_true, if_false, if_pos, if_neg, h.c, h.rank, fd_hit]
      · simp (disch := omega) only [zlit, zI_add, zI_sub, zI_mul, zI_neg, zI_lt, zI_le, zI_eq, zI_cl, zI_max, zI_min, zI_abs, bnd_ok, bnd_ex, lm_eq, li_eq, grd_inb, grd_ser, grd_z, grd_lt, if_true, if_false, if_pos, if_neg, h.c, h.rank]
        simp (disch := omega) only [ih, fd_miss]
theorem Ser.ofRank {M : Mm} {v : Nat} {n : Int} {a : Int → Int} (h : Ser M v n a) {r : Int} (hr : 0 ≤ r ∧ r < n) : fn_Se_indexOfRank v (zI r) M = some (.inl (zI (fs (fun x => decide (rnkF a n x = r)) 0 n)), M) := by
  have hv := h.v
  have hn := h.n
  unfold fn_Se_indexOfRank fuel0
  simp (disch := omega) only [zlit, zI_add, zI_sub, zI_mul, zI_neg, zI_lt, zI_le, zI_eq, zI_cl, zI_max, zI_min, zI_abs, bnd_ok, bnd_ex, lm_eq, li_eq, grd_inb, grd_ser, grd_z, grd_lt, if_true, if_false, if_pos, if_neg, c_indexOfRank_2 h hr]
