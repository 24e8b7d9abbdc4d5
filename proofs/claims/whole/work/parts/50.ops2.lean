/-! THE CLASS'S SERIES, changed value by value -/
def puA (a f : Int → Int) (i : Int) : Int → Int := fun y => if 0 ≤ y ∧ y < i then f y else a y
theorem puA_next (a f : Int → Int) {i : Int} (h : 0 ≤ i) : upI (puA a f i) i (f i) = puA a f (i + 1) := by
  funext x
  show (if x = i then f i else if 0 ≤ x ∧ x < i then f x else a x) = if 0 ≤ x ∧ x < i + 1 then f x else a x
  by_cases e : x = i
  · rw [if_pos e, if_pos (by omega), e]
  · rw [if_neg e]
    by_cases e2 : 0 ≤ x ∧ x < i
    · rw [if_pos e2, if_pos (by omega)]
    · rw [if_neg e2, if_neg (by omega)]
theorem puA_at (a f : Int → Int) {i x : Int} (h : i ≤ x) : puA a f i x = a x := if_neg (by omega)
theorem puA_lt (a f : Int → Int) {i x : Int} (h0 : 0 ≤ x) (h : x < i) : puA a f i x = f x := if_pos ⟨h0, h⟩
theorem puA_0 (a f : Int → Int) : puA a f 0 = a := by
  funext x
  exact if_neg (by omega)
theorem puA_b {a f : Int → Int} {n : Int} (ha : ∀ i, -99 ≤ a i ∧ a i ≤ 99) (hf : ∀ i, 0 ≤ i → i < n → -99 ≤ f i ∧ f i ≤ 99) : ∀ i, -99 ≤ puA a f n i ∧ puA a f n i ≤ 99 := by
  intro i
  unfold puA
  by_cases e : 0 ≤ i ∧ i < n
  · rw [if_pos e]; exact hf i e.1 e.2
  · rw [if_neg e]; exact ha i
/-- how many of the first n differ -/
def chF (a f : Int → Int) (i n s : Int) : Int := cntF (fun k => decide (¬ a k = f k)) i n s
theorem Ser.turn {M : Mm} {v : Nat} {n : Int} {a : Int → Int} (h : Ser M v n a) : ∃ M1, fn_Se_turn v M = some (.inl (zI (tn2 a n 2000 0 0)), M1) ∧ Ser M1 v n (fun x => a (n - 1 - x)) ∧ FvS v M M1 := by
  have hv := h.v
  have hn := h.n
  have h' : Ser M v n (rvA a n 0) := h.congr (fun x x1 x2 => (if_neg (by omega)).symm) (fun x => by
    have := h.b x
    have := h.b (n - 1 - x)
    unfold rvA
    by_cases e : x < 0 ∨ n - 1 - 0 < x
    · rw [if_pos e]; omega
    · rw [if_neg e]; omega)
  obtain ⟨M1, e1, e2⟩ := c_turn_11 h.b 2000 0 0 M h' (by omega) (by omega) (by omega)
  refine ⟨M1, ?_, e2⟩
  unfold fn_Se_turn fuel0
  simp (disch := omega) only [zlit, zI_add, zI_sub, zI_mul, zI_neg, zI_lt, zI_le, zI_eq, zI_cl, zI_max, zI_min, zI_abs, bnd_ok, bnd_ex, lm_eq, li_eq, grd_inb, grd_ser, grd_z, grd_lt, if_true, if_false, if_pos, if_neg, h.c, e1]
theorem tn2_is {a : Int → Int} {n : Int} : ∀ (k : Nat) (i s : Int), 0 ≤ i → n - i < k → i ≤ n → tn2 a n k i s = s + cntF (fun k => decide (¬ a k = a (n - 1 - k))) i (n - i) 0 := by
  intro k
  induction k with
  | zero => intros; omega
  | succ k ih =>
    intro i s h0 h1 h2
    unfold tn2
    by_cases c : i < n - 1 - i
    · rw [if_pos c, ih (i + 1) _ (by omega) (by omega) (by omega)]
      have e1 : cntF (fun k => decide (¬ a k = a (n - 1 - k))) i (n - i) 0 = cntF (fun k => decide (¬ a k = a (n - 1 - k))) i (n - i - 1) 0 + b01 (decide (¬ a (n - i - 1) = a (n - 1 - (n - i - 1)))) := by
        have := cntF_end (p := fun k => decide (¬ a k = a (n - 1 - k))) (i := i) (j := n - i - 1) (s := 0) (by omega)
        rw [Int.sub_add_cancel] at this
        exact this
      rw [e1, show n - 1 - (n - i - 1) = i by omega, show n - i - 1 = n - (i + 1) by omega]
      by_cases c2 : a (n - 1 - i) = a i
      · rw [if_pos c2, cd_n (q := fun k => ¬ a k = a (n - 1 - k)) (i := i) (by omega) (fun z => z c2.symm), b01_n (fun z => z (by rw [show n - (i + 1) = n - 1 - i by omega]; exact c2)), show (0 : Int) + 0 = 0 from rfl]
        omega
      · rw [if_neg c2, cd_y (q := fun k => ¬ a k = a (n - 1 - k)) (i := i) (by omega) (fun z => c2 z.symm), b01_y (fun z => c2 (by rw [show n - 1 - i = n - (i + 1) by omega]; exact z))]
        have e2 := cntF_acc (p := fun k => decide (¬ a k = a (n - 1 - k))) (j := n - (i + 1)) _ (i + 1) (0 + 1) rfl
        omega
    · rw [if_neg c]
      by_cases c2 : i < n - i
      · -- one value in the middle
        rw [cd_n (q := fun k => ¬ a k = a (n - 1 - k)) (i := i) c2 (fun z => z (by rw [show n - 1 - i = i by omega])), cd_stop (by omega)]
        omega
      · rw [cd_stop (by omega)]
        omega
theorem tn2_ch {a : Int → Int} {n : Int} (h0 : 0 ≤ n) (hn : n ≤ 20) : tn2 a n 2000 0 0 = chF a (fun x => a (n - 1 - x)) 0 n 0 := by
  rw [tn2_is 2000 0 0 (by omega) (by omega) h0, Int.sub_zero]
  show 0 + chF a (fun x => a (n - 1 - x)) 0 n 0 = _
  omega
/-! shifted -/
theorem c_rise_2 {v : Nat} {n x : Int} {a : Int → Int} (ha : ∀ i, -99 ≤ a i ∧ a i ≤ 99) (hx : ∀ i, 0 ≤ i → i < n → -99 ≤ a i + x ∧ a i + x ≤ 99) : ∀ (k : Nat) (i : Int) (M : Mm), Ser M v n (puA a (fun y => a y + x) i) → 0 ≤ i → i ≤ n → n - i < k → ∃ M1, fn_Se_rise_2 v (zI x) k (zI i) M = some (.inl (zI (sumF (puA a (fun y => a y + x) n) 0 n 0)), M1) ∧ Ser M1 v n (puA a (fun y => a y + x) n) ∧ FvS v M M1 := by
  intro k
  induction k with
  | zero => intros; omega
  | succ k ih =>
    intro i M h h0 h1 h2
    have hv := h.v
    have hn := h.n
    rw [fn_Se_rise_2]
    by_cases c : n ≤ i
    · have e : i = n := by omega
      rw [e] at h
      have et := h.total (f := 0) (t := n - 1) (by omega) (by omega) (by omega)
      rw [Int.sub_add_cancel] at et
      refine ⟨M, ?_, h, FvS.rf v M⟩
      simp (disch := omega) only [zlit, zI_add, zI_sub, zI_mul, zI_neg, zI_lt, zI_le, zI_eq, zI_cl, zI_max, zI_min, zI_abs, bnd_ok, bnd_ex, lm_eq, li_eq, grd_inb, grd_ser, grd_z, grd_lt, if_true, if_false, if_pos, if_neg, h.c, fn_Se_rise_28, et]
    · have e : puA a (fun y => a y + x) i i = a i := puA_at a _ (by omega)
      have hp := h.put (j := i) (x := a i + x) (by omega) (hx i h0 (by omega))
      rw [show a i + x = (fun y => a y + x) i from rfl, puA_next a _ h0] at hp
      obtain ⟨M1, e1, e2, e3⟩ := ih (i + 1) _ hp (by omega) (by omega) (by omega)
      refine ⟨M1, ?_, e2, (FvS.put v M _ _).tr e3⟩
      simp (disch := omega) only [zlit, zI_add, zI_sub, zI_mul, zI_neg, zI_lt, zI_le, zI_eq, zI_cl, zI_max, zI_min, zI_abs, bnd_ok, bnd_ex, lm_eq, li_eq, grd_inb, grd_ser, grd_z, grd_lt, if_true, if_false, if_pos, if_neg, h.c, h.at, e, ser_put hv, e1]
theorem Ser.rise {M : Mm} {v : Nat} {n : Int} {a : Int → Int} (h : Ser M v n a) {x : Int} (hx : ∀ i, 0 ≤ i → i < n → -99 ≤ a i + x ∧ a i + x ≤ 99) : ∃ M1, fn_Se_rise v (zI x) M = some (.inl (zI (sumF (puA a (fun y => a y + x) n) 0 n 0)), M1) ∧ Ser M1 v n (puA a (fun y => a y + x) n) ∧ FvS v M M1 := by
  have hv := h.v
  have hn := h.n
  obtain ⟨M1, e1, e2⟩ := c_rise_2 h.b hx 2000 0 M (by rw [puA_0]; exact h) (by omega) (by omega) (by omega)
  refine ⟨M1, ?_, e2⟩
  unfold fn_Se_rise fuel0
  simp (disch := omega) only [zlit, zI_add, zI_sub, zI_mul, zI_neg, zI_lt, zI_le, zI_eq, zI_cl, zI_max, zI_min, zI_abs, bnd_ok, bnd_ex, lm_eq, li_eq, grd_inb, grd_ser, grd_z, grd_lt, if_true, if_false, if_pos, if_neg, e1]
/-! floors -/
theorem ediv_is {s m q r : Int} (hm : 0 < m) (h : s = m * q + r) (h0 : 0 ≤ r) (h1 : r < m) : s / m = q := ((Int.ediv_emod_unique hm).mpr ⟨by omega, h0, h1⟩).1
theorem sgn_xor {s m : Int} (hs : -2147483648 ≤ s ∧ s < 2147483648) (hm : 0 ≤ m ∧ m < 2147483648) : (0 ≤ zI s ^^^ zI m) = (0 ≤ s) := by
  have e1 : ∀ x : Int32, (0 ≤ x) = (x.toBitVec.msb = false) := fun x => by
    rw [Int32.le_iff_toInt_le]
    show (0 ≤ x.toBitVec.toInt) = _
    apply propext
    refine ⟨fun h => ?_, fun h => BitVec.toInt_nonneg_of_msb_false h⟩
    cases hb : x.toBitVec.msb with
    | false => rfl
    | true =>
      rw [BitVec.msb_eq_toInt, decide_eq_true_eq] at hb
      omega
  have hmf : (zI m).toBitVec.msb = false := by
    rw [← e1 (zI m), zI_zero, zI_le (by omega) (by omega)]
    exact hm.1
  have h2 : (0 ≤ zI s) = (0 ≤ s) := by rw [zI_zero, zI_le (by omega) hs]
  rw [e1, Int32.toBitVec_xor, BitVec.msb_xor, hmf, Bool.xor_false, ← e1, h2]
theorem tdiv_neg_is {s m : Int} (hm : 0 < m) (hs : s < 0) : s.tdiv m = -((-s) / m) := by
  have := Int.neg_tdiv (-s) m
  have e := Int.tdiv_eq_ediv_of_nonneg (b := m) (show 0 ≤ -s by omega)
  rw [Int.neg_neg, e] at this
  exact this
theorem fdiv_is {M : Mm} {s m : Int} (hs : -1000000 ≤ s ∧ s ≤ 1000000) (hm : 0 < m ∧ m ≤ 1000) : fn_Ma_floorDiv (zI s) (zI m) M = some (.inl (zI (s / m)), M) := by
  unfold fn_Ma_floorDiv
  rw [grd_t (by rw [zI_zero, zI_eq (by omega) (by omega)]; omega), zI_tdiv (by omega) (by omega)]
  rw [li_eq]
  simp only [sgn_xor (s := s) (m := m) (by omega) (by omega)]
  by_cases c : 0 ≤ s
  · rw [if_pos c, Int.tdiv_eq_ediv_of_nonneg c]
  · rw [if_neg c, tdiv_neg_is hm.1 (by omega)]
    have h1 := Int.mul_ediv_add_emod (-s) m
    have h2 := Int.emod_nonneg (-s) (show m ≠ 0 by omega)
    have h3 := Int.emod_lt_of_pos (-s) hm.1
    have h4 : (-s) / m ≤ -s := Int.ediv_le_self _ (by omega)
    have h5 : 0 ≤ (-s) / m := Int.ediv_nonneg (by omega) (by omega)
    generalize (-s) / m = Q at *
    generalize (-s) % m = R at *
    have hc : -Q * m = -(m * Q) := by rw [Int.neg_mul, Int.mul_comm]
    rw [zI_mul, hc]
    have hq : (zI (-(m * Q)) = zI s) = (R = 0) := by
      rw [zI_eq (by omega) (by omega)]
      apply propext
      omega
    simp only [hq]
    by_cases c2 : R = 0
    · rw [if_pos c2, ediv_is (q := -Q) (r := 0) hm.1 (by rw [Int.mul_neg]; omega) (by omega) (by omega)]
    · rw [if_neg c2, show (1 : Int32) = zI 1 from rfl, zI_sub, ediv_is (q := -Q - 1) (r := m - R) hm.1 (by rw [Int.mul_sub, Int.mul_neg]; omega) (by omega) (by omega)]
theorem mo_floor {M : Mm} {s m : Int} (hs : -1000000 ≤ s ∧ s ≤ 1000000) (hm : 0 < m ∧ m ≤ 1000) : fn_Mo_floor (zI s) (zI m) M = some (.inl (zI (s / m)), M) := by
  unfold fn_Mo_floor
  have hz : ¬ zI m = 0 := by rw [zI_zero, zI_eq (by omega) (by omega)]; omega
  by_cases c : s < 0
  · have h1 := Int.mul_ediv_add_emod (m - 1 - s) m
    have h2 := Int.emod_nonneg (m - 1 - s) (show m ≠ 0 by omega)
    have h3 := Int.emod_lt_of_pos (m - 1 - s) hm.1
    have e : s / m = -((m - 1 - s) / m) := by
      generalize (m - 1 - s) / m = Q at *
      generalize (m - 1 - s) % m = R at *
      exact ediv_is (q := -Q) (r := m - 1 - R) hm.1 (by rw [Int.mul_neg]; omega) (by omega) (by omega)
    rw [e]
    rw [if_pos (show zI s < 0 by rw [zI_zero, zI_lt (by omega) (by omega)]; exact c), grd_t hz, show (1 : Int32) = zI 1 from rfl, zI_sub, zI_sub, zI_div (by omega) (by omega), zI_neg]
  · rw [if_neg (show ¬ zI s < 0 by rw [zI_zero, zI_lt (by omega) (by omega)]; exact c), grd_t hz, zI_div (by omega) (by omega)]
def mnF (a : Int → Int) (n w i : Int) : Int := sumF a (max (i - w) 0) (min (i + w) (n - 1) + 1) 0 / (min (i + w) (n - 1) - max (i - w) 0 + 1)
theorem mnF_b {a : Int → Int} (hb : ∀ i, -99 ≤ a i ∧ a i ≤ 99) {n w i : Int} (hi : 0 ≤ i ∧ i < n) (hw : 1 ≤ w) : -99 ≤ mnF a n w i ∧ mnF a n w i ≤ 99 := by
  have h := sumF_b hb (i := max (i - w) 0) (j := min (i + w) (n - 1) + 1) (s := 0) (by omega)
  unfold mnF
  refine ⟨Int.le_ediv_of_mul_le (by omega) (by omega), Int.ediv_le_of_le_mul (by omega) (by omega)⟩
theorem Ser.meanAt {M : Mm} {v : Nat} {n : Int} {a : Int → Int} (h : Ser M v n a) {i w : Int} (hi : 0 ≤ i ∧ i < n) (hw : 1 ≤ w ∧ w ≤ 9) : fn_Se_meanAround v (zI i) (zI w) M = some (.inl (zI (mnF a n w i)), M) := by
  have hv := h.v
  have hn := h.n
  have hs := sumF_b h.b (i := max (i - w) 0) (j := min (i + w) (n - 1) + 1) (s := 0) (by omega)
  have et := h.total (f := max (i - w) 0) (t := min (i + w) (n - 1)) (by omega) (by omega) (by omega)
  unfold fn_Se_meanAround
  simp (disch := omega) only [zlit, zI_add, zI_sub, zI_mul, zI_neg, zI_lt, zI_le, zI_eq, zI_cl, zI_max, zI_min, zI_abs, bnd_ok, bnd_ex, lm_eq, li_eq, grd_inb, grd_ser, grd_z, grd_lt, if_true, if_false, if_pos, if_neg, h.c, et, fdiv_is]
  rfl
theorem c_flat_10 {v : Nat} {n w : Int} {a : Int → Int} (hv5 : v ≤ 5) (hw : 1 ≤ w ∧ w ≤ 9) : ∀ (k : Nat) (s i : Int) (M : Mm), Ser M v n (puA a (mnF a n w) i) → Ser M 6 n a → 0 ≤ i → i ≤ n → n - i < k → ∃ M1, fn_Se_flatten_10 v (zI w) 6 k (zI s) (zI i) M = some (.inl (zI (chF a (mnF a n w) i n s)), M1) ∧ Ser M1 v n (puA a (mnF a n w) n) ∧ FvS v M M1 := by
  intro k
  induction k with
  | zero => intros; omega
  | succ k ih =>
    intro s i M h h6 h0 h1 h2
    have hv := h.v
    have hn := h.n
    rw [fn_Se_flatten_10]
    by_cases c : n ≤ i
    · have e : i = n := by omega
      rw [e] at h
      refine ⟨M, ?_, h, FvS.rf v M⟩
      unfold chF
      simp (disch := omega) only [zlit, zI_add, zI_sub, zI_mul, zI_neg, zI_lt, zI_le, zI_eq, zI_cl, zI_max, zI_min, zI_abs, bnd_ok, bnd_ex, lm_eq, li_eq, grd_inb, grd_ser, grd_z, grd_lt, if_true, if_false, if_pos, if_neg, h.c, cd_stop]
    · have b0 := mnF_b h6.b (i := i) (n := n) (w := w) ⟨h0, by omega⟩ hw.1
      have b1 := h6.b i
      have hp := h.put (j := i) (x := mnF a n w i) (by omega) b0
      have hi := hp.at (i := i) h0 (by omega)
      rw [upI_eq] at hi
      rw [puA_next a _ h0] at hp
      have h6' : Ser (mset M (v + 5) i.toNat (zI (mnF a n w i))) 6 n a := h6.to (mset_ne _ _ _ (by omega)) (mset_ne _ _ _ (by omega))
      by_cases c2 : a i = mnF a n w i
      · obtain ⟨M1, e1, e2, e3⟩ := ih (s + 0) (i + 1) _ hp h6' (by omega) (by omega) (by omega)
        refine ⟨M1, ?_, e2, (FvS.put v M _ _).tr e3⟩
        simp (disch := omega) only [zlit, zI_add, zI_sub, zI_mul, zI_neg, zI_lt, zI_le, zI_eq, zI_cl, zI_max, zI_min, zI_abs, bnd_ok, bnd_ex, lm_eq, li_eq, grd_inb, grd_ser, grd_z, grd_lt, if_true, if_false, if_pos, if_neg, h.c, h6.meanAt, ser_put hv, hi, h6'.at, fn_Se_flatten_53, e1]
        unfold chF
        rw [cd_n (q := fun k => ¬ a k = mnF a n w k) (i := i) (by omega) (fun z => z c2)]
      · obtain ⟨M1, e1, e2, e3⟩ := ih (s + 1) (i + 1) _ hp h6' (by omega) (by omega) (by omega)
        refine ⟨M1, ?_, e2, (FvS.put v M _ _).tr e3⟩
        simp (disch := omega) only [zlit, zI_add, zI_sub, zI_mul, zI_neg, zI_lt, zI_le, zI_eq, zI_cl, zI_max, zI_min, zI_abs, bnd_ok, bnd_ex, lm_eq, li_eq, grd_inb, grd_ser, grd_z, grd_lt, if_true, if_false, if_pos, if_neg, h.c, h6.meanAt, ser_put hv, hi, h6'.at, fn_Se_flatten_53, e1]
        unfold chF
        rw [cd_y (q := fun k => ¬ a k = mnF a n w k) (i := i) (by omega) c2]
theorem Ser.flat {M : Mm} {v : Nat} {n w : Int} {a : Int → Int} (h : Ser M v n a) (hv5 : v ≤ 5) (hw : 1 ≤ w ∧ w ≤ 9) : ∃ M1, fn_Se_flatten v (zI w) 6 M = some (.inl (zI (chF a (mnF a n w) 0 n 0)), M1) ∧ Ser M1 v n (puA a (mnF a n w) n) ∧ ∀ j, j ≠ v → j ≠ v + 5 → j ≠ 6 → j ≠ 11 → M1 j = M j := by
  have hv := h.v
  have hn := h.n
  obtain ⟨M0, e1, e2, e3⟩ := h.become (v := 6) (by omega)
  have h' : Ser M0 v n (puA a (mnF a n w) 0) := by
    rw [puA_0]
    exact h.to (e3 _ (by omega) (by omega)) (e3 _ (by omega) (by omega))
  obtain ⟨M1, f1, f2, f3⟩ := c_flat_10 hv5 hw 2000 0 0 M0 h' e2 (by omega) (by omega) (by omega)
  refine ⟨M1, ?_, f2, fun j j1 j2 j3 j4 => by rw [f3 j j1 j2, e3 j j3 (by omega)]⟩
  unfold fn_Se_flatten fuel0
  simp (disch := omega) only [zlit, zI_add, zI_sub, zI_mul, zI_neg, zI_lt, zI_le, zI_eq, zI_cl, zI_max, zI_min, zI_abs, bnd_ok, bnd_ex, lm_eq, li_eq, grd_inb, grd_ser, grd_z, grd_lt, if_true, if_false, if_pos, if_neg, e1, f1]
/-! steps -/
def spF (a : Int → Int) : Int → Int := fun y => a (y + 1) - a y
theorem c_steps_2 {v : Nat} {n : Int} {a : Int → Int} (ha : ∀ i, -99 ≤ a i ∧ a i ≤ 99) (hx : ∀ i, 0 ≤ i → i < n - 1 → -99 ≤ spF a i ∧ spF a i ≤ 99) (hn0 : 0 < n) : ∀ (k : Nat) (i : Int) (M : Mm), Ser M v n (puA a (spF a) (i - 1)) → 1 ≤ i → i ≤ n → n - i < k → ∃ M1, fn_Se_becomeSteps_2 v k (zI i) M = some (.inl (zI (n - 1)), M1) ∧ Ser M1 v (n - 1) (puA a (spF a) (n - 1)) ∧ FvS v M M1 := by
  intro k
  induction k with
  | zero => intros; omega
  | succ k ih =>
    intro i M h h0 h1 h2
    have hv := h.v
    have hn := h.n
    rw [fn_Se_becomeSteps_2]
    by_cases c : n ≤ i
    · have e : i = n := by omega
      rw [e] at h
      refine ⟨mset M v 1 (zI (n - 1)), ?_, h.cnt (m := n - 1) (by omega), FvS.cnt v M _ _⟩
      simp (disch := omega) only [zlit, zI_add, zI_sub, zI_mul, zI_neg, zI_lt, zI_le, zI_eq, zI_cl, zI_max, zI_min, zI_abs, bnd_ok, bnd_ex, lm_eq, li_eq, grd_inb, grd_ser, grd_z, grd_lt, if_true, if_false, if_pos, if_neg, h.c, fn_Se_becomeSteps_36, mset_at]
      rw [show max (n - 1) 0 = n - 1 by omega]
    · have e1 : puA a (spF a) (i - 1) i = a i := puA_at a _ (by omega)
      have e2 : puA a (spF a) (i - 1) (i - 1) = a (i - 1) := puA_at a _ (by omega)
      have es : a i - a (i - 1) = spF a (i - 1) := by unfold spF; rw [Int.sub_add_cancel]
      have hp := h.put (j := i - 1) (x := spF a (i - 1)) (by omega) (hx (i - 1) (by omega) (by omega))
      rw [puA_next a _ (by omega), Int.sub_add_cancel] at hp
      obtain ⟨M1, f1, f2, f3⟩ := ih (i + 1) _ (by rw [show i + 1 - 1 = i by omega]; exact hp) (by omega) (by omega) (by omega)
      refine ⟨M1, ?_, f2, (FvS.put v M _ _).tr f3⟩
      simp (disch := omega) only [zlit, zI_add, zI_sub, zI_mul, zI_neg, zI_lt, zI_le, zI_eq, zI_cl, zI_max, zI_min, zI_abs, bnd_ok, bnd_ex, lm_eq, li_eq, grd_inb, grd_ser, grd_z, grd_lt, if_true, if_false, if_pos, if_neg, h.c, h.at, e1, e2, es, ser_put hv, f1]
theorem Ser.steps {M : Mm} {v : Nat} {n : Int} {a : Int → Int} (h : Ser M v n a) (hx : ∀ i, 0 ≤ i → i < n - 1 → -99 ≤ spF a i ∧ spF a i ≤ 99) (hn0 : 0 < n) : ∃ M1, fn_Se_becomeSteps v M = some (.inl (zI (n - 1)), M1) ∧ Ser M1 v (n - 1) (puA a (spF a) (n - 1)) ∧ FvS v M M1 := by
  have hv := h.v
  have hn := h.n
  obtain ⟨M1, e1, e2⟩ := c_steps_2 h.b hx hn0 2000 1 M (by rw [Int.sub_self, puA_0]; exact h) (by omega) (by omega) (by omega)
  refine ⟨M1, ?_, e2⟩
  unfold fn_Se_becomeSteps fuel0
  simp (disch := omega) only [zlit, zI_add, zI_sub, zI_mul, zI_neg, zI_lt, zI_le, zI_eq, zI_cl, zI_max, zI_min, zI_abs, bnd_ok, bnd_ex, lm_eq, li_eq, grd_inb, grd_ser, grd_z, grd_lt, if_true, if_false, if_pos, if_neg, e1]
/-! bounded -/
def clF (a : Int → Int) (lo hi : Int) : Int → Int := fun y => min (max (a y) lo) hi
theorem c_bound_5 {v : Nat} {n lo hi : Int} {a : Int → Int} (ha : ∀ i, -99 ≤ a i ∧ a i ≤ 99) (hl : -99 ≤ lo ∧ lo ≤ 99) (hh : -99 ≤ hi ∧ hi ≤ 99) : ∀ (k : Nat) (s i : Int) (M : Mm), Ser M v n (puA a (clF a lo hi) i) → 0 ≤ i → i ≤ n → n - i < k → ∃ M1, fn_Se_bound_5 v (zI lo) (zI hi) k (zI s) (zI i) M = some (.inl (zI (chF a (clF a lo hi) i n s)), M1) ∧ Ser M1 v n (puA a (clF a lo hi) n) ∧ FvS v M M1 := by
  intro k
  induction k with
  | zero => intros; omega
  | succ k ih =>
    intro s i M h h0 h1 h2
    have hv := h.v
    have hn := h.n
    rw [fn_Se_bound_5]
    by_cases c : n ≤ i
    · have e : i = n := by omega
      rw [e] at h
      refine ⟨M, ?_, h, FvS.rf v M⟩
      unfold chF
      simp (disch := omega) only [zlit, zI_add, zI_sub, zI_mul, zI_neg, zI_lt, zI_le, zI_eq, zI_cl, zI_max, zI_min, zI_abs, bnd_ok, bnd_ex, lm_eq, li_eq, grd_inb, grd_ser, grd_z, grd_lt, if_true, if_false, if_pos, if_neg, h.c, cd_stop]
    · have b1 := ha i
      have e0 : puA a (clF a lo hi) i i = a i := puA_at a _ (by omega)
      have b0 : -99 ≤ clF a lo hi i ∧ clF a lo hi i ≤ 99 := by unfold clF; omega
      have ec : min (max (a i) lo) hi = clF a lo hi i := rfl
      have hp := h.put (j := i) (x := clF a lo hi i) (by omega) b0
      have hi' := hp.at (i := i) h0 (by omega)
      rw [upI_eq] at hi'
      rw [puA_next a _ h0] at hp
      by_cases c2 : a i = clF a lo hi i
      · obtain ⟨M1, e1, e2, e3⟩ := ih (s + 0) (i + 1) _ hp (by omega) (by omega) (by omega)
        refine ⟨M1, ?_, e2, (FvS.put v M _ _).tr e3⟩
        simp (disch := omega) only [zlit, zI_add, zI_sub, zI_mul, zI_neg, zI_lt, zI_le, zI_eq, zI_cl, zI_max, zI_min, zI_abs, bnd_ok, bnd_ex, lm_eq, li_eq, grd_inb, grd_ser, grd_z, grd_lt, if_true, if_false, if_pos, if_neg, h.c, h.at, e0, ec, h.replace, hi', fn_Se_bound_53, e1]
        unfold chF
        rw [cd_n (q := fun k => ¬ a k = clF a lo hi k) (i := i) (by omega) (fun z => z c2)]
      · obtain ⟨M1, e1, e2, e3⟩ := ih (s + 1) (i + 1) _ hp (by omega) (by omega) (by omega)
        refine ⟨M1, ?_, e2, (FvS.put v M _ _).tr e3⟩
        simp (disch := omega) only [zlit, zI_add, zI_sub, zI_mul, zI_neg, zI_lt, zI_le, zI_eq, zI_cl, zI_max, zI_min, zI_abs, bnd_ok, bnd_ex, lm_eq, li_eq, grd_inb, grd_ser, grd_z, grd_lt, if_true, if_false, if_pos, if_neg, h.c, h.at, e0, ec, h.replace, hi', fn_Se_bound_53, e1]
        unfold chF
        rw [cd_y (q := fun k => ¬ a k = clF a lo hi k) (i := i) (by omega) c2]
theorem Ser.bound {M : Mm} {v : Nat} {n : Int} {a : Int → Int} (h : Ser M v n a) {lo hi : Int} (hl : -99 ≤ lo ∧ lo ≤ 99) (hh : -99 ≤ hi ∧ hi ≤ 99) : ∃ M1, fn_Se_bound v (zI lo) (zI hi) M = some (.inl (zI (chF a (clF a lo hi) 0 n 0)), M1) ∧ Ser M1 v n (puA a (clF a lo hi) n) ∧ FvS v M M1 := by
  have hv := h.v
  have hn := h.n
  obtain ⟨M1, e1, e2⟩ := c_bound_5 h.b hl hh 2000 0 0 M (by rw [puA_0]; exact h) (by omega) (by omega) (by omega)
  refine ⟨M1, ?_, e2⟩
  unfold fn_Se_bound fuel0
  simp (disch := omega) only [zlit, zI_add, zI_sub, zI_mul, zI_neg, zI_lt, zI_le, zI_eq, zI_cl, zI_max, zI_min, zI_abs, bnd_ok, bnd_ex, lm_eq, li_eq, grd_inb, grd_ser, grd_z, grd_lt, if_true, if_false, if_pos, if_neg, e1]
/-! may it be? -/
theorem c_canRise_2 {M : Mm} {v : Nat} {n x : Int} {a : Int → Int} (h : Ser M v n a) (hx : -99 ≤ x ∧ x ≤ 99) : ∀ (k : Nat) (i : Int), 0 ≤ i → i ≤ n → n - i < k → fn_Se_canRise_2 v (zI x) k (zI i) M = some (.inl (zI (b01 (al (fun i => decide (-99 ≤ a i + x ∧ a i + x ≤ 99)) i n))), M) := by
  have hv := h.v
  have hn := h.n
  intro k
  induction k with
  | zero => intros; omega
  | succ k ih =>
    intro i h0 h1 h2
    have b1 := h.b i
    rw [fn_Se_canRise_2]
    by_cases c : n ≤ i
    · simp (disch := omega) only [zlit, zI_add, zI_sub, zI_mul, zI_neg, zI_lt, zI_le, zI_eq, zI_cl, zI_max, zI_min, zI_abs, bnd_ok, bnd_ex, lm_eq, li_eq, grd_inb, grd_ser, grd_z, grd_lt, if_true, if_false, if_pos, if_neg, h.c, al_stop, b01_true]
    · by_cases c2 : -99 ≤ a i + x ∧ a i + x ≤ 99
      · rw [ad_go (q := fun i => -99 ≤ a i + x ∧ a i + x ≤ 99) (i := i) (by omega) c2]
        simp (disch := omega) only [zlit, zI_add, zI_sub, zI_mul, zI_neg, zI_lt, zI_le, zI_eq, zI_cl, zI_max, zI_min, zI_abs, bnd_ok, bnd_ex, lm_eq, li_eq, grd_inb, grd_ser, grd_z, grd_lt, if_true, if_false, if_pos, if_neg, h.c, h.at, SA_isValue]
        exact ih (i + 1) (by omega) (by omega) (by omega)
      · rw [ad_no (q := fun i => -99 ≤ a i + x ∧ a i + x ≤ 99) (i := i) (by omega) c2]
        simp (disch := omega) only [zlit, zI_add, zI_sub, zI_mul, zI_neg, zI_lt, zI_le, zI_eq, zI_cl, zI_max, zI_min, zI_abs, bnd_ok, bnd_ex, lm_eq, li_eq, grd_inb, grd_ser, grd_z, grd_lt, if_true, if_false, if_pos, if_neg, h.c, h.at, SA_isValue, b01_false]
theorem Ser.canRise {M : Mm} {v : Nat} {n x : Int} {a : Int → Int} (h : Ser M v n a) (hx : -99 ≤ x ∧ x ≤ 99) : fn_Se_canRise v (zI x) M = some (.inl (zI (b01 (al (fun i => decide (-99 ≤ a i + x ∧ a i + x ≤ 99)) 0 n))), M) := by
  have hv := h.v
  have hn := h.n
  unfold fn_Se_canRise fuel0
  simp (disch := omega) only [zlit, zI_add, zI_sub, zI_mul, zI_neg, zI_lt, zI_le, zI_eq, zI_cl, zI_max, zI_min, zI_abs, bnd_ok, bnd_ex, lm_eq, li_eq, grd_inb, grd_ser, grd_z, grd_lt, if_true, if_false, if_pos, if_neg]
  exact c_canRise_2 h hx 2000 0 (by omega) (by omega) (by omega)
theorem c_hasSteps_2 {M : Mm} {v : Nat} {n : Int} {a : Int → Int} (h : Ser M v n a) : ∀ (k : Nat) (i : Int), 1 ≤ i → i ≤ max n 1 → max n 1 - i < k → fn_Se_hasSteps_2 v k (zI i) M = some (.inl (zI (if n = 0 then 0 else b01 (al (fun i => decide (-99 ≤ a i - a (i - 1) ∧ a i - a (i - 1) ≤ 99)) i n))), M) := by
  have hv := h.v
  have hn := h.n
  intro k
  induction k with
  | zero => intros; omega
  | succ k ih =>
    intro i h0 h1 h2
    have b1 := h.b i
    have b2 := h.b (i - 1)
    rw [fn_Se_hasSteps_2]
    by_cases c : n ≤ i
    · by_cases c0 : n = 0
      · simp (disch := omega) only [zlit, zI_add, zI_sub, zI_mul, zI_neg, zI_lt, zI_le, zI_eq, zI_cl, zI_max, zI_min, zI_abs, bnd_ok, bnd_ex, lm_eq, li_eq, grd_inb, grd_ser, grd_z, grd_lt, if_true, if_false, if_pos, if_neg, h.c, fn_Se_hasSteps_37]
      · simp (disch := omega) only [zlit, zI_add, zI_sub, zI_mul, zI_neg, zI_lt, zI_le, zI_eq, zI_cl, zI_max, zI_min, zI_abs, bnd_ok, bnd_ex, lm_eq, li_eq, grd_inb, grd_ser, grd_z, grd_lt, if_true, if_false, if_pos, if_neg, h.c, al_stop, b01_true, fn_Se_hasSteps_37]
    · have c0 : ¬ n = 0 := by omega
      have ih2 := ih (i + 1)
      rw [if_neg c0] at ih2 ⊢
      by_cases c2 : -99 ≤ a i - a (i - 1) ∧ a i - a (i - 1) ≤ 99
      · rw [ad_go (q := fun i => -99 ≤ a i - a (i - 1) ∧ a i - a (i - 1) ≤ 99) (i := i) (by omega) c2]
        simp (disch := omega) only [zlit, zI_add, zI_sub, zI_mul, zI_neg, zI_lt, zI_le, zI_eq, zI_cl, zI_max, zI_min, zI_abs, bnd_ok, bnd_ex, lm_eq, li_eq, grd_inb, grd_ser, grd_z, grd_lt, if_true, if_false, if_pos, if_neg, h.c, h.at, SA_isValue]
        exact ih2 (by omega) (by omega) (by omega)
      · rw [ad_no (q := fun i => -99 ≤ a i - a (i - 1) ∧ a i - a (i - 1) ≤ 99) (i := i) (by omega) c2]
        simp (disch := omega) only [zlit, zI_add, zI_sub, zI_mul, zI_neg, zI_lt, zI_le, zI_eq, zI_cl, zI_max, zI_min, zI_abs, bnd_ok, bnd_ex, lm_eq, li_eq, grd_inb, grd_ser, grd_z, grd_lt, if_true, if_false, if_pos, if_neg, h.c, h.at, SA_isValue, b01_false]
theorem Ser.hasSteps {M : Mm} {v : Nat} {n : Int} {a : Int → Int} (h : Ser M v n a) : fn_Se_hasSteps v M = some (.inl (zI (if n = 0 then 0 else b01 (al (fun i => decide (-99 ≤ a i - a (i - 1) ∧ a i - a (i - 1) ≤ 99)) 1 n))), M) := by
  have hv := h.v
  have hn := h.n
  unfold fn_Se_hasSteps fuel0
  simp (disch := omega) only [zlit, zI_add, zI_sub, zI_mul, zI_neg, zI_lt, zI_le, zI_eq, zI_cl, zI_max, zI_min, zI_abs, bnd_ok, bnd_ex, lm_eq, li_eq, grd_inb, grd_ser, grd_z, grd_lt, if_true, if_false, if_pos, if_neg]
  exact c_hasSteps_2 h 2000 1 (by omega) (by omega) (by omega)
