/-! THE MODEL'S SERIES, changed -/
/-- nothing but slot p of the row 33, and the scratch row 38, differs -/
def Fm (p : Int) (M M' : Mm) : Prop := (∀ j : Nat, (j : Int) < 21 * p ∨ 21 * p + 21 ≤ j → M' 33 j = M 33 j) ∧ ∀ j, j ≠ 33 → j ≠ 38 → M' j = M j
theorem Fm.rf (p : Int) (M : Mm) : Fm p M M := ⟨fun _ _ => rfl, fun _ _ _ => rfl⟩
theorem Fm.tr {p : Int} {A B C : Mm} (h : Fm p A B) (k : Fm p B C) : Fm p A C := ⟨fun j h1 => (k.1 j h1).trans (h.1 j h1), fun j h1 h2 => (k.2 j h1 h2).trans (h.2 j h1 h2)⟩
theorem Fm.cell {p i : Int} (M : Mm) (x : Int32) (hp : 0 ≤ p) (hi : 21 * p ≤ i ∧ i < 21 * p + 21) : Fm p M (mset M 33 i.toNat x) := ⟨fun j hj => mset_oth _ _ _ _ (by omega), fun j h1 _ => mset_ne _ _ _ h1⟩
theorem Fm.scr {p : Int} (M : Mm) (i : Nat) (x : Int32) : Fm p M (mset M 38 i x) := ⟨fun j _ => by rw [mset_ne _ _ _ (by decide)], fun j _ h2 => mset_ne _ _ _ h2⟩
theorem Mse.oth {M M' : Mm} {p s n : Int} {a : Int → Int} (h : Mse M s n a) (hs : s ≠ p) (hf : Fm p M M') : Mse M' s n a := by
  have hv := h.s
  have hn := h.n
  refine ⟨h.s, h.n, ?_, fun i h0 h1 => ?_, h.b⟩
  · rw [hf.1 _ (by omega)]
    exact h.c
  · rw [hf.1 _ (by omega)]
    exact h.e i h0 h1
theorem Fm.ap {M M' : Mm} {p : Int} (hp : 0 ≤ p ∧ p < 4) (hf : Fm p M M') : M' 33 84 = M 33 84 := hf.1 84 (by omega)
theorem mo_lay {M : Mm} {p i : Int} (hp : 0 ≤ p ∧ p < 4) (hi : 0 ≤ i ∧ i < 20) (x : Int32) : fn_Mo_lay (zI p) (zI i) x M = some (.inl (), mset M 33 (21 * p + 1 + i).toNat x) := by
  unfold fn_Mo_lay
  simp (disch := omega) only [zlit, zI_add, zI_sub, zI_mul, zI_neg, zI_lt, zI_le, zI_eq, zI_cl, zI_max, zI_min, zI_abs, bnd_ok, bnd_ex, lm_eq, li_eq, grd_inb, grd_ser, grd_z, grd_lt, if_true, if_false, if_pos, if_neg]
theorem Mse.put {M : Mm} {p n : Int} {a : Int → Int} (h : Mse M p n a) {j x : Int} (hj : 0 ≤ j ∧ j < n) (hx : -99 ≤ x ∧ x ≤ 99) : Mse (mset M 33 (21 * p + 1 + j).toNat (zI x)) p n (upI a j x) := by
  have hv := h.s
  have hn := h.n
  refine ⟨h.s, h.n, ?_, fun i h0 h1 => ?_, fun i => ?_⟩
  · rw [mset_oth _ _ _ _ (by omega)]
    exact h.c
  · by_cases c : i = j
    · rw [c, mset_at, upI_eq]
    · rw [mset_oth _ _ _ _ (by omega), upI_ne _ _ c]
      exact h.e i h0 h1
  · have := h.b i
    by_cases c : i = j
    · rw [c, upI_eq]
      exact hx
    · rw [upI_ne _ _ c]
      exact this
theorem Mse.cnt {M : Mm} {p n : Int} {a : Int → Int} (h : Mse M p n a) {m : Int} (hm : 0 ≤ m ∧ m ≤ n) : Mse (mset M 33 (21 * p).toNat (zI m)) p m a := by
  have hv := h.s
  have hn := h.n
  refine ⟨h.s, by omega, mset_at _ _ _ _, fun i h0 h1 => ?_, h.b⟩
  rw [mset_oth _ _ _ _ (by omega)]
  exact h.e i h0 (by omega)
theorem Mse.appends {M : Mm} {p n : Int} {a : Int → Int} (h : Mse M p n a) {x ap : Int} (hx : -99 ≤ x ∧ x ≤ 99) (hn20 : n < 20) (hap : M 33 84 = zI ap) : ∃ M1, fn_Mo_appends (zI p) (zI x) M = some (.inl (zI (n + 1)), M1) ∧ Mse M1 p (n + 1) (upI a n x) ∧ (∀ s m b, s ≠ p → Mse M s m b → Mse M1 s m b) ∧ M1 33 84 = zI (ap + 1) ∧ ∀ j, j ≠ 33 → M1 j = M j := by
  have hv := h.s
  have hn := h.n
  let M0 := mset (mset M 33 (21 * p + 1 + n).toNat (zI x)) 33 (21 * p).toNat (zI (n + 1))
  have f0 : Fm p M M0 := (Fm.cell M _ hv.1 (by omega)).tr (Fm.cell _ _ hv.1 (by omega))
  have c0 : mset M 33 (21 * p + 1 + n).toNat (zI x) 33 (21 * p).toNat = zI n := by rw [mset_oth _ _ _ _ (by omega)]; exact h.c
  have a0 : M0 33 84 = zI ap := by rw [f0.ap hv]; exact hap
  have h0 : Mse M0 p (n + 1) (upI a n x) := by
    refine ⟨hv, by omega, mset_at _ _ _ _, fun i i0 i1 => ?_, fun i => ?_⟩
    · show mset (mset M 33 (21 * p + 1 + n).toNat (zI x)) 33 (21 * p).toNat (zI (n + 1)) 33 (21 * p + 1 + i).toNat = _
      rw [mset_oth _ _ _ _ (by omega)]
      by_cases c : i = n
      · rw [c, mset_at, upI_eq]
      · rw [mset_oth _ _ _ _ (by omega), upI_ne _ _ c]
        exact h.e i i0 (by omega)
    · have := h.b i
      by_cases c : i = n
      · rw [c, upI_eq]
        exact hx
      · rw [upI_ne _ _ c]
        exact this
  have f1 : ∀ s m b, Mse M0 s m b → Mse (mset M0 33 (84 : Int).toNat (zI (ap + 1))) s m b := fun s m b k => by
    have kv := k.s
    have kn := k.n
    refine ⟨k.s, k.n, ?_, fun i i0 i1 => ?_, k.b⟩
    · rw [mset_oth _ _ _ _ (by omega)]
      exact k.c
    · rw [mset_oth _ _ _ _ (by omega)]
      exact k.e i i0 i1
  have hm := (f1 _ _ _ h0).many
  refine ⟨mset M0 33 (84 : Int).toNat (zI (ap + 1)), ?_, f1 _ _ _ h0, fun s m b hs k => f1 _ _ _ (k.oth hs f0), mset_at _ _ _ _, fun j hj => by rw [mset_ne _ _ _ hj]; show mset (mset M 33 _ _) 33 _ _ j = _; rw [mset_ne _ _ _ hj, mset_ne _ _ _ hj]⟩
  have a1 : mset (mset M 33 (21 * p + 1 + n).toNat (zI x)) 33 (21 * p).toNat (zI (n + 1)) 33 (84 : Int).toNat = zI ap := a0
  unfold fn_Mo_appends
  simp (disch := omega) only [zlit, zI_add, zI_sub, zI_mul, zI_neg, zI_lt, zI_le, zI_eq, zI_cl, zI_max, zI_min, zI_abs, bnd_ok, bnd_ex, lm_eq, li_eq, grd_inb, grd_ser, grd_z, grd_lt, if_true, if_false, if_pos, if_neg, h.many, mo_lay hv, c0, a1]
  rw [hm]
  rfl
theorem Mse.sets {M : Mm} {p n : Int} {a : Int → Int} (h : Mse M p n a) {i x : Int} (hi : 0 ≤ i ∧ i < n) (hx : -99 ≤ x ∧ x ≤ 99) : ∃ M1, fn_Mo_sets (zI p) (zI i) (zI x) M = some (.inl (zI (a i)), M1) ∧ Mse M1 p n (upI a i x) ∧ Fm p M M1 := by
  have hv := h.s
  have hn := h.n
  refine ⟨_, ?_, h.put hi hx, Fm.cell M _ hv.1 (by omega)⟩
  unfold fn_Mo_sets
  simp (disch := omega) only [zlit, zI_add, zI_sub, zI_mul, zI_neg, zI_lt, zI_le, zI_eq, zI_cl, zI_max, zI_min, zI_abs, bnd_ok, bnd_ex, lm_eq, li_eq, grd_inb, grd_ser, grd_z, grd_lt, if_true, if_false, if_pos, if_neg, h.at, mo_lay hv]
theorem m_close_12 {p : Int} (hv : 0 ≤ p ∧ p < 4) : ∀ (k : Nat) (i : Int) (M : Mm), 0 ≤ i → i ≤ 20 → 20 - i < k → ∃ M1, fn_Mo_close_12 (zI p) k (zI i) M = some (.inl (), M1) ∧ (∀ j : Nat, (j : Int) < 21 * p + 1 + i ∨ 21 * p + 21 ≤ j → M1 33 j = M 33 j) ∧ ∀ j, j ≠ 33 → M1 j = M j := by
  intro k
  induction k with
  | zero => intros; omega
  | succ k ih =>
    intro i M h0 h1 h2
    rw [fn_Mo_close_12]
    by_cases c : 20 ≤ i
    · refine ⟨M, ?_, fun _ _ => rfl, fun _ _ => rfl⟩
      simp (disch := omega) only [zlit, zI_add, zI_sub, zI_mul, zI_neg, zI_lt, zI_le, zI_eq, zI_cl, zI_max, zI_min, zI_abs, bnd_ok, bnd_ex, lm_eq, li_eq, grd_inb, grd_ser, grd_z, grd_lt, if_true, if_false, if_pos, if_neg]
    · obtain ⟨M1, e1, e2, e3⟩ := ih (i + 1) (mset M 33 (21 * p + 1 + i).toNat (zI 0)) (by omega) (by omega) (by omega)
      refine ⟨M1, ?_, fun j hj => by rw [e2 j (by omega), mset_oth _ _ _ _ (by omega)], fun j hj => by rw [e3 j hj, mset_ne _ _ _ hj]⟩
      simp (disch := omega) only [zlit, zI_add, zI_sub, zI_mul, zI_neg, zI_lt, zI_le, zI_eq, zI_cl, zI_max, zI_min, zI_abs, bnd_ok, bnd_ex, lm_eq, li_eq, grd_inb, grd_ser, grd_z, grd_lt, if_true, if_false, if_pos, if_neg, mo_lay hv, e1]
theorem Mse.close {M : Mm} {p n : Int} {a : Int → Int} (h : Mse M p n a) {m : Int} (hm : 0 ≤ m ∧ m ≤ n) : ∃ M1, fn_Mo_close (zI p) (zI m) M = some (.inl (), M1) ∧ Mse M1 p m a ∧ Fm p M M1 := by
  have hv := h.s
  have hn := h.n
  have h0 := h.cnt hm
  obtain ⟨M1, e1, e2, e3⟩ := m_close_12 hv 2000 m (mset M 33 (21 * p).toNat (zI m)) (by omega) (by omega) (by omega)
  refine ⟨M1, ?_, ⟨hv, by omega, ?_, fun i i0 i1 => ?_, h.b⟩, (Fm.cell M _ hv.1 (by omega)).tr ⟨fun j hj => e2 j (by omega), fun j j1 _ => e3 j j1⟩⟩
  · unfold fn_Mo_close fuel0
    simp (disch := omega) only [zlit, zI_add, zI_sub, zI_mul, zI_neg, zI_lt, zI_le, zI_eq, zI_cl, zI_max, zI_min, zI_abs, bnd_ok, bnd_ex, lm_eq, li_eq, grd_inb, grd_ser, grd_z, grd_lt, if_true, if_false, if_pos, if_neg, e1]
  · rw [e2 _ (by omega)]
    exact h0.c
  · rw [e2 _ (by omega)]
    exact h0.e i i0 i1
theorem m_cuts_11 {p n c : Int} {a : Int → Int} (ha : ∀ i, -99 ≤ a i ∧ a i ≤ 99) (hc : 1 ≤ c ∧ c ≤ n) : ∀ (k : Nat) (i : Int) (M : Mm), Mse M p n (puA a (fun y => a (y + c)) i) → 0 ≤ i → i ≤ n - c → n - c - i < k → ∃ M1, fn_Mo_cuts_11 (zI p) (zI c) (zI (n - c)) k (zI i) M = some (.inl (zI (n - c)), M1) ∧ Mse M1 p (n - c) (fun y => a (y + c)) ∧ Fm p M M1 := by
  intro k
  induction k with
  | zero => intros; omega
  | succ k ih =>
    intro i M h h0 h1 h2
    have hv := h.s
    have hn := h.n
    rw [fn_Mo_cuts_11]
    by_cases c1 : n - c ≤ i
    · obtain ⟨M1, e1, e2, e3⟩ := h.close (m := n - c) (by omega)
      refine ⟨M1, ?_, e2.congr (fun x x1 x2 => puA_lt _ _ x1 (by omega)) (fun x => ha _), e3⟩
      simp (disch := omega) only [zlit, zI_add, zI_sub, zI_mul, zI_neg, zI_lt, zI_le, zI_eq, zI_cl, zI_max, zI_min, zI_abs, bnd_ok, bnd_ex, lm_eq, li_eq, grd_inb, grd_ser, grd_z, grd_lt, if_true, if_false, if_pos, if_neg, fn_Mo_cuts_39, e1]
    · have e0 : puA a (fun y => a (y + c)) i (i + c) = a (i + c) := puA_at a _ (by omega)
      have hp := h.put (j := i) (x := a (i + c)) (by omega) (ha _)
      rw [show a (i + c) = (fun y => a (y + c)) i from rfl, puA_next a _ h0] at hp
      obtain ⟨M1, e1, e2, e3⟩ := ih (i + 1) _ hp (by omega) (by omega) (by omega)
      refine ⟨M1, ?_, e2, (Fm.cell M _ hv.1 (by omega)).tr e3⟩
      simp (disch := omega) only [zlit, zI_add, zI_sub, zI_mul, zI_neg, zI_lt, zI_le, zI_eq, zI_cl, zI_max, zI_min, zI_abs, bnd_ok, bnd_ex, lm_eq, li_eq, grd_inb, grd_ser, grd_z, grd_lt, if_true, if_false, if_pos, if_neg, h.at, e0, mo_lay hv, e1]
theorem Mse.cuts {M : Mm} {p n c : Int} {a : Int → Int} (h : Mse M p n a) (hc : 1 ≤ c ∧ c ≤ n) : ∃ M1, fn_Mo_cuts (zI p) (zI c) M = some (.inl (zI (n - c)), M1) ∧ Mse M1 p (n - c) (fun y => a (y + c)) ∧ Fm p M M1 := by
  have hn := h.n
  obtain ⟨M1, e1, e2⟩ := m_cuts_11 h.b hc 2000 0 M (by rw [puA_0]; exact h) (by omega) (by omega) (by omega)
  refine ⟨M1, ?_, e2⟩
  unfold fn_Mo_cuts fuel0
  simp (disch := omega) only [zlit, zI_add, zI_sub, zI_mul, zI_neg, zI_lt, zI_le, zI_eq, zI_cl, zI_max, zI_min, zI_abs, bnd_ok, bnd_ex, lm_eq, li_eq, grd_inb, grd_ser, grd_z, grd_lt, if_true, if_false, if_pos, if_neg, h.many, e1]
theorem m_copies_2 {p q : Int} {M0 : Mm} (hp : 0 ≤ p ∧ p < 4) (hq : 0 ≤ q ∧ q < 4) : ∀ (k : Nat) (i : Int) (M : Mm), (∀ x, 0 ≤ x → x < 21 → M 33 (21 * p + x).toNat = if x < i then M0 33 (21 * q + x).toNat else M0 33 (21 * p + x).toNat) → Fm p M0 M → 0 ≤ i → i ≤ 21 → 21 - i < k → ∃ M1, fn_Mo_copies_2 (zI p) (zI q) k (zI i) M = fn_Mo_copies_36 (zI p) M1 ∧ (∀ x, 0 ≤ x → x < 21 → M1 33 (21 * p + x).toNat = M0 33 (21 * q + x).toNat) ∧ Fm p M0 M1 := by
  intro k
  induction k with
  | zero => intros; omega
  | succ k ih =>
    intro i M he hf h0 h1 h2
    rw [fn_Mo_copies_2]
    by_cases c : 21 ≤ i
    · refine ⟨M, ?_, fun x x0 x1 => by rw [he x x0 x1, if_pos (by omega)], hf⟩
      simp (disch := omega) only [zlit, zI_add, zI_sub, zI_mul, zI_neg, zI_lt, zI_le, zI_eq, zI_cl, zI_max, zI_min, zI_abs, bnd_ok, bnd_ex, lm_eq, li_eq, grd_inb, grd_ser, grd_z, grd_lt, if_true, if_false, if_pos, if_neg]
    · have ev : M 33 (21 * q + i).toNat = M0 33 (21 * q + i).toNat := by
        by_cases e : q = p
        · rw [e, he i h0 (by omega)]
          rw [if_neg (by omega)]
        · exact hf.1 _ (by omega)
      obtain ⟨M1, e1, e2, e3⟩ := ih (i + 1) (mset M 33 (21 * p + i).toNat (M 33 (21 * q + i).toNat)) (fun x x0 x1 => by
        by_cases e : x = i
        · rw [e, mset_at, if_pos (by omega), ev]
        · rw [mset_oth _ _ _ _ (by omega), he x x0 x1]
          by_cases e4 : x < i
          · rw [if_pos e4, if_pos (by omega)]
          · rw [if_neg e4, if_neg (by omega)]) (hf.tr (Fm.cell M _ hp.1 (by omega))) (by omega) (by omega) (by omega)
      refine ⟨M1, ?_, e2, e3⟩
      simp (disch := omega) only [zlit, zI_add, zI_sub, zI_mul, zI_neg, zI_lt, zI_le, zI_eq, zI_cl, zI_max, zI_min, zI_abs, bnd_ok, bnd_ex, lm_eq, li_eq, grd_inb, grd_ser, grd_z, grd_lt, if_true, if_false, if_pos, if_neg, e1]
theorem Mse.copies {M : Mm} {q m : Int} {b : Int → Int} (h : Mse M q m b) {p : Int} (hp : 0 ≤ p ∧ p < 4) : ∃ M1, fn_Mo_copies (zI p) (zI q) M = some (.inl (zI m), M1) ∧ Mse M1 p m b ∧ Fm p M M1 := by
  have hv := h.s
  have hn := h.n
  obtain ⟨M1, e1, e2, e3⟩ := m_copies_2 (M0 := M) hp hv 2000 0 M (fun x x0 x1 => by rw [if_neg (by omega)]) (Fm.rf p M) (by omega) (by omega) (by omega)
  have hM : Mse M1 p m b := by
    refine ⟨hp, hn, ?_, fun i i0 i1 => ?_, h.b⟩
    · have := e2 0 (by omega) (by omega)
      rw [Int.add_zero, Int.add_zero] at this
      rw [this]
      exact h.c
    · have := e2 (1 + i) (by omega) (by omega)
      rw [show 21 * p + (1 + i) = 21 * p + 1 + i by omega, show 21 * q + (1 + i) = 21 * q + 1 + i by omega] at this
      rw [this]
      exact h.e i i0 i1
  refine ⟨M1, ?_, hM, e3⟩
  unfold fn_Mo_copies fuel0
  simp (disch := omega) only [zlit, zI_add, zI_sub, zI_mul, zI_neg, zI_lt, zI_le, zI_eq, zI_cl, zI_max, zI_min, zI_abs, bnd_ok, bnd_ex, lm_eq, li_eq, grd_inb, grd_ser, grd_z, grd_lt, if_true, if_false, if_pos, if_neg, e1, fn_Mo_copies_36, hM.many]
theorem m_lays_4 {p n : Int} {a f : Int → Int} (ha : ∀ i, -99 ≤ a i ∧ a i ≤ 99) (hf : ∀ i, 0 ≤ i → i < n → -99 ≤ f i ∧ f i ≤ 99) : ∀ (k : Nat) (s i : Int) (M : Mm), Mse M p n (puA a f i) → (∀ x, 0 ≤ x → x < n → M 38 x.toNat = zI (f x)) → 0 ≤ i → i ≤ n → n - i < k → ∃ M1, fn_Mo_laysRow_4 (zI p) k (zI s) (zI i) M = some (.inl (zI (chF a f i n s)), M1) ∧ Mse M1 p n (puA a f n) ∧ Fm p M M1 := by
  intro k
  induction k with
  | zero => intros; omega
  | succ k ih =>
    intro s i M h hr h0 h1 h2
    have hv := h.s
    have hn := h.n
    rw [fn_Mo_laysRow_4]
    by_cases c : n ≤ i
    · have e : i = n := by omega
      rw [e] at h
      refine ⟨M, ?_, h, Fm.rf p M⟩
      unfold chF
      simp (disch := omega) only [zlit, zI_add, zI_sub, zI_mul, zI_neg, zI_lt, zI_le, zI_eq, zI_cl, zI_max, zI_min, zI_abs, bnd_ok, bnd_ex, lm_eq, li_eq, grd_inb, grd_ser, grd_z, grd_lt, if_true, if_false, if_pos, if_neg, h.many, cd_stop]
    · have e0 : puA a f i i = a i := puA_at a _ (by omega)
      have b0 := hf i h0 (by omega)
      have b1 := ha i
      have hp := h.put (j := i) (x := f i) (by omega) b0
      rw [puA_next a _ h0] at hp
      have hr' : ∀ x, 0 ≤ x → x < n → mset M 33 (21 * p + 1 + i).toNat (zI (f i)) 38 x.toNat = zI (f x) := fun x x0 x1 => by rw [mset_ne _ _ _ (by decide)]; exact hr x x0 x1
      have e9 := hr i h0 (by omega)
      by_cases c2 : a i = f i
      · obtain ⟨M1, e1, e2, e3⟩ := ih (s + 0) (i + 1) _ hp hr' (by omega) (by omega) (by omega)
        refine ⟨M1, ?_, e2, (Fm.cell M _ hv.1 (by omega)).tr e3⟩
        simp (disch := omega) only [zlit, zI_add, zI_sub, zI_mul, zI_neg, zI_lt, zI_le, zI_eq, zI_cl, zI_max, zI_min, zI_abs, bnd_ok, bnd_ex, lm_eq, li_eq, grd_inb, grd_ser, grd_z, grd_lt, if_true, if_false, if_pos, if_neg, h.many, h.at, e0, e9, fn_Mo_laysRow_34, mo_lay hv, e1]
        unfold chF
        rw [cd_n (q := fun k => ¬ a k = f k) (i := i) (by omega) (fun z => z c2)]
      · obtain ⟨M1, e1, e2, e3⟩ := ih (s + 1) (i + 1) _ hp hr' (by omega) (by omega) (by omega)
        refine ⟨M1, ?_, e2, (Fm.cell M _ hv.1 (by omega)).tr e3⟩
        simp (disch := omega) only [zlit, zI_add, zI_sub, zI_mul, zI_neg, zI_lt, zI_le, zI_eq, zI_cl, zI_max, zI_min, zI_abs, bnd_ok, bnd_ex, lm_eq, li_eq, grd_inb, grd_ser, grd_z, grd_lt, if_true, if_false, if_pos, if_neg, h.many, h.at, e0, e9, fn_Mo_laysRow_34, mo_lay hv, e1]
        unfold chF
        rw [cd_y (q := fun k => ¬ a k = f k) (i := i) (by omega) c2]
theorem Mse.lays {M : Mm} {p n : Int} {a f : Int → Int} (h : Mse M p n a) (hf : ∀ i, 0 ≤ i → i < n → -99 ≤ f i ∧ f i ≤ 99) (hr : ∀ x, 0 ≤ x → x < n → M 38 x.toNat = zI (f x)) : ∃ M1, fn_Mo_laysRow (zI p) M = some (.inl (zI (chF a f 0 n 0)), M1) ∧ Mse M1 p n (puA a f n) ∧ Fm p M M1 := by
  have hn := h.n
  obtain ⟨M1, e1, e2⟩ := m_lays_4 h.b hf 2000 0 0 M (by rw [puA_0]; exact h) hr (by omega) (by omega) (by omega)
  refine ⟨M1, ?_, e2⟩
  unfold fn_Mo_laysRow fuel0
  simp (disch := omega) only [zlit, zI_add, zI_sub, zI_mul, zI_neg, zI_lt, zI_le, zI_eq, zI_cl, zI_max, zI_min, zI_abs, bnd_ok, bnd_ex, lm_eq, li_eq, grd_inb, grd_ser, grd_z, grd_lt, if_true, if_false, if_pos, if_neg, e1]
theorem Mse.scr {M : Mm} {p n : Int} {a : Int → Int} (h : Mse M p n a) (i : Nat) (x : Int32) : Mse (mset M 38 i x) p n a := h.set (by decide) i x
theorem m_turns_2 {p n : Int} {a : Int → Int} : ∀ (k : Nat) (i : Int) (M : Mm), Mse M p n a → (∀ x, 0 ≤ x → x < i → M 38 x.toNat = zI (a (n - 1 - x))) → 0 ≤ i → i ≤ n → n - i < k → ∃ M1, fn_Mo_turns_2 (zI p) k (zI i) M = some (.inl (zI (chF a (fun x => a (n - 1 - x)) 0 n 0)), M1) ∧ Mse M1 p n (puA a (fun x => a (n - 1 - x)) n) ∧ Fm p M M1 := by
  intro k
  induction k with
  | zero => intros; omega
  | succ k ih =>
    intro i M h hr h0 h1 h2
    have hn := h.n
    rw [fn_Mo_turns_2]
    by_cases c : n ≤ i
    · obtain ⟨M1, e1, e2⟩ := h.lays (f := fun x => a (n - 1 - x)) (fun x _ _ => h.b _) (fun x x0 x1 => hr x x0 (by omega))
      refine ⟨M1, ?_, e2⟩
      simp (disch := omega) only [zlit, zI_add, zI_sub, zI_mul, zI_neg, zI_lt, zI_le, zI_eq, zI_cl, zI_max, zI_min, zI_abs, bnd_ok, bnd_ex, lm_eq, li_eq, grd_inb, grd_ser, grd_z, grd_lt, if_true, if_false, if_pos, if_neg, h.many, fn_Mo_turns_37, e1]
    · obtain ⟨M1, e1, e2, e3⟩ := ih (i + 1) (mset M 38 i.toNat (zI (a (n - 1 - i)))) (h.scr _ _) (fun x x0 x1 => by
        by_cases e : x = i
        · rw [e, mset_at]
        · rw [mset_oth _ _ _ _ (by omega)]
          exact hr x x0 (by omega)) (by omega) (by omega) (by omega)
      refine ⟨M1, ?_, e2, (Fm.scr M _ _).tr e3⟩
      simp (disch := omega) only [zlit, zI_add, zI_sub, zI_mul, zI_neg, zI_lt, zI_le, zI_eq, zI_cl, zI_max, zI_min, zI_abs, bnd_ok, bnd_ex, lm_eq, li_eq, grd_inb, grd_ser, grd_z, grd_lt, if_true, if_false, if_pos, if_neg, h.many, h.at, e1]
theorem Mse.turns {M : Mm} {p n : Int} {a : Int → Int} (h : Mse M p n a) : ∃ M1, fn_Mo_turns (zI p) M = some (.inl (zI (chF a (fun x => a (n - 1 - x)) 0 n 0)), M1) ∧ Mse M1 p n (fun x => a (n - 1 - x)) ∧ Fm p M M1 := by
  have hn := h.n
  obtain ⟨M1, e1, e2, e3⟩ := m_turns_2 2000 0 M h (fun x x0 x1 => by omega) (by omega) (by omega) (by omega)
  refine ⟨M1, ?_, e2.congr (fun x x0 x1 => puA_lt _ _ x0 x1) (fun x => h.b _), e3⟩
  unfold fn_Mo_turns fuel0
  simp (disch := omega) only [zlit, zI_add, zI_sub, zI_mul, zI_neg, zI_lt, zI_le, zI_eq, zI_cl, zI_max, zI_min, zI_abs, bnd_ok, bnd_ex, lm_eq, li_eq, grd_inb, grd_ser, grd_z, grd_lt, if_true, if_false, if_pos, if_neg, e1]
theorem m_smooths_2 {p n w : Int} {a : Int → Int} (hw : 1 ≤ w ∧ w ≤ 9) : ∀ (k : Nat) (i : Int) (M : Mm), Mse M p n a → (∀ x, 0 ≤ x → x < i → M 38 x.toNat = zI (mnF a n w x)) → 0 ≤ i → i ≤ n → n - i < k → ∃ M1, fn_Mo_smooths_2 (zI p) (zI w) k (zI i) M = some (.inl (zI (chF a (mnF a n w) 0 n 0)), M1) ∧ Mse M1 p n (puA a (mnF a n w) n) ∧ Fm p M M1 := by
  intro k
  induction k with
  | zero => intros; omega
  | succ k ih =>
    intro i M h hr h0 h1 h2
    have hn := h.n
    rw [fn_Mo_smooths_2]
    by_cases c : n ≤ i
    · obtain ⟨M1, e1, e2⟩ := h.lays (f := mnF a n w) (fun x x0 x1 => mnF_b h.b ⟨x0, x1⟩ hw.1) (fun x x0 x1 => hr x x0 (by omega))
      refine ⟨M1, ?_, e2⟩
      simp (disch := omega) only [zlit, zI_add, zI_sub, zI_mul, zI_neg, zI_lt, zI_le, zI_eq, zI_cl, zI_max, zI_min, zI_abs, bnd_ok, bnd_ex, lm_eq, li_eq, grd_inb, grd_ser, grd_z, grd_lt, if_true, if_false, if_pos, if_neg, h.many, fn_Mo_smooths_66, e1]
    · obtain ⟨M1, e1, e2, e3⟩ := ih (i + 1) (mset M 38 i.toNat (zI (mnF a n w i))) (h.scr _ _) (fun x x0 x1 => by
        by_cases e : x = i
        · rw [e, mset_at]
        · rw [mset_oth _ _ _ _ (by omega)]
          exact hr x x0 (by omega)) (by omega) (by omega) (by omega)
      refine ⟨M1, ?_, e2, (Fm.scr M _ _).tr e3⟩
      have hs := sumF_b h.b (i := max (i - w) 0) (j := min (i + w) (n - 1) + 1) (s := 0) (by omega)
      have et := h.total (f := max (i - w) 0) (t := min (i + w) (n - 1)) (by omega) (by omega) (by omega)
      have em : max 0 (i - w) = max (i - w) 0 := by omega
      have en : min (n - 1) (i + w) = min (i + w) (n - 1) := by omega
      have ef : sumF a (max (i - w) 0) (min (i + w) (n - 1) + 1) 0 / (min (i + w) (n - 1) - max (i - w) 0 + 1) = mnF a n w i := rfl
      simp (disch := omega) only [zlit, zI_add, zI_sub, zI_mul, zI_neg, zI_lt, zI_le, zI_eq, zI_cl, zI_max, zI_min, zI_abs, bnd_ok, bnd_ex, lm_eq, li_eq, grd_inb, grd_ser, grd_z, grd_lt, if_true, if_false, if_pos, if_neg, h.many, mo_more, mo_less, em, en, et, mo_floor, ef, e1]
theorem Mse.smooths {M : Mm} {p n w : Int} {a : Int → Int} (h : Mse M p n a) (hw : 1 ≤ w ∧ w ≤ 9) : ∃ M1, fn_Mo_smooths (zI p) (zI w) M = some (.inl (zI (chF a (mnF a n w) 0 n 0)), M1) ∧ Mse M1 p n (puA a (mnF a n w) n) ∧ Fm p M M1 := by
  have hn := h.n
  obtain ⟨M1, e1, e2⟩ := m_smooths_2 hw 2000 0 M h (fun x x0 x1 => by omega) (by omega) (by omega) (by omega)
  refine ⟨M1, ?_, e2⟩
  unfold fn_Mo_smooths fuel0
  simp (disch := omega) only [zlit, zI_add, zI_sub, zI_mul, zI_neg, zI_lt, zI_le, zI_eq, zI_cl, zI_max, zI_min, zI_abs, bnd_ok, bnd_ex, lm_eq, li_eq, grd_inb, grd_ser, grd_z, grd_lt, if_true, if_false, if_pos, if_neg, e1]
theorem m_clips_3 {p n lo hi : Int} {a : Int → Int} (hl : -99 ≤ lo ∧ lo ≤ hi) (hh : hi ≤ 99) : ∀ (k : Nat) (i : Int) (M : Mm), Mse M p n a → (∀ x, 0 ≤ x → x < i → M 38 x.toNat = zI (clF a lo hi x)) → 0 ≤ i → i ≤ n → n - i < k → ∃ M1, fn_Mo_clips_3 (zI p) (zI lo) (zI hi) k (zI i) M = some (.inl (zI (chF a (clF a lo hi) 0 n 0)), M1) ∧ Mse M1 p n (puA a (clF a lo hi) n) ∧ Fm p M M1 := by
  intro k
  induction k with
  | zero => intros; omega
  | succ k ih =>
    intro i M h hr h0 h1 h2
    have hn := h.n
    rw [fn_Mo_clips_3]
    by_cases c : n ≤ i
    · obtain ⟨M1, e1, e2⟩ := h.lays (f := clF a lo hi) (fun x x0 x1 => by unfold clF; omega) (fun x x0 x1 => hr x x0 (by omega))
      refine ⟨M1, ?_, e2⟩
      simp (disch := omega) only [zlit, zI_add, zI_sub, zI_mul, zI_neg, zI_lt, zI_le, zI_eq, zI_cl, zI_max, zI_min, zI_abs, bnd_ok, bnd_ex, lm_eq, li_eq, grd_inb, grd_ser, grd_z, grd_lt, if_true, if_false, if_pos, if_neg, h.many, fn_Mo_clips_41, e1]
    · have b1 := h.b i
      obtain ⟨M1, e1, e2, e3⟩ := ih (i + 1) (mset M 38 i.toNat (zI (clF a lo hi i))) (h.scr _ _) (fun x x0 x1 => by
        by_cases e : x = i
        · rw [e, mset_at]
        · rw [mset_oth _ _ _ _ (by omega)]
          exact hr x x0 (by omega)) (by omega) (by omega) (by omega)
      refine ⟨M1, ?_, e2, (Fm.scr M _ _).tr e3⟩
      have ec : max lo (min hi (a i)) = clF a lo hi i := by unfold clF; omega
      simp (disch := omega) only [zlit, zI_add, zI_sub, zI_mul, zI_neg, zI_lt, zI_le, zI_eq, zI_cl, zI_max, zI_min, zI_abs, bnd_ok, bnd_ex, lm_eq, li_eq, grd_inb, grd_ser, grd_z, grd_lt, if_true, if_false, if_pos, if_neg, h.many, h.at, mo_less, mo_more, ec, e1]
theorem Mse.clips {M : Mm} {p n lo hi : Int} {a : Int → Int} (h : Mse M p n a) (hl : -99 ≤ lo ∧ lo ≤ hi) (hh : hi ≤ 99) : ∃ M1, fn_Mo_clips (zI p) (zI lo) (zI hi) M = some (.inl (zI (chF a (clF a lo hi) 0 n 0)), M1) ∧ Mse M1 p n (puA a (clF a lo hi) n) ∧ Fm p M M1 := by
  have hn := h.n
  obtain ⟨M1, e1, e2⟩ := m_clips_3 hl hh 2000 0 M h (fun x x0 x1 => by omega) (by omega) (by omega) (by omega)
  refine ⟨M1, ?_, e2⟩
  unfold fn_Mo_clips fuel0
  simp (disch := omega) only [zlit, zI_add, zI_sub, zI_mul, zI_neg, zI_lt, zI_le, zI_eq, zI_cl, zI_max, zI_min, zI_abs, bnd_ok, bnd_ex, lm_eq, li_eq, grd_inb, grd_ser, grd_z, grd_lt, if_true, if_false, if_pos, if_neg, e1]
theorem m_shifts_2 {p n x : Int} {a : Int → Int} (ha : ∀ i, -99 ≤ a i ∧ a i ≤ 99) (hx : ∀ i, 0 ≤ i → i < n → -99 ≤ a i + x ∧ a i + x ≤ 99) : ∀ (k : Nat) (i : Int) (M : Mm), Mse M p n (puA a (fun y => a y + x) i) → 0 ≤ i → i ≤ n → n - i < k → ∃ M1, fn_Mo_shifts_2 (zI p) (zI x) k (zI i) M = some (.inl (zI (sumF (puA a (fun y => a y + x) n) 0 n 0)), M1) ∧ Mse M1 p n (puA a (fun y => a y + x) n) ∧ Fm p M M1 := by
  intro k
  induction k with
  | zero => intros; omega
  | succ k ih =>
    intro i M h h0 h1 h2
    have hv := h.s
    have hn := h.n
    rw [fn_Mo_shifts_2]
    by_cases c : n ≤ i
    · have e : i = n := by omega
      rw [e] at h
      have et := h.total (f := 0) (t := n - 1) (by omega) (by omega) (by omega)
      rw [Int.sub_add_cancel] at et
      refine ⟨M, ?_, h, Fm.rf p M⟩
      simp (disch := omega) only [zlit, zI_add, zI_sub, zI_mul, zI_neg, zI_lt, zI_le, zI_eq, zI_cl, zI_max, zI_min, zI_abs, bnd_ok, bnd_ex, lm_eq, li_eq, grd_inb, grd_ser, grd_z, grd_lt, if_true, if_false, if_pos, if_neg, h.many, fn_Mo_shifts_31, et]
    · have e : puA a (fun y => a y + x) i i = a i := puA_at a _ (by omega)
      have hp := h.put (j := i) (x := a i + x) (by omega) (hx i h0 (by omega))
      rw [show a i + x = (fun y => a y + x) i from rfl, puA_next a _ h0] at hp
      obtain ⟨M1, e1, e2, e3⟩ := ih (i + 1) _ hp (by omega) (by omega) (by omega)
      refine ⟨M1, ?_, e2, (Fm.cell M _ hv.1 (by omega)).tr e3⟩
      simp (disch := omega) only [zlit, zI_add, zI_sub, zI_mul, zI_neg, zI_lt, zI_le, zI_eq, zI_cl, zI_max, zI_min, zI_abs, bnd_ok, bnd_ex, lm_eq, li_eq, grd_inb, grd_ser, grd_z, grd_lt, if_true, if_false, if_pos, if_neg, h.many, h.at, e, mo_lay hv, e1]
theorem Mse.shifts {M : Mm} {p n x : Int} {a : Int → Int} (h : Mse M p n a) (hx : ∀ i, 0 ≤ i → i < n → -99 ≤ a i + x ∧ a i + x ≤ 99) : ∃ M1, fn_Mo_shifts (zI p) (zI x) M = some (.inl (zI (sumF (puA a (fun y => a y + x) n) 0 n 0)), M1) ∧ Mse M1 p n (puA a (fun y => a y + x) n) ∧ Fm p M M1 := by
  have hn := h.n
  obtain ⟨M1, e1, e2⟩ := m_shifts_2 h.b hx 2000 0 M (by rw [puA_0]; exact h) (by omega) (by omega) (by omega)
  refine ⟨M1, ?_, e2⟩
  unfold fn_Mo_shifts fuel0
  simp (disch := omega) only [zlit, zI_add, zI_sub, zI_mul, zI_neg, zI_lt, zI_le, zI_eq, zI_cl, zI_max, zI_min, zI_abs, bnd_ok, bnd_ex, lm_eq, li_eq, grd_inb, grd_ser, grd_z, grd_lt, if_true, if_false, if_pos, if_neg, e1]
theorem m_steps_10 {p n : Int} {a : Int → Int} (ha : ∀ i, -99 ≤ a i ∧ a i ≤ 99) (hx : ∀ i, 0 ≤ i → i < n - 1 → -99 ≤ spF a i ∧ spF a i ≤ 99) (hn0 : 0 < n) : ∀ (k : Nat) (i : Int) (M : Mm), Mse M p n (puA a (spF a) i) → 0 ≤ i → i ≤ n - 1 → n - 1 - i < k → ∃ M1, fn_Mo_steps_10 (zI p) (zI (n - 1)) k (zI i) M = some (.inl (zI (n - 1)), M1) ∧ Mse M1 p (n - 1) (puA a (spF a) (n - 1)) ∧ Fm p M M1 := by
  intro k
  induction k with
  | zero => intros; omega
  | succ k ih =>
    intro i M h h0 h1 h2
    have hv := h.s
    have hn := h.n
    rw [fn_Mo_steps_10]
    by_cases c : n - 1 ≤ i
    · have e : i = n - 1 := by omega
      rw [e] at h
      obtain ⟨M1, e1, e2, e3⟩ := h.close (m := n - 1) (by omega)
      refine ⟨M1, ?_, e2, e3⟩
      simp (disch := omega) only [zlit, zI_add, zI_sub, zI_mul, zI_neg, zI_lt, zI_le, zI_eq, zI_cl, zI_max, zI_min, zI_abs, bnd_ok, bnd_ex, lm_eq, li_eq, grd_inb, grd_ser, grd_z, grd_lt, if_true, if_false, if_pos, if_neg, fn_Mo_steps_42, e1]
    · have e1 : puA a (spF a) i (i + 1) = a (i + 1) := puA_at a _ (by omega)
      have e2 : puA a (spF a) i i = a i := puA_at a _ (by omega)
      have es : a (i + 1) - a i = spF a i := rfl
      have hp := h.put (j := i) (x := spF a i) (by omega) (hx i h0 (by omega))
      rw [puA_next a _ h0] at hp
      obtain ⟨M1, f1, f2, f3⟩ := ih (i + 1) _ hp (by omega) (by omega) (by omega)
      refine ⟨M1, ?_, f2, (Fm.cell M _ hv.1 (by omega)).tr f3⟩
      simp (disch := omega) only [zlit, zI_add, zI_sub, zI_mul, zI_neg, zI_lt, zI_le, zI_eq, zI_cl, zI_max, zI_min, zI_abs, bnd_ok, bnd_ex, lm_eq, li_eq, grd_inb, grd_ser, grd_z, grd_lt, if_true, if_false, if_pos, if_neg, h.at, e1, e2, es, mo_lay hv, f1]
theorem Mse.steps {M : Mm} {p n : Int} {a : Int → Int} (h : Mse M p n a) (hx : ∀ i, 0 ≤ i → i < n - 1 → -99 ≤ spF a i ∧ spF a i ≤ 99) (hn0 : 0 < n) : ∃ M1, fn_Mo_steps (zI p) M = some (.inl (zI (n - 1)), M1) ∧ Mse M1 p (n - 1) (puA a (spF a) (n - 1)) ∧ Fm p M M1 := by
  have hn := h.n
  obtain ⟨M1, e1, e2⟩ := m_steps_10 h.b hx hn0 2000 0 M (by rw [puA_0]; exact h) (by omega) (by omega) (by omega)
  refine ⟨M1, ?_, e2⟩
  unfold fn_Mo_steps fuel0
  simp (disch := omega) only [zlit, zI_add, zI_sub, zI_mul, zI_neg, zI_lt, zI_le, zI_eq, zI_cl, zI_max, zI_min, zI_abs, bnd_ok, bnd_ex, lm_eq, li_eq, grd_inb, grd_ser, grd_z, grd_lt, if_true, if_false, if_pos, if_neg, h.many, e1]
/-! may it be? -/
theorem m_cShift_20 {M : Mm} {v n x : Int} {a : Int → Int} (h : Mse M v n a) (hx : -99 ≤ x ∧ x ≤ 99) : ∀ (k : Nat) (i : Int), 0 ≤ i → i ≤ n → n - i < k → fn_Mo_cannotShift_20 (zI v) (zI x) k (zI i) M = some (.inl (zI (if al (fun i => decide (-99 ≤ a i + x ∧ a i + x ≤ 99)) i n = true then 0 else 3)), M) := by
  have hv := h.s
  have hn := h.n
  intro k
  induction k with
  | zero => intros; omega
  | succ k ih =>
    intro i h0 h1 h2
    have b1 := h.b i
    rw [fn_Mo_cannotShift_20]
    by_cases c : n ≤ i
    · rw [if_pos (al_stop c)]
      simp (disch := omega) only [zlit, zI_add, zI_sub, zI_mul, zI_neg, zI_lt, zI_le, zI_eq, zI_cl, zI_max, zI_min, zI_abs, bnd_ok, bnd_ex, lm_eq, li_eq, grd_inb, grd_ser, grd_z, grd_lt, if_true, if_false, if_pos, if_neg, h.many]
    · by_cases c2 : -99 ≤ a i + x ∧ a i + x ≤ 99
      · rw [ad_go (q := fun i => -99 ≤ a i + x ∧ a i + x ≤ 99) (i := i) (by omega) c2]
        simp (disch := omega) only [zlit, zI_add, zI_sub, zI_mul, zI_neg, zI_lt, zI_le, zI_eq, zI_cl, zI_max, zI_min, zI_abs, bnd_ok, bnd_ex, lm_eq, li_eq, grd_inb, grd_ser, grd_z, grd_lt, if_true, if_false, if_pos, if_neg, h.many, h.at, mo_value]
        exact ih (i + 1) (by omega) (by omega) (by omega)
      · rw [ad_no (q := fun i => -99 ≤ a i + x ∧ a i + x ≤ 99) (i := i) (by omega) c2]
        simp (disch := omega) only [zlit, zI_add, zI_sub, zI_mul, zI_neg, zI_lt, zI_le, zI_eq, zI_cl, zI_max, zI_min, zI_abs, bnd_ok, bnd_ex, lm_eq, li_eq, grd_inb, grd_ser, grd_z, grd_lt, if_true, if_false, if_pos, if_neg, h.many, h.at, mo_value]
        rfl
theorem m_cStep_21 {M : Mm} {v n : Int} {a : Int → Int} (h : Mse M v n a) : ∀ (k : Nat) (i : Int), 1 ≤ i → i ≤ max n 1 → max n 1 - i < k → fn_Mo_cannotStep_21 (zI v) k (zI i) M = some (.inl (zI (if al (fun i => decide (-99 ≤ a i - a (i - 1) ∧ a i - a (i - 1) ≤ 99)) i n = true then 0 else 2)), M) := by
  have hv := h.s
  have hn := h.n
  intro k
  induction k with
  | zero => intros; omega
  | succ k ih =>
    intro i h0 h1 h2
    have b1 := h.b i
    have b2 := h.b (i - 1)
    rw [fn_Mo_cannotStep_21]
    by_cases c : n ≤ i
    · rw [if_pos (al_stop c)]
      simp (disch := omega) only [zlit, zI_add, zI_sub, zI_mul, zI_neg, zI_lt, zI_le, zI_eq, zI_cl, zI_max, zI_min, zI_abs, bnd_ok, bnd_ex, lm_eq, li_eq, grd_inb, grd_ser, grd_z, grd_lt, if_true, if_false, if_pos, if_neg, h.many]
    · by_cases c2 : -99 ≤ a i - a (i - 1) ∧ a i - a (i - 1) ≤ 99
      · rw [ad_go (q := fun i => -99 ≤ a i - a (i - 1) ∧ a i - a (i - 1) ≤ 99) (i := i) (by omega) c2]
        simp (disch := omega) only [zlit, zI_add, zI_sub, zI_mul, zI_neg, zI_lt, zI_le, zI_eq, zI_cl, zI_max, zI_min, zI_abs, bnd_ok, bnd_ex, lm_eq, li_eq, grd_inb, grd_ser, grd_z, grd_lt, if_true, if_false, if_pos, if_neg, h.many, h.at, mo_value]
        exact ih (i + 1) (by omega) (by omega) (by omega)
      · rw [ad_no (q := fun i => -99 ≤ a i - a (i - 1) ∧ a i - a (i - 1) ≤ 99) (i := i) (by omega) c2]
        simp (disch := omega) only [zlit, zI_add, zI_sub, zI_mul, zI_neg, zI_lt, zI_le, zI_eq, zI_cl, zI_max, zI_min, zI_abs, bnd_ok, bnd_ex, lm_eq, li_eq, grd_inb, grd_ser, grd_z, grd_lt, if_true, if_false, if_pos, if_neg, h.many, h.at, mo_value]
        rfl
