/-! THE CLASS'S SERIES, changed -/
theorem alen_ser {v : Nat} (hv : 2 ≤ v ∧ v ≤ 6) : alen (v + 5) = 20 := by
  rcases (by omega : v = 2 ∨ v = 3 ∨ v = 4 ∨ v = 5 ∨ v = 6) with rfl | rfl | rfl | rfl | rfl <;> rfl
theorem ser_put {M : Mm} {v : Nat} (hv : 2 ≤ v ∧ v ≤ 6) {j : Int} (hj : 0 ≤ j ∧ j < 20) (x : Int32) : fn_Se_put v (zI j) x M = some (.inl (), mset M (v + 5) j.toNat x) := by
  unfold fn_Se_put
  rw [grd_ser hv, wr (alen_ser hv) (by decide) (by omega)]
  rfl
/-- nothing but this series differs -/
def FvS (v : Nat) (M M' : Mm) : Prop := ∀ j, j ≠ v → j ≠ v + 5 → M' j = M j
theorem FvS.rf (v : Nat) (M : Mm) : FvS v M M := fun _ _ _ => rfl
theorem FvS.tr {v : Nat} {A B C : Mm} (h : FvS v A B) (k : FvS v B C) : FvS v A C := fun j h1 h2 => (k j h1 h2).trans (h j h1 h2)
theorem FvS.put (v : Nat) (M : Mm) (j : Nat) (x : Int32) : FvS v M (mset M (v + 5) j x) := fun _ _ h2 => mset_ne M j x h2
theorem FvS.cnt (v : Nat) (M : Mm) (j : Nat) (x : Int32) : FvS v M (mset M v j x) := fun _ h1 _ => mset_ne M j x h1
theorem Ser.put {M : Mm} {v : Nat} {n : Int} {a : Int → Int} (h : Ser M v n a) {j x : Int} (hj : 0 ≤ j ∧ j < n) (hx : -99 ≤ x ∧ x ≤ 99) : Ser (mset M (v + 5) j.toNat (zI x)) v n (upI a j x) := by
  refine ⟨h.v, h.n, ?_, fun i h0 h1 => ?_, fun i => ?_⟩
  · rw [mset_ne _ _ _ (by omega)]
    exact h.c
  · by_cases c : i = j
    · rw [c, mset_at, upI_eq]
    · rw [mset_oth _ _ _ _ (by omega), upI_ne _ _ c]
      exact h.e i h0 h1
  · have := h.b i
    by_cases c : i = j
    · rw [c, upI_eq]
      exact hx
    · rw [upI_ne _ _ c]
      exact this
theorem Ser.cnt {M : Mm} {v : Nat} {n : Int} {a : Int → Int} (h : Ser M v n a) {m : Int} (hm : 0 ≤ m ∧ m ≤ n) : Ser (mset M v 1 (zI m)) v m a := by
  have hn := h.n
  refine ⟨h.v, by omega, mset_at _ _ _ _, fun i h0 h1 => ?_, h.b⟩
  rw [mset_ne _ _ _ (by omega)]
  exact h.e i h0 (by omega)
/-- the values are there, the count comes last -/
theorem Ser.mk9 {M : Mm} {v : Nat} (hv : 2 ≤ v ∧ v ≤ 6) {m : Int} {b : Int → Int} (hm : 0 ≤ m ∧ m ≤ 20) (he : ∀ x, 0 ≤ x → x < m → M (v + 5) x.toNat = zI (b x)) (hb : ∀ i, -99 ≤ b i ∧ b i ≤ 99) : Ser (mset M v 1 (zI m)) v m b := by
  refine ⟨hv, hm, mset_at _ _ _ _, fun i h0 h1 => ?_, hb⟩
  rw [mset_ne _ _ _ (by omega)]
  exact he i h0 h1
theorem Ser.add {M : Mm} {v : Nat} {n : Int} {a : Int → Int} (h : Ser M v n a) {x : Int} (hx : -99 ≤ x ∧ x ≤ 99) (hn20 : n < 20) : ∃ M1, fn_Se_add v (zI x) M = some (.inl (), M1) ∧ Ser M1 v (n + 1) (upI a n x) ∧ FvS v M M1 := by
  have hv := h.v
  have hn := h.n
  have hc : mset M (v + 5) n.toNat (zI x) v 1 = zI n := by rw [mset_ne _ _ _ (by omega)]; exact h.c
  refine ⟨mset (mset M (v + 5) n.toNat (zI x)) v 1 (zI (n + 1)), ?_, ?_, (FvS.put v M _ _).tr (FvS.cnt v _ _ _)⟩
  · unfold fn_Se_add
    simp (disch := omega) only [zlit, zI_add, zI_sub, zI_mul, zI_neg, zI_lt, zI_le, zI_eq, zI_cl, zI_max, zI_min, zI_abs, bnd_ok, bnd_ex, lm_eq, li_eq, grd_inb, grd_ser, grd_z, grd_lt, if_true, if_false, if_pos, if_neg, h.full, h.c, ser_put hv, hc]
  · refine Ser.mk9 hv (by omega) (fun i h0 h1 => ?_) (fun i => ?_)
    · by_cases c : i = n
      · rw [c, mset_at, upI_eq]
      · rw [mset_oth _ _ _ _ (by omega), upI_ne _ _ c]
        exact h.e i h0 (by omega)
    · have := h.b i
      by_cases c : i = n
      · rw [c, upI_eq]
        exact hx
      · rw [upI_ne _ _ c]
        exact this
theorem Ser.replace {M : Mm} {v : Nat} {n : Int} {a : Int → Int} (h : Ser M v n a) {j : Int} (hj : 0 ≤ j ∧ j < n) (x : Int32) : fn_Se_replace v (zI j) x M = some (.inl (zI (a j)), mset M (v + 5) j.toNat x) := by
  have hv := h.v
  have hn := h.n
  unfold fn_Se_replace
  simp (disch := omega) only [zlit, zI_add, zI_sub, zI_mul, zI_neg, zI_lt, zI_le, zI_eq, zI_cl, zI_max, zI_min, zI_abs, bnd_ok, bnd_ex, lm_eq, li_eq, grd_inb, grd_ser, grd_z, grd_lt, if_true, if_false, if_pos, if_neg, h.at, ser_put hv]
def drA (a : Int → Int) (c i : Int) : Int → Int := fun x => if x < i - c then a (x + c) else a x
theorem drA_next (a : Int → Int) (c i : Int) : upI (drA a c i) (i - c) (a i) = drA a c (i + 1) := by
  funext x
  show (if x = i - c then a i else if x < i - c then a (x + c) else a x) = if x < i + 1 - c then a (x + c) else a x
  by_cases e : x = i - c
  · rw [if_pos e, if_pos (by omega), show x + c = i by omega]
  · rw [if_neg e]
    by_cases e2 : x < i - c
    · rw [if_pos e2, if_pos (by omega)]
    · rw [if_neg e2, if_neg (by omega)]
theorem c_drop_2 {v : Nat} {n c : Int} {a : Int → Int} (hb : ∀ i, -99 ≤ a i ∧ a i ≤ 99) (hc : 1 ≤ c ∧ c ≤ n) : ∀ (k : Nat) (i : Int) (M : Mm), Ser M v n (drA a c i) → c ≤ i → i ≤ n → n - i < k → ∃ M1, fn_Se_dropFirst_2 v (zI c) k (zI i) M = some (.inl (), M1) ∧ Ser M1 v (n - c) (fun x => a (x + c)) ∧ FvS v M M1 := by
  intro k
  induction k with
  | zero => intros; omega
  | succ k ih =>
    intro i M h h0 h1 h2
    have hv := h.v
    have hn := h.n
    rw [fn_Se_dropFirst_2]
    by_cases c1 : n ≤ i
    · refine ⟨mset M v 1 (zI (n - c)), ?_, (h.cnt (m := n - c) (by omega)).congr (fun x x1 x2 => if_pos (by omega)) (fun x => hb _), FvS.cnt v M _ _⟩
      simp (disch := omega) only [zlit, zI_add, zI_sub, zI_mul, zI_neg, zI_lt, zI_le, zI_eq, zI_cl, zI_max, zI_min, zI_abs, bnd_ok, bnd_ex, lm_eq, li_eq, grd_inb, grd_ser, grd_z, grd_lt, if_true, if_false, if_pos, if_neg, h.c, fn_Se_dropFirst_28]
    · have e : drA a c i i = a i := if_neg (by omega)
      have hp := h.put (j := i - c) (x := a i) (by omega) (hb i)
      rw [drA_next] at hp
      obtain ⟨M1, e1, e2, e3⟩ := ih (i + 1) _ hp (by omega) (by omega) (by omega)
      refine ⟨M1, ?_, e2, (FvS.put v M _ _).tr e3⟩
      simp (disch := omega) only [zlit, zI_add, zI_sub, zI_mul, zI_neg, zI_lt, zI_le, zI_eq, zI_cl, zI_max, zI_min, zI_abs, bnd_ok, bnd_ex, lm_eq, li_eq, grd_inb, grd_ser, grd_z, grd_lt, if_true, if_false, if_pos, if_neg, h.c, h.at, e, ser_put hv, e1]
theorem Ser.drop {M : Mm} {v : Nat} {n : Int} {a : Int → Int} (h : Ser M v n a) {c : Int} (hc : 1 ≤ c ∧ c ≤ n) : ∃ M1, fn_Se_dropFirst v (zI c) M = some (.inl (), M1) ∧ Ser M1 v (n - c) (fun x => a (x + c)) ∧ FvS v M M1 := by
  have hv := h.v
  have hn := h.n
  have h' : Ser M v n (drA a c c) := h.congr (fun i h0 h1 => (if_neg (by omega)).symm) (fun i => by
    have := h.b i
    have := h.b (i + c)
    unfold drA
    by_cases e : i < c - c
    · rw [if_pos e]; omega
    · rw [if_neg e]; omega)
  obtain ⟨M1, e1, e2⟩ := c_drop_2 h.b hc 2000 c M h' (by omega) (by omega) (by omega)
  refine ⟨M1, ?_, e2⟩
  unfold fn_Se_dropFirst fuel0
  simp (disch := omega) only [zlit, zI_add, zI_sub, zI_mul, zI_neg, zI_lt, zI_le, zI_eq, zI_cl, zI_max, zI_min, zI_abs, bnd_ok, bnd_ex, lm_eq, li_eq, grd_inb, grd_ser, grd_z, grd_lt, if_true, if_false, if_pos, if_neg, e1]
theorem c_become_2 {v w : Nat} {m : Int} {b : Int → Int} (hv : 2 ≤ v ∧ v ≤ 6) : ∀ (k : Nat) (i : Int) (M : Mm), Ser M w m b → (∀ x, 0 ≤ x → x < i → M (v + 5) x.toNat = zI (b x)) → 0 ≤ i → i ≤ m → m - i < k → ∃ M1, fn_Se_become_2 v w k (zI i) M = some (.inl (), M1) ∧ Ser M1 v m b ∧ FvS v M M1 := by
  intro k
  induction k with
  | zero => intros; omega
  | succ k ih =>
    intro i M h he h0 h1 h2
    have hw := h.v
    have hn := h.n
    rw [fn_Se_become_2]
    by_cases c1 : m ≤ i
    · refine ⟨mset M v 1 (zI m), ?_, Ser.mk9 hv hn (fun x x1 x2 => he x x1 (by omega)) h.b, FvS.cnt v M _ _⟩
      simp (disch := omega) only [zlit, zI_add, zI_sub, zI_mul, zI_neg, zI_lt, zI_le, zI_eq, zI_cl, zI_max, zI_min, zI_abs, bnd_ok, bnd_ex, lm_eq, li_eq, grd_inb, grd_ser, grd_z, grd_lt, if_true, if_false, if_pos, if_neg, h.c, fn_Se_become_26]
    · have hb := h.b i
      have hs : Ser (mset M (v + 5) i.toNat (zI (b i))) w m b := by
        by_cases e : v = w
        · rw [e]
          have := h.put (j := i) (x := b i) (by omega) hb
          refine this.congr (fun x x1 x2 => ?_) h.b
          by_cases e2 : x = i
          · rw [e2, upI_eq]
          · rw [upI_ne _ _ e2]
        · exact h.to (mset_ne _ _ _ (by omega)) (mset_ne _ _ _ (by omega))
      obtain ⟨M1, e1, e2, e3⟩ := ih (i + 1) _ hs (fun x x1 x2 => by
        by_cases e : x = i
        · rw [e, mset_at]
        · rw [mset_oth _ _ _ _ (by omega)]
          exact he x x1 (by omega)) (by omega) (by omega) (by omega)
      refine ⟨M1, ?_, e2, (FvS.put v M _ _).tr e3⟩
      simp (disch := omega) only [zlit, zI_add, zI_sub, zI_mul, zI_neg, zI_lt, zI_le, zI_eq, zI_cl, zI_max, zI_min, zI_abs, bnd_ok, bnd_ex, lm_eq, li_eq, grd_inb, grd_ser, grd_z, grd_lt, if_true, if_false, if_pos, if_neg, h.c, h.at, ser_put hv, e1]
theorem Ser.become {M : Mm} {w : Nat} {m : Int} {b : Int → Int} (h : Ser M w m b) {v : Nat} (hv : 2 ≤ v ∧ v ≤ 6) : ∃ M1, fn_Se_become v w M = some (.inl (), M1) ∧ Ser M1 v m b ∧ FvS v M M1 := by
  have hw := h.v
  have hn := h.n
  obtain ⟨M1, e1, e2⟩ := c_become_2 hv 2000 0 M h (fun x x1 x2 => by omega) (by omega) (by omega) (by omega)
  refine ⟨M1, ?_, e2⟩
  unfold fn_Se_become fuel0
  simp (disch := omega) only [zlit, zI_add, zI_sub, zI_mul, zI_neg, zI_lt, zI_le, zI_eq, zI_cl, zI_max, zI_min, zI_abs, bnd_ok, bnd_ex, lm_eq, li_eq, grd_inb, grd_ser, grd_z, grd_lt, if_true, if_false, if_pos, if_neg, e1]
/-! reversed -/
def rvA (a : Int → Int) (n i : Int) : Int → Int := fun x => if x < i ∨ n - 1 - i < x then a (n - 1 - x) else a x
theorem rvA_next (a : Int → Int) {n i : Int} (h : i < n - 1 - i) : upI (upI (rvA a n i) i (a (n - 1 - i))) (n - 1 - i) (a i) = rvA a n (i + 1) := by
  funext x
  show (if x = n - 1 - i then a i else if x = i then a (n - 1 - i) else if x < i ∨ n - 1 - i < x then a (n - 1 - x) else a x) = if x < i + 1 ∨ n - 1 - (i + 1) < x then a (n - 1 - x) else a x
  by_cases e : x = n - 1 - i
  · rw [if_pos e, if_pos (by omega), show n - 1 - x = i by omega]
  · rw [if_neg e]
    by_cases e2 : x = i
    · rw [if_pos e2, if_pos (by omega), show n - 1 - x = n - 1 - i by omega]
    · rw [if_neg e2]
      by_cases e3 : x < i ∨ n - 1 - i < x
      · rw [if_pos e3, if_pos (by omega)]
      · rw [if_neg e3, if_neg (by omega)]
/-- two for each pair that differs, from i on -/
def tn2 (a : Int → Int) (n : Int) : Nat → Int → Int → Int
  | 0, _, s => s
  | k + 1, i, s => if i < n - 1 - i then tn2 a n k (i + 1) (s + (if a (n - 1 - i) = a i then 0 else 2)) else s
theorem c_turn_11 {v : Nat} {n : Int} {a : Int → Int} (hb : ∀ i, -99 ≤ a i ∧ a i ≤ 99) : ∀ (k : Nat) (s i : Int) (M : Mm), Ser M v n (rvA a n i) → 0 ≤ i → i ≤ n → n - i < k → ∃ M1, fn_Se_turn_11 v (zI (n - 1)) k (zI s) (zI i) M = some (.inl (zI (tn2 a n k i s)), M1) ∧ Ser M1 v n (fun x => a (n - 1 - x)) ∧ FvS v M M1 := by
  intro k
  induction k with
  | zero => intros; omega
  | succ k ih =>
    intro s i M h h0 h9 h2
    have hv := h.v
    have hn := h.n
    rw [fn_Se_turn_11]
    by_cases c1 : i < n - 1 - i
    · have b1 := hb i
      have b2 := hb (n - 1 - i)
      have r1 : rvA a n i (n - 1 - i) = a (n - 1 - i) := if_neg (by omega)
      have r2 : rvA a n i i = a i := if_neg (by omega)
      have h1 := h.put (j := i) (x := a (n - 1 - i)) (by omega) b2
      have h3 := h1.put (j := n - 1 - i) (x := a i) (by omega) b1
      have r3 : upI (upI (rvA a n i) i (a (n - 1 - i))) (n - 1 - i) (a i) i = a (n - 1 - i) := by rw [upI_ne _ _ (by omega), upI_eq]
      have h4 := h3.at (i := i) h0 (by omega)
      rw [r3] at h4
      rw [rvA_next a c1] at h3
      unfold tn2
      rw [if_pos c1]
      by_cases c2 : a (n - 1 - i) = a i
      · obtain ⟨M1, e1, e2, e3⟩ := ih (s + 0) (i + 1) _ h3 (by omega) (by omega) (by omega)
        refine ⟨M1, ?_, e2, ((FvS.put v M _ _).tr (FvS.put v _ _ _)).tr e3⟩
        simp (disch := omega) only [zlit, zI_add, zI_sub, zI_mul, zI_neg, zI_lt, zI_le, zI_eq, zI_cl, zI_max, zI_min, zI_abs, bnd_ok, bnd_ex, lm_eq, li_eq, grd_inb, grd_ser, grd_z, grd_lt, if_true, if_false, if_pos, if_neg, h.at, r1, h.replace, r2, ser_put hv, h4, fn_Se_turn_57, e1]
      · obtain ⟨M1, e1, e2, e3⟩ := ih (s + 2) (i + 1) _ h3 (by omega) (by omega) (by omega)
        refine ⟨M1, ?_, e2, ((FvS.put v M _ _).tr (FvS.put v _ _ _)).tr e3⟩
        simp (disch := omega) only [zlit, zI_add, zI_sub, zI_mul, zI_neg, zI_lt, zI_le, zI_eq, zI_cl, zI_max, zI_min, zI_abs, bnd_ok, bnd_ex, lm_eq, li_eq, grd_inb, grd_ser, grd_z, grd_lt, if_true, if_false, if_pos, if_neg, h.at, r1, h.replace, r2, ser_put hv, h4, fn_Se_turn_57, e1]
    · refine ⟨M, ?_, h.congr (fun x x1 x2 => ?_) (fun x => hb _), FvS.rf v M⟩
      · unfold tn2
        simp (disch := omega) only [zlit, zI_add, zI_sub, zI_mul, zI_neg, zI_lt, zI_le, zI_eq, zI_cl, zI_max, zI_min, zI_abs, bnd_ok, bnd_ex, lm_eq, li_eq, grd_inb, grd_ser, grd_z, grd_lt, if_true, if_false, if_pos, if_neg]
      · unfold rvA
        by_cases c3 : x < i ∨ n - 1 - i < x
        · rw [if_pos c3]
        · rw [if_neg c3, show n - 1 - x = x by omega]
