/-! THE MODEL'S parse; arguments that a kind does not use -/
def FPm (M M1 : Mm) : Prop := (∀ j, j ≠ 32 → j ≠ 41 → j ≠ 42 → j ≠ 43 → j ≠ 44 → M1 j = M j) ∧ (∀ i, i ≠ 18 → i ≠ 19 → i ≠ 20 → i ≠ 21 → i ≠ 22 → M1 32 i = M 32 i) ∧ M1 32 18 = zI 0
theorem Mo_parse {cnt : Int} {tx : Int → Int} {M : Mm} (hc : 0 ≤ cnt ∧ cnt ≤ 60) (ht : ∀ i, 32 ≤ tx i ∧ tx i ≤ 126) (h : IMt cnt tx M) : ((prR cnt tx 61 0 1).1 = true → ∃ M1, fn_Mo_parse M = some (.inl (), M1) ∧ M1 32 22 = zI 0 ∧ M1 32 21 = zI (prR cnt tx 61 0 1).2 ∧ ARs cnt tx (prR cnt tx 61 0 1).2 M1 ∧ FPm M M1) ∧ ((prR cnt tx 61 0 1).1 = false → ∃ M1, fn_Mo_parse M = some (.inl (), M1) ∧ M1 32 22 = zI 1 ∧ M1 32 20 = zI (prR cnt tx 61 0 1).2 ∧ FPm M M1) := by
  have hx : fn_Mo_parse M = bnd (fn_Mo_command (mset (mset (mset (mset (mset M 32 19 (zI cnt)) 32 18 (zI 0)) 32 20 (zI 0)) 32 21 (zI 0)) 32 22 (zI 0))) (fun _ M52 => fn_Mo_parse_32 2000 M52) := by
    unfold fn_Mo_parse
    rw [h.1, lm_eq, lm_eq, lm_eq, lm_eq, lm_eq]
    rfl
  have k0 : MP cnt tx 0 0 (mset (mset (mset (mset (mset M 32 19 (zI cnt)) 32 18 (zI 0)) 32 20 (zI 0)) 32 21 (zI 0)) 32 22 (zI 0)) := ⟨hc, ht, by omega, .inl rfl, by rw [mset_oth _ _ _ _ (by decide), mset_oth _ _ _ _ (by decide), mset_oth _ _ _ _ (by decide), mset_oth _ _ _ _ (by decide), mset_at], by rw [mset_oth _ _ _ _ (by decide), mset_oth _ _ _ _ (by decide), mset_at], mset_at _ _ _ _, fun i i0 i1 => by rw [mset_ne _ _ _ (by decide), mset_ne _ _ _ (by decide), mset_ne _ _ _ (by decide), mset_ne _ _ _ (by decide), mset_ne _ _ _ (by decide)]; exact h.2 i i0 i1⟩
  have k1 : mset (mset (mset (mset (mset M 32 19 (zI cnt)) 32 18 (zI 0)) 32 20 (zI 0)) 32 21 (zI 0)) 32 22 (zI 0) 32 21 = zI ((0 : Nat) : Int) := by rw [mset_oth _ _ _ _ (by decide), mset_at]; rfl
  have k2 : ∀ j, j ≠ 32 → mset (mset (mset (mset (mset M 32 19 (zI cnt)) 32 18 (zI 0)) 32 20 (zI 0)) 32 21 (zI 0)) 32 22 (zI 0) j = M j := fun j j1 => by rw [mset_ne _ _ _ j1, mset_ne _ _ _ j1, mset_ne _ _ _ j1, mset_ne _ _ _ j1, mset_ne _ _ _ j1]
  have k3 : ∀ i, i ≠ 18 → i ≠ 19 → i ≠ 20 → i ≠ 21 → i ≠ 22 → mset (mset (mset (mset (mset M 32 19 (zI cnt)) 32 18 (zI 0)) 32 20 (zI 0)) 32 21 (zI 0)) 32 22 (zI 0) 32 i = M 32 i := fun i i1 i2 i3 i4 i5 => by rw [mset_oth _ _ _ _ i5, mset_oth _ _ _ _ i4, mset_oth _ _ _ _ i3, mset_oth _ _ _ _ i1, mset_oth _ _ _ _ i2]
  have k4 : mset (mset (mset (mset (mset M 32 19 (zI cnt)) 32 18 (zI 0)) 32 20 (zI 0)) 32 21 (zI 0)) 32 22 (zI 0) 32 18 = zI 0 := by rw [mset_oth _ _ _ _ (by decide), mset_oth _ _ _ _ (by decide), mset_oth _ _ _ _ (by decide), mset_at]
  generalize mset (mset (mset (mset (mset M 32 19 (zI cnt)) 32 18 (zI 0)) 32 20 (zI 0)) 32 21 (zI 0)) 32 22 (zI 0) = M0 at *
  have fp : ∀ M1, FX M0 M1 → FPm M M1 := fun M1 f => ⟨fun j j1 j2 j3 j4 j5 => (f.1 j j1 j2 j3 j4 j5).trans (k2 j j1), fun i i1 i2 i3 i4 i5 => (f.2 i i3 i4 i5).trans (k3 i i1 i2 i3 i4 i5), by rw [f.2 18 (by decide) (by decide) (by decide)]; exact k4⟩
  have hr := Mo_prog (cnt := cnt) (tx := tx) 61 2000 0 M0 k0 k1 (fun i hi => absurd hi (by omega)) (by show 7 * ((0 : Nat) : Int) ≤ 0; omega) (by show cnt - 0 < _; omega) (by show cnt - 0 < _; omega)
  rw [← hx] at hr
  refine ⟨fun y => ?_, fun y => ?_⟩
  · obtain ⟨M1, e1, e2, e3, e4, e5⟩ := hr.1 y
    exact ⟨M1, e1, e2, e3, e4, fp M1 e5⟩
  · obtain ⟨M1, e1, e2, e3, e4⟩ := hr.2 y
    exact ⟨M1, e1, e2, e3, fp M1 e4⟩
theorem mo_args {k : Nat} (hk : k < 9) {p x y x' y' : Int32} (hx : 2 ≤ kcF (pzS k) → x' = x) (hy : 3 ≤ kcF (pzS k) → y' = y) (M : Mm) : fn_Mo_why (zI (k : Int)) p x' y' M = fn_Mo_why (zI (k : Int)) p x y M ∧ fn_Mo_does (zI (k : Int)) p x' y' M = fn_Mo_does (zI (k : Int)) p x y M := by
  rcases (by omega : k = 0 ∨ k = 1 ∨ k = 2 ∨ k = 3 ∨ k = 4 ∨ k = 5 ∨ k = 6 ∨ k = 7 ∨ k = 8) with rfl | rfl | rfl | rfl | rfl | rfl | rfl | rfl | rfl
  · rw [hx (by decide)]
    have e0 : zI ((0 : Nat) : Int) = 0 := by decide
    unfold fn_Mo_why fn_Mo_does
    exact ⟨by simp only [if_pos e0], by simp only [if_pos e0]⟩
  · rw [hx (by decide), hy (by decide)]; exact ⟨rfl, rfl⟩
  · rw [hx (by decide)]
    have e0 : ¬ zI ((2 : Nat) : Int) = 0 := by decide
    have e1 : ¬ zI ((2 : Nat) : Int) = 1 := by decide
    have e2 : zI ((2 : Nat) : Int) = 2 := by decide
    unfold fn_Mo_why fn_Mo_does
    exact ⟨by simp only [if_neg e0, if_neg e1, if_pos e2], by simp only [if_neg e0, if_neg e1, if_pos e2]⟩
  · rw [hx (by decide)]
    have e0 : ¬ zI ((3 : Nat) : Int) = 0 := by decide
    have e1 : ¬ zI ((3 : Nat) : Int) = 1 := by decide
    have e2 : ¬ zI ((3 : Nat) : Int) = 2 := by decide
    have e3 : zI ((3 : Nat) : Int) = 3 := by decide
    unfold fn_Mo_why fn_Mo_does
    exact ⟨by simp only [if_neg e0, if_neg e1, if_neg e2, if_pos e3], by simp only [if_neg e0, if_neg e1, if_neg e2, if_pos e3]⟩
  · have e0 : ¬ zI ((4 : Nat) : Int) = 0 := by decide
    have e1 : ¬ zI ((4 : Nat) : Int) = 1 := by decide
    have e2 : ¬ zI ((4 : Nat) : Int) = 2 := by decide
    have e3 : ¬ zI ((4 : Nat) : Int) = 3 := by decide
    have e4 : zI ((4 : Nat) : Int) = 4 := by decide
    unfold fn_Mo_why fn_Mo_does
    exact ⟨by simp only [if_neg e0, if_neg e1, if_neg e2, if_neg e3, if_pos e4], by simp only [if_neg e0, if_neg e1, if_neg e2, if_neg e3, if_pos e4]⟩
  · rw [hx (by decide)]
    have e0 : ¬ zI ((5 : Nat) : Int) = 0 := by decide
    have e1 : ¬ zI ((5 : Nat) : Int) = 1 := by decide
    have e2 : ¬ zI ((5 : Nat) : Int) = 2 := by decide
    have e3 : ¬ zI ((5 : Nat) : Int) = 3 := by decide
    have e4 : ¬ zI ((5 : Nat) : Int) = 4 := by decide
    have e5 : zI ((5 : Nat) : Int) = 5 := by decide
    unfold fn_Mo_why fn_Mo_does
    exact ⟨by simp only [if_neg e0, if_neg e1, if_neg e2, if_neg e3, if_neg e4, if_pos e5], by simp only [if_neg e0, if_neg e1, if_neg e2, if_neg e3, if_neg e4, if_pos e5]⟩
  · rw [hx (by decide)]
    have e0 : ¬ zI ((6 : Nat) : Int) = 0 := by decide
    have e1 : ¬ zI ((6 : Nat) : Int) = 1 := by decide
    have e2 : ¬ zI ((6 : Nat) : Int) = 2 := by decide
    have e3 : ¬ zI ((6 : Nat) : Int) = 3 := by decide
    have e4 : ¬ zI ((6 : Nat) : Int) = 4 := by decide
    have e5 : ¬ zI ((6 : Nat) : Int) = 5 := by decide
    have e6 : zI ((6 : Nat) : Int) = 6 := by decide
    unfold fn_Mo_why fn_Mo_does
    exact ⟨by simp only [if_neg e0, if_neg e1, if_neg e2, if_neg e3, if_neg e4, if_neg e5, if_pos e6], by simp only [if_neg e0, if_neg e1, if_neg e2, if_neg e3, if_neg e4, if_neg e5, if_pos e6]⟩
  · have e0 : ¬ zI ((7 : Nat) : Int) = 0 := by decide
    have e1 : ¬ zI ((7 : Nat) : Int) = 1 := by decide
    have e2 : ¬ zI ((7 : Nat) : Int) = 2 := by decide
    have e3 : ¬ zI ((7 : Nat) : Int) = 3 := by decide
    have e4 : ¬ zI ((7 : Nat) : Int) = 4 := by decide
    have e5 : ¬ zI ((7 : Nat) : Int) = 5 := by decide
    have e6 : ¬ zI ((7 : Nat) : Int) = 6 := by decide
    have e7 : zI ((7 : Nat) : Int) = 7 := by decide
    unfold fn_Mo_why fn_Mo_does
    exact ⟨by simp only [if_neg e0, if_neg e1, if_neg e2, if_neg e3, if_neg e4, if_neg e5, if_neg e6, if_pos e7], by simp only [if_neg e0, if_neg e1, if_neg e2, if_neg e3, if_neg e4, if_neg e5, if_neg e6, if_pos e7]⟩
  · rw [hx (by decide), hy (by decide)]; exact ⟨rfl, rfl⟩
