/-! THE NINE CHANGES as steps of the law -/
theorem ftR (k : Nat) (p x y : Int) (N : Int → Int) (A : Int → Int → Int) : ftF k p x y N A ≤ 3 := by
  unfold ftF
  repeat' split
  all_goals omega
theorem whR (k : Nat) (p x y : Int) (N : Int → Int) (A : Int → Int → Int) : -2147483648 ≤ whF k p x y N A ∧ whF k p x y N A < 2147483648 := by
  have := ftR k p x y N A
  unfold whF
  by_cases c : k = 7 ∧ ftF k p x y N A = 3
  · rw [if_pos c]; omega
  · rw [if_neg c]; omega
theorem whR0 (k : Nat) (p x y : Int) (N : Int → Int) (A : Int → Int → Int) : ftF k p x y N A ≠ 0 ↔ 1 ≤ whF k p x y N A := by
  unfold whF
  by_cases c : k = 7 ∧ ftF k p x y N A = 3
  · rw [if_pos c]; omega
  · rw [if_neg c]; omega
theorem whR0' (k : Nat) (p x y : Int) (N : Int → Int) (A : Int → Int → Int) (h : ftF k p x y N A = 0) : whF k p x y N A = 0 := by
  unfold whF
  rw [if_neg (by omega), h]
  rfl
theorem ft3v (p x y : Int) (N : Int → Int) (A : Int → Int → Int) : ftF 3 p x y N A = if 0 ≤ p ∧ p < 4 then (if 0 ≤ x ∧ x < 4 then 0 else 1) else 1 := by
  unfold ftF
  by_cases c : 0 ≤ p ∧ p < 4
  · rw [if_neg (show ¬¬(0 ≤ p ∧ p < 4) from fun h => h c), if_pos c]
    rfl
  · rw [if_pos c, if_neg c]
theorem ft4v (p x y : Int) (N : Int → Int) (A : Int → Int → Int) : ftF 4 p x y N A = if 0 ≤ p ∧ p < 4 then 0 else 1 := by
  unfold ftF
  by_cases c : 0 ≤ p ∧ p < 4
  · rw [if_neg (show ¬¬(0 ≤ p ∧ p < 4) from fun h => h c), if_pos c]
    rfl
  · rw [if_pos c, if_neg c]
theorem ft3 {p x y : Int} {N : Int → Int} {A : Int → Int → Int} (h : ftF 3 p x y N A = 0) : (0 ≤ p ∧ p < 4) ∧ 0 ≤ x ∧ x < 4 := by
  rw [ft3v] at h
  by_cases c : 0 ≤ p ∧ p < 4
  · rw [if_pos c] at h
    by_cases c2 : 0 ≤ x ∧ x < 4
    · exact ⟨c, c2⟩
    · rw [if_neg c2] at h
      exact absurd h (by decide)
  · rw [if_neg c] at h
    exact absurd h (by decide)
theorem ft4 {p x y : Int} {N : Int → Int} {A : Int → Int → Int} (h : ftF 4 p x y N A = 0) : 0 ≤ p ∧ p < 4 := by
  rw [ft4v] at h
  by_cases c : 0 ≤ p ∧ p < 4
  · exact c
  · rw [if_neg c] at h
    exact absurd h (by decide)
theorem St_append {p a : Int} (hp : -2147483648 ≤ p ∧ p < 2147483648) (ha : -2147483648 ≤ a ∧ a < 2147483648) : StepOK (fn_SA_append (zI p) (zI a)) [(0, 1), (1, 2), (2, 3)] (fn_Mo_append (zI p) (zI a)) := by
  refine Change (k := 0) (p := p) (a := a) (b := 0) (by decide) hp ha (by decide) (fun M => rfl) ?_ ?_ (fn_Mo_appends (zI p) (zI a)) ?_ (fun N A hf => ⟨_, _, _, E_0 hf⟩)
  · intro N A h
    have e : ftF 0 p a 0 N A = 0 ∨ ftF 0 p a 0 N A = 1 ∨ ftF 0 p a 0 N A = 2 ∨ ftF 0 p a 0 N A = 3 := by
      unfold ftF
      repeat' split
      all_goals omega
    unfold whF
    rcases e with e | e | e | e
    · exact absurd e h
    · rw [e]; exact ⟨by decide, rfl, by decide⟩
    · rw [e]; exact ⟨by decide, rfl, by decide⟩
    · rw [e]; exact ⟨by decide, rfl, by decide⟩
  · intro N A M Mb hb K hf
    have hw : ¬ zI (whF 0 p a 0 N A) ≤ 0 := by
      rw [show (0 : Int32) = zI 0 from rfl, zI_le (whR 0 _ _ _ N A) (by omega)]
      have := (whR0 0 p a 0 N A).1 hf
      omega
    unfold fn_Mo_append
    rw [hb, bnd_ok, F_m0 (y := 0) hp ha (by decide) K, bnd_ok, if_neg hw]
    rfl
  · intro N A M Mb hb K hf
    have hw : zI (whF 0 p a 0 N A) ≤ 0 := by
      rw [(whR0' 0 p a 0 N A hf)]
      decide
    unfold fn_Mo_append
    rw [hb, bnd_ok, F_m0 (y := 0) hp ha (by decide) K, bnd_ok, if_pos hw]
theorem St_setValue {p a b : Int} (hp : -2147483648 ≤ p ∧ p < 2147483648) (ha : -2147483648 ≤ a ∧ a < 2147483648) (hbb : -2147483648 ≤ b ∧ b < 2147483648) : StepOK (fn_SA_setValue (zI p) (zI a) (zI b)) [(0, 1), (1, 2)] (fn_Mo_setValue (zI p) (zI a) (zI b)) := by
  refine Change (k := 1) (p := p) (a := a) (b := b) (by decide) hp ha hbb (fun M => rfl) ?_ ?_ (fn_Mo_sets (zI p) (zI a) (zI b)) ?_ (fun N A hf => ⟨_, _, _, E_1 hf⟩)
  · intro N A h
    have e : ftF 1 p a b N A = 0 ∨ ftF 1 p a b N A = 1 ∨ ftF 1 p a b N A = 2 := by
      unfold ftF
      repeat' split
      all_goals omega
    unfold whF
    rcases e with e | e | e
    · exact absurd e h
    · rw [e]; exact ⟨by decide, rfl, by decide⟩
    · rw [e]; exact ⟨by decide, rfl, by decide⟩
  · intro N A M Mb hb K hf
    have hw : ¬ zI (whF 1 p a b N A) ≤ 0 := by
      rw [show (0 : Int32) = zI 0 from rfl, zI_le (whR 1 _ _ _ N A) (by omega)]
      have := (whR0 1 p a b N A).1 hf
      omega
    unfold fn_Mo_setValue
    rw [hb, bnd_ok, F_m1 (y := b) hp ha hbb K, bnd_ok, if_neg hw]
    rfl
  · intro N A M Mb hb K hf
    have hw : zI (whF 1 p a b N A) ≤ 0 := by
      rw [(whR0' 1 p a b N A hf)]
      decide
    unfold fn_Mo_setValue
    rw [hb, bnd_ok, F_m1 (y := b) hp ha hbb K, bnd_ok, if_pos hw]
theorem St_removeFirst {p a : Int} (hp : -2147483648 ≤ p ∧ p < 2147483648) (ha : -2147483648 ≤ a ∧ a < 2147483648) : StepOK (fn_SA_removeFirst (zI p) (zI a)) [(0, 1), (1, 2)] (fn_Mo_removeFirst (zI p) (zI a)) := by
  refine Change (k := 2) (p := p) (a := a) (b := 0) (by decide) hp ha (by decide) (fun M => rfl) ?_ ?_ (fn_Mo_cuts (zI p) (zI a)) ?_ (fun N A hf => ⟨_, _, _, E_2 hf⟩)
  · intro N A h
    have e : ftF 2 p a 0 N A = 0 ∨ ftF 2 p a 0 N A = 1 ∨ ftF 2 p a 0 N A = 2 := by
      unfold ftF
      repeat' split
      all_goals omega
    unfold whF
    rcases e with e | e | e
    · exact absurd e h
    · rw [e]; exact ⟨by decide, rfl, by decide⟩
    · rw [e]; exact ⟨by decide, rfl, by decide⟩
  · intro N A M Mb hb K hf
    have hw : ¬ zI (whF 2 p a 0 N A) ≤ 0 := by
      rw [show (0 : Int32) = zI 0 from rfl, zI_le (whR 2 _ _ _ N A) (by omega)]
      have := (whR0 2 p a 0 N A).1 hf
      omega
    unfold fn_Mo_removeFirst
    rw [hb, bnd_ok, F_m2 (y := 0) hp ha (by decide) K, bnd_ok, if_neg hw]
    rfl
  · intro N A M Mb hb K hf
    have hw : zI (whF 2 p a 0 N A) ≤ 0 := by
      rw [(whR0' 2 p a 0 N A hf)]
      decide
    unfold fn_Mo_removeFirst
    rw [hb, bnd_ok, F_m2 (y := 0) hp ha (by decide) K, bnd_ok, if_pos hw]
theorem St_copy {p a : Int} (hp : -2147483648 ≤ p ∧ p < 2147483648) (ha : -2147483648 ≤ a ∧ a < 2147483648) : StepOK (fn_SA_copy (zI p) (zI a)) [(0, 1)] (fn_Mo_copy (zI p) (zI a)) := by
  refine Change (k := 3) (p := p) (a := a) (b := 0) (by decide) hp ha (by decide) (fun M => rfl) ?_ ?_ (fn_Mo_copies (zI p) (zI a)) ?_ (fun N A hf => ⟨_, _, _, E_3 hf⟩)
  · intro N A h
    have e : ftF 3 p a 0 N A = 0 ∨ ftF 3 p a 0 N A = 1 := by
      unfold ftF
      repeat' split
      all_goals omega
    unfold whF
    rcases e with e | e
    · exact absurd e h
    · rw [e]; exact ⟨by decide, rfl, by decide⟩
  · intro N A M Mb hb K hf
    unfold whF
    rw [if_neg (by omega)]
    unfold fn_Mo_copy fn_Mo_copy_31
    by_cases c : 0 ≤ p ∧ p < 4
    · by_cases c2 : 0 ≤ a ∧ a < 4
      · exact absurd (by rw [ft3v, if_pos c, if_pos c2]) hf
      · rw [hb, bnd_ok, mo_slot hp, if_pos c, bnd_ok, if_neg (by decide), mo_slot ha, if_neg c2, bnd_ok, if_pos (by decide), ft3v, if_pos c, if_neg c2]
        rfl
    · rw [hb, bnd_ok, mo_slot hp, if_neg c, bnd_ok, if_pos (by decide), ft3v, if_neg c]
      rfl
  · intro N A M Mb hb K hf
    have c := ft3 hf
    unfold fn_Mo_copy
    rw [hb, bnd_ok, mo_slot hp, if_pos c.1, bnd_ok, if_neg (by decide), mo_slot ha, if_pos c.2, bnd_ok, if_neg (by decide)]
theorem St_reverse {p : Int} (hp : -2147483648 ≤ p ∧ p < 2147483648) : StepOK (fn_SA_reverse (zI p)) [(0, 1)] (fn_Mo_reverse (zI p)) := by
  refine Change (k := 4) (p := p) (a := 0) (b := 0) (by decide) hp (by decide) (by decide) (fun M => rfl) ?_ ?_ (fn_Mo_turns (zI p)) ?_ (fun N A hf => ⟨_, _, _, E_4 hf⟩)
  · intro N A h
    have e : ftF 4 p 0 0 N A = 0 ∨ ftF 4 p 0 0 N A = 1 := by
      unfold ftF
      repeat' split
      all_goals omega
    unfold whF
    rcases e with e | e
    · exact absurd e h
    · rw [e]; exact ⟨by decide, rfl, by decide⟩
  · intro N A M Mb hb K hf
    unfold whF
    rw [if_neg (by omega)]
    unfold fn_Mo_reverse
    by_cases c : 0 ≤ p ∧ p < 4
    · exact absurd (by rw [ft4v, if_pos c]) hf
    · rw [hb, bnd_ok, mo_slot hp, if_neg c, bnd_ok, if_pos (by decide), ft4v, if_neg c]
      rfl
  · intro N A M Mb hb K hf
    have c := ft4 hf
    unfold fn_Mo_reverse
    rw [hb, bnd_ok, mo_slot hp, if_pos c, bnd_ok, if_neg (by decide)]
theorem St_shift {p a : Int} (hp : -2147483648 ≤ p ∧ p < 2147483648) (ha : -2147483648 ≤ a ∧ a < 2147483648) : StepOK (fn_SA_shift (zI p) (zI a)) [(0, 1), (1, 2), (2, 3)] (fn_Mo_shift (zI p) (zI a)) := by
  refine Change (k := 5) (p := p) (a := a) (b := 0) (by decide) hp ha (by decide) (fun M => rfl) ?_ ?_ (fn_Mo_shifts (zI p) (zI a)) ?_ (fun N A hf => ⟨_, _, _, E_5 hf⟩)
  · intro N A h
    have e : ftF 5 p a 0 N A = 0 ∨ ftF 5 p a 0 N A = 1 ∨ ftF 5 p a 0 N A = 2 ∨ ftF 5 p a 0 N A = 3 := by
      unfold ftF
      repeat' split
      all_goals omega
    unfold whF
    rcases e with e | e | e | e
    · exact absurd e h
    · rw [e]; exact ⟨by decide, rfl, by decide⟩
    · rw [e]; exact ⟨by decide, rfl, by decide⟩
    · rw [e]; exact ⟨by decide, rfl, by decide⟩
  · intro N A M Mb hb K hf
    have hw : ¬ zI (whF 5 p a 0 N A) ≤ 0 := by
      rw [show (0 : Int32) = zI 0 from rfl, zI_le (whR 5 _ _ _ N A) (by omega)]
      have := (whR0 5 p a 0 N A).1 hf
      omega
    unfold fn_Mo_shift
    rw [hb, bnd_ok, F_m5 (y := 0) hp ha (by decide) K, bnd_ok, if_neg hw]
    rfl
  · intro N A M Mb hb K hf
    have hw : zI (whF 5 p a 0 N A) ≤ 0 := by
      rw [(whR0' 5 p a 0 N A hf)]
      decide
    unfold fn_Mo_shift
    rw [hb, bnd_ok, F_m5 (y := 0) hp ha (by decide) K, bnd_ok, if_pos hw]
theorem St_smooth {p a : Int} (hp : -2147483648 ≤ p ∧ p < 2147483648) (ha : -2147483648 ≤ a ∧ a < 2147483648) : StepOK (fn_SA_smooth (zI p) (zI a)) [(0, 1), (1, 2)] (fn_Mo_smooth (zI p) (zI a)) := by
  refine Change (k := 6) (p := p) (a := a) (b := 0) (by decide) hp ha (by decide) (fun M => rfl) ?_ ?_ (fn_Mo_smooths (zI p) (zI a)) ?_ (fun N A hf => ⟨_, _, _, E_6 hf⟩)
  · intro N A h
    have e : ftF 6 p a 0 N A = 0 ∨ ftF 6 p a 0 N A = 1 ∨ ftF 6 p a 0 N A = 2 := by
      unfold ftF
      repeat' split
      all_goals omega
    unfold whF
    rcases e with e | e | e
    · exact absurd e h
    · rw [e]; exact ⟨by decide, rfl, by decide⟩
    · rw [e]; exact ⟨by decide, rfl, by decide⟩
  · intro N A M Mb hb K hf
    have hw : ¬ zI (whF 6 p a 0 N A) ≤ 0 := by
      rw [show (0 : Int32) = zI 0 from rfl, zI_le (whR 6 _ _ _ N A) (by omega)]
      have := (whR0 6 p a 0 N A).1 hf
      omega
    unfold fn_Mo_smooth
    rw [hb, bnd_ok, F_m6 (y := 0) hp ha (by decide) K, bnd_ok, if_neg hw]
    rfl
  · intro N A M Mb hb K hf
    have hw : zI (whF 6 p a 0 N A) ≤ 0 := by
      rw [(whR0' 6 p a 0 N A hf)]
      decide
    unfold fn_Mo_smooth
    rw [hb, bnd_ok, F_m6 (y := 0) hp ha (by decide) K, bnd_ok, if_pos hw]
theorem St_toSteps {p : Int} (hp : -2147483648 ≤ p ∧ p < 2147483648) : StepOK (fn_SA_toSteps (zI p)) [(0, 1), (2, 2)] (fn_Mo_toSteps (zI p)) := by
  refine Change (k := 7) (p := p) (a := 0) (b := 0) (by decide) hp (by decide) (by decide) (fun M => rfl) ?_ ?_ (fn_Mo_steps (zI p)) ?_ (fun N A hf => ⟨_, _, _, E_7 hf⟩)
  · intro N A h
    have e : ftF 7 p 0 0 N A = 0 ∨ ftF 7 p 0 0 N A = 1 ∨ ftF 7 p 0 0 N A = 3 := by
      unfold ftF
      repeat' split
      all_goals omega
    unfold whF
    rcases e with e | e | e
    · exact absurd e h
    · rw [e]; exact ⟨by decide, rfl, by decide⟩
    · rw [e]; exact ⟨by decide, rfl, by decide⟩
  · intro N A M Mb hb K hf
    have hw : ¬ zI (whF 7 p 0 0 N A) ≤ 0 := by
      rw [show (0 : Int32) = zI 0 from rfl, zI_le (whR 7 _ _ _ N A) (by omega)]
      have := (whR0 7 p 0 0 N A).1 hf
      omega
    unfold fn_Mo_toSteps
    rw [hb, bnd_ok, F_m7 (y := 0) hp (x := 0) (by decide) (by decide) K, bnd_ok, if_neg hw]
    rfl
  · intro N A M Mb hb K hf
    have hw : zI (whF 7 p 0 0 N A) ≤ 0 := by
      rw [(whR0' 7 p 0 0 N A hf)]
      decide
    unfold fn_Mo_toSteps
    rw [hb, bnd_ok, F_m7 (y := 0) hp (x := 0) (by decide) (by decide) K, bnd_ok, if_pos hw]
theorem St_clip {p a b : Int} (hp : -2147483648 ≤ p ∧ p < 2147483648) (ha : -2147483648 ≤ a ∧ a < 2147483648) (hbb : -2147483648 ≤ b ∧ b < 2147483648) : StepOK (fn_SA_clip (zI p) (zI a) (zI b)) [(0, 1), (1, 2)] (fn_Mo_clip (zI p) (zI a) (zI b)) := by
  refine Change (k := 8) (p := p) (a := a) (b := b) (by decide) hp ha hbb (fun M => rfl) ?_ ?_ (fn_Mo_clips (zI p) (zI a) (zI b)) ?_ (fun N A hf => ⟨_, _, _, E_8 hf⟩)
  · intro N A h
    have e : ftF 8 p a b N A = 0 ∨ ftF 8 p a b N A = 1 ∨ ftF 8 p a b N A = 2 := by
      unfold ftF
      repeat' split
      all_goals omega
    unfold whF
    rcases e with e | e | e
    · exact absurd e h
    · rw [e]; exact ⟨by decide, rfl, by decide⟩
    · rw [e]; exact ⟨by decide, rfl, by decide⟩
  · intro N A M Mb hb K hf
    have hw : ¬ zI (whF 8 p a b N A) ≤ 0 := by
      rw [show (0 : Int32) = zI 0 from rfl, zI_le (whR 8 _ _ _ N A) (by omega)]
      have := (whR0 8 p a b N A).1 hf
      omega
    unfold fn_Mo_clip
    rw [hb, bnd_ok, F_m8 (y := b) hp ha hbb K, bnd_ok, if_neg hw]
    rfl
  · intro N A M Mb hb K hf
    have hw : zI (whF 8 p a b N A) ≤ 0 := by
      rw [(whR0' 8 p a b N A hf)]
      decide
    unfold fn_Mo_clip
    rw [hb, bnd_ok, F_m8 (y := b) hp ha hbb K, bnd_ok, if_pos hw]
