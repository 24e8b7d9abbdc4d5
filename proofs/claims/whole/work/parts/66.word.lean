/-! THE MODEL READS A WORD -/
def wlF (k : Nat) : Nat := [3, 3, 3, 4, 4, 5, 6, 5, 4].getD k 0
def wdL (k : Nat) : List Int := (pzS k).take (wlF k)
def rsL (k : Nat) : List Int := (pzS k).drop (wlF k)
theorem wd_at : ∀ k : Fin 9, (wdL k.val).length = wlF k.val ∧ wlF k.val ≤ 6 ∧ 3 ≤ wlF k.val ∧ (∀ c ∈ wdL k.val, 97 ≤ c ∧ c < 128 ∧ pzk c = false) := by decide +kernel
def mtF (cnt : Int) (tx : Int → Int) : List Int → Int → Int
  | [], _ => 0
  | c :: l, p => if pzc cnt tx p = c then 1 + mtF cnt tx l (p + 1) else 0
theorem mtF_b (cnt : Int) (tx : Int → Int) : ∀ (l : List Int) (p : Int), 0 ≤ mtF cnt tx l p ∧ mtF cnt tx l p ≤ l.length := by
  intro l
  induction l with
  | nil => intro p; exact ⟨Int.le_refl _, Int.le_refl _⟩
  | cons c l ih =>
    intro p
    have h := ih (p + 1)
    have hl : (c :: l).length = l.length + 1 := rfl
    show 0 ≤ (if pzc cnt tx p = c then 1 + mtF cnt tx l (p + 1) else 0) ∧ (if pzc cnt tx p = c then 1 + mtF cnt tx l (p + 1) else 0) ≤ _
    by_cases d : pzc cnt tx p = c
    · rw [if_pos d]; omega
    · rw [if_neg d]; omega
theorem mtF_cnt {cnt : Int} {tx : Int → Int} : ∀ (l : List Int) (p : Int), (∀ c ∈ l, 97 ≤ c ∧ c < 128 ∧ pzk c = false) → p ≤ cnt → p + mtF cnt tx l p ≤ cnt := by
  intro l
  induction l with
  | nil => intro p _ hp; show p + 0 ≤ cnt; omega
  | cons c l ih =>
    intro p hl hp
    have hc := hl c List.mem_cons_self
    show p + (if pzc cnt tx p = c then 1 + mtF cnt tx l (p + 1) else 0) ≤ cnt
    by_cases d : pzc cnt tx p = c
    · have hi := pzc_in (cnt := cnt) (tx := tx) (i := p) (by omega)
      have h := ih (p + 1) (fun z hz => hl z (List.mem_cons_of_mem _ hz)) (by omega)
      rw [if_pos d]; omega
    · rw [if_neg d]; omega
theorem shR_word {cnt : Int} {tx : Int → Int} {l2 : List Int} {m : Int} {ag : Int → Int} : ∀ (l : List Int) (p : Int), (∀ c ∈ l, 97 ≤ c ∧ c < 128 ∧ pzk c = false) → shR cnt tx (l ++ l2) p m ag = if mtF cnt tx l p = l.length then shR cnt tx l2 (p + l.length) m ag else (false, p + mtF cnt tx l p, m, ag) := by
  intro l
  induction l with
  | nil =>
    intro p _
    rw [if_pos (show mtF cnt tx [] p = (([] : List Int).length : Int) from rfl)]
    show shR cnt tx l2 p m ag = shR cnt tx l2 (p + 0) m ag
    rw [Int.add_zero]
  | cons c l ih =>
    intro p hl
    have hc := hl c List.mem_cons_self
    have hP : pzP cnt tx c p = pzL cnt tx c p := by
      unfold pzP
      rw [if_neg (by omega), if_neg (by omega), if_neg (by omega)]
    have hu : shR cnt tx (c :: l ++ l2) p m ag = if (pzP cnt tx c p).1 = true then shR cnt tx (l ++ l2) (pzP cnt tx c p).2.1 (if pzk c = true then m + 1 else m) (if pzk c = true then upI ag m (pzP cnt tx c p).2.2 else ag) else (false, (pzP cnt tx c p).2.1, m, ag) := rfl
    have hm : mtF cnt tx (c :: l) p = if pzc cnt tx p = c then 1 + mtF cnt tx l (p + 1) else 0 := rfl
    have hll : (c :: l).length = l.length + 1 := rfl
    have hkF : ¬ pzk c = true := by rw [hc.2.2]; decide
    rw [hu, hP, if_neg hkF, if_neg hkF, hm]
    unfold pzL
    by_cases d : pzc cnt tx p = c
    · rw [if_pos d, if_pos d, if_pos rfl, ih (p + 1) (fun z hz => hl z (List.mem_cons_of_mem _ hz))]
      have hb := mtF_b cnt tx l (p + 1)
      by_cases e : mtF cnt tx l (p + 1) = l.length
      · rw [if_pos e, if_pos (by omega), show p + ((c :: l).length : Int) = p + 1 + l.length by omega]
      · rw [if_neg e, if_neg (by omega), show p + (1 + mtF cnt tx l (p + 1)) = p + 1 + mtF cnt tx l (p + 1) by omega]
    · rw [if_neg d, if_neg d, if_neg (fun y => Bool.noConfusion y), if_neg (by omega), Int.add_zero]
theorem shK_word {cnt : Int} {tx : Int → Int} {p : Int} {k : Nat} (hk : k < 9) : shK cnt tx p k = if mtF cnt tx (wdL k) p = wlF k then shR cnt tx (rsL k) (p + wlF k) 0 (fun _ => 0) else (false, p + mtF cnt tx (wdL k) p, 0, fun _ => 0) := by
  obtain ⟨a1, a2, a3, a4⟩ := wd_at ⟨k, hk⟩
  have h := shR_word (cnt := cnt) (tx := tx) (l2 := rsL k) (m := 0) (ag := fun _ => 0) (wdL k) p a4
  have a1' : (wdL k).length = wlF k := a1
  rw [a1'] at h
  have e : wdL k ++ rsL k = pzS k := List.take_append_drop _ _
  rw [e] at h
  exact h
/-- no word begins another -/
theorem wd_dif : ∀ j k : Fin 9, j ≠ k → ∃ d : Fin 6, d.val < wlF j.val ∧ d.val < wlF k.val ∧ (wdL j.val).getD d.val 0 ≠ (wdL k.val).getD d.val 0 := by decide +kernel
theorem mtF_hit {cnt : Int} {tx : Int → Int} : ∀ (l : List Int) (p : Int) (d : Nat), d < l.length → (d : Int) < mtF cnt tx l p → pzc cnt tx (p + d) = l.getD d 0 := by
  intro l
  induction l with
  | nil => intro p d hd; exact absurd hd (by show ¬ d < 0; omega)
  | cons c l ih =>
    intro p d hd hm
    have hu : mtF cnt tx (c :: l) p = if pzc cnt tx p = c then 1 + mtF cnt tx l (p + 1) else 0 := rfl
    rw [hu] at hm
    have hll : (c :: l).length = l.length + 1 := rfl
    by_cases e : pzc cnt tx p = c
    · rw [if_pos e] at hm
      cases d with
      | zero => show pzc cnt tx (p + 0) = c; rw [Int.add_zero]; exact e
      | succ d =>
        have h := ih (p + 1) d (by omega) (by omega)
        show pzc cnt tx (p + ((d + 1 : Nat) : Int)) = l.getD d 0
        rw [← h, show p + ((d + 1 : Nat) : Int) = p + 1 + d by omega]
    · rw [if_neg e] at hm
      exact absurd hm (by omega)
theorem wd_one {cnt : Int} {tx : Int → Int} {p : Int} {j k : Nat} (hj : j < 9) (hk : k < 9) (hjk : j ≠ k) (h : mtF cnt tx (wdL k) p = wlF k) : mtF cnt tx (wdL j) p < wlF k ∧ ¬ mtF cnt tx (wdL j) p = wlF j := by
  obtain ⟨d, d1, d2, d3⟩ := wd_dif ⟨j, hj⟩ ⟨k, hk⟩ (fun e => hjk (congrArg Fin.val e))
  have d1' : d.val < wlF j := d1
  have d2' : d.val < wlF k := d2
  have lj : (wdL j).length = wlF j := (wd_at ⟨j, hj⟩).1
  have lk : (wdL k).length = wlF k := (wd_at ⟨k, hk⟩).1
  have hk2 := mtF_hit (cnt := cnt) (tx := tx) (wdL k) p d.val (by omega) (by omega)
  have hj2 : ¬ ((d.val : Nat) : Int) < mtF cnt tx (wdL j) p := fun z => d3 ((mtF_hit (cnt := cnt) (tx := tx) (wdL j) p d.val (by omega) z).symm.trans hk2)
  omega
theorem Mo_spelled {k v : Nat} (hk : k < 9) (hv : v < 7) (M : Mm) : fn_Mo_spelled (zI (k : Int)) (zI (v : Int)) M = some (.inl (zI ((wdL k).getD v 0)), M) := by
  rcases (by omega : k = 0 ∨ k = 1 ∨ k = 2 ∨ k = 3 ∨ k = 4 ∨ k = 5 ∨ k = 6 ∨ k = 7 ∨ k = 8) with rfl | rfl | rfl | rfl | rfl | rfl | rfl | rfl | rfl <;> rcases (by omega : v = 0 ∨ v = 1 ∨ v = 2 ∨ v = 3 ∨ v = 4 ∨ v = 5 ∨ v = 6) with rfl | rfl | rfl | rfl | rfl | rfl | rfl <;> rfl
