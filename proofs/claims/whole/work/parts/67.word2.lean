/-! THE MODEL'S WORD, against the class's nine shapes -/
theorem mtF_c (cnt : Int) (tx : Int → Int) (c : Int) (l : List Int) (p : Int) : mtF cnt tx (c :: l) p = if pzc cnt tx p = c then 1 + mtF cnt tx l (p + 1) else 0 := rfl
theorem Mo_word_12 {k : Nat} (hk : k < 9) {cnt : Int} {tx : Int → Int} {p : Int} (K : Int32 → Int32 → Mm → Rs Int32) {v1 : Int} (hv1 : 0 ≤ v1 ∧ v1 ≤ 6) {M : Mm} (h : MP cnt tx p 0 M) : ∀ (l : List Int) (n v : Nat), (wdL k).drop v = l → v + l.length = wlF k → l.length < n → fn_Mo_word_12 K (zI v1) (zI (k : Int)) n (zI (v : Int)) M = if mtF cnt tx l (p + v) = l.length then some (.inl (zI (k : Int)), mset M 32 20 (zI (p + v + l.length))) else K (zI (max v1 (v + mtF cnt tx l (p + v)))) (zI ((k : Int) + 1)) M := by
  obtain ⟨a1, a2, a3, a4⟩ := wd_at ⟨k, hk⟩
  have b1 : (wdL k).length = wlF k := a1
  have b2 : wlF k ≤ 6 := a2
  obtain ⟨h1, h2, h3, h4, h5, h6, h7, h8⟩ := id h
  intro l
  induction l with
  | nil =>
    intro n v hl hv hn
    cases n with
    | zero => exact absurd hn (by omega)
    | succ n =>
      have ev : v = wlF k := hv
      have hg : (wdL k).getD v 0 = 0 := by
        rw [List.getD_eq_getElem?_getD, List.getElem?_eq_none (by omega)]
        rfl
      have hs := fun M' => Mo_spelled hk (v := v) (by omega) M'
      rw [hg] at hs
      rw [if_pos (show mtF cnt tx [] (p + v) = (([] : List Int).length : Int) from rfl), fn_Mo_word_12, hs, bnd_ok, if_pos (by decide)]
      unfold fn_Mo_word_58 fn_Mo_word_66
      rw [hs, bnd_ok, if_pos (by decide), h6, lm_eq, zI_add]
      show some (Sum.inl (zI (k : Int)), mset M 32 20 (zI (p + v))) = some (Sum.inl (zI (k : Int)), mset M 32 20 (zI (p + v + 0)))
      rw [Int.add_zero]
  | cons c l ih =>
    intro n v hl hv hn
    cases n with
    | zero => exact absurd hn (by omega)
    | succ n =>
      have hll : (c :: l).length = l.length + 1 := rfl
      have hc : (wdL k).getD v 0 = c := by
        rw [List.getD_eq_getElem?_getD, show (wdL k)[v]? = some c from by rw [← List.head?_drop, hl]; rfl]
        rfl
      have hmem : c ∈ wdL k := by
        have : c ∈ (wdL k).drop v := by rw [hl]; exact List.mem_cons_self
        exact List.mem_of_mem_drop this
      have hcb := a4 c hmem
      have hd : (wdL k).drop (v + 1) = l := by rw [← List.tail_drop, hl]; rfl
      have hs := fun M' => Mo_spelled hk (v := v) (by omega) M'
      rw [hc] at hs
      have h58 : fn_Mo_word_58 K (zI v1) (zI (k : Int)) (zI (v : Int)) M = K (zI (max v1 v)) (zI ((k : Int) + 1)) M := by
        unfold fn_Mo_word_58
        rw [hs, bnd_ok, if_neg (by rw [show (0 : Int32) = zI 0 from rfl, zI_eq (by omega) (by omega)]; omega), mo_more (by omega) (by omega), bnd_ok, li_eq, show (1 : Int32) = zI 1 from rfl, zI_add, show max (v : Int) v1 = max v1 v by omega]
      rw [fn_Mo_word_12, hs, bnd_ok, if_neg (by rw [show (0 : Int32) = zI 0 from rfl, zI_le (by omega) (by omega)]; omega), h5, h6, zI_add, mtF_c]
      by_cases c1 : cnt ≤ p + v
      · have hz : pzc cnt tx (p + v) = 0 := if_neg (by omega)
        have hzc : ¬ pzc cnt tx (p + v) = c := by omega
        rw [if_pos (by rw [zI_le (by omega) (by omega)]; exact c1), h58, if_neg hzc, if_neg (by omega), Int.add_zero]
      · have hz : pzc cnt tx (p + v) = tx (p + v) := if_pos (by omega)
        have ht := h8 (p + v) (by omega) (by omega)
        have hb := h2 (p + v)
        rw [if_neg (by rw [zI_le (by omega) (by omega)]; exact c1), grd_inb (by omega) (by omega) (by omega), hs, bnd_ok, zI_cl (by omega) (by omega), ht]
        by_cases c2 : pzc cnt tx (p + v) = c
        · rw [if_pos (by rw [← hz, c2]), if_pos c2, li_eq, show (1 : Int32) = zI 1 from rfl, zI_add, show (v : Int) + 1 = ((v + 1 : Nat) : Int) from rfl, ih n (v + 1) hd (by omega) (by omega), show p + ((v + 1 : Nat) : Int) = p + v + 1 by omega]
          have hb := mtF_b cnt tx l (p + v + 1)
          by_cases c3 : mtF cnt tx l (p + v + 1) = l.length
          · rw [if_pos c3, if_pos (by omega), show p + (v : Int) + 1 + l.length = p + v + ((c :: l).length : Int) by omega]
          · rw [if_neg c3, if_neg (by omega), show ((v + 1 : Nat) : Int) + mtF cnt tx l (p + v + 1) = v + (1 + mtF cnt tx l (p + v + 1)) by omega]
        · rw [if_neg (show ¬ zI (tx (p + v)) = zI c by rw [zI_eq (by omega) (by omega), ← hz]; exact c2), h58, if_neg c2, if_neg (by omega), Int.add_zero]
def wdR (cnt : Int) (tx : Int → Int) (p : Int) : Nat → Nat → Int → Bool × Int × Nat
  | 0, _, v1 => (false, p + v1, 0)
  | n + 1, k, v1 => if mtF cnt tx (wdL k) p = wlF k then (true, p + wlF k, k) else wdR cnt tx p n (k + 1) (max v1 (mtF cnt tx (wdL k) p))
theorem wdR_u (cnt : Int) (tx : Int → Int) (p : Int) (n k : Nat) (v1 : Int) : wdR cnt tx p (n + 1) k v1 = if mtF cnt tx (wdL k) p = wlF k then (true, p + wlF k, k) else wdR cnt tx p n (k + 1) (max v1 (mtF cnt tx (wdL k) p)) := rfl
theorem Mo_word_4 {cnt : Int} {tx : Int → Int} {p : Int} {M : Mm} (h : MP cnt tx p 0 M) : ∀ (n k f : Nat) (v1 : Int), k + n = 9 → n < f → 0 ≤ v1 → v1 ≤ 6 → fn_Mo_word_4 f (zI v1) (zI (k : Int)) M = if (wdR cnt tx p n k v1).1 = true then some (.inl (zI ((wdR cnt tx p n k v1).2.2 : Int)), mset M 32 20 (zI (wdR cnt tx p n k v1).2.1)) else some (.inl (zI 0), mset (mset M 32 20 (zI (wdR cnt tx p n k v1).2.1)) 32 22 (zI 1)) := by
  intro n
  induction n with
  | zero =>
    intro k f v1 hk hf g0 g1
    cases f with
    | zero => exact absurd hf (by omega)
    | succ f =>
      rw [fn_Mo_word_4, if_pos (by rw [show (9 : Int32) = zI 9 from rfl, zI_le (by omega) (by omega)]; omega), if_neg (show ¬ (wdR cnt tx p 0 k v1).1 = true from fun y => Bool.noConfusion y)]
      unfold fn_Mo_word_90
      rw [h.2.2.2.2.2.1, zI_add, lm_eq, lm_eq]
      rfl
  | succ n ih =>
    intro k f v1 hk hf g0 g1
    cases f with
    | zero => exact absurd hf (by omega)
    | succ f =>
      obtain ⟨a1, a2, a3, a4⟩ := wd_at ⟨k, by omega⟩
      have b1 : (wdL k).length = wlF k := a1
      have b2 : wlF k ≤ 6 := a2
      have hb := mtF_b cnt tx (wdL k) p
      have hw := Mo_word_12 (k := k) (by omega) (fn_Mo_word_4 f) (v1 := v1) ⟨g0, g1⟩ h (wdL k) 2000 0 rfl (by omega) (by omega)
      rw [fn_Mo_word_4, if_neg (by rw [show (9 : Int32) = zI 9 from rfl, zI_le (by omega) (by omega)]; omega), wdR_u]
      have hw2 : fn_Mo_word_12 (fn_Mo_word_4 f) (zI v1) (zI (k : Int)) fuel0 0 M = _ := hw
      rw [hw2, show p + ((0 : Nat) : Int) = p by omega, b1]
      by_cases c : mtF cnt tx (wdL k) p = wlF k
      · rw [if_pos c, if_pos c, if_pos rfl]
      · rw [if_neg c, if_neg c, show ((0 : Nat) : Int) + mtF cnt tx (wdL k) p = mtF cnt tx (wdL k) p by omega, show (k : Int) + 1 = ((k + 1 : Nat) : Int) from rfl]
        exact ih (k + 1) f _ (by omega) (by omega) (by omega) (by omega)
theorem Mo_word {cnt : Int} {tx : Int → Int} {p : Int} {M : Mm} (h : MP cnt tx p 0 M) : fn_Mo_word M = if (wdR cnt tx p 9 0 0).1 = true then some (.inl (zI ((wdR cnt tx p 9 0 0).2.2 : Int)), mset M 32 20 (zI (wdR cnt tx p 9 0 0).2.1)) else some (.inl (zI 0), mset (mset M 32 20 (zI (wdR cnt tx p 9 0 0).2.1)) 32 22 (zI 1)) := Mo_word_4 h 9 0 2000 0 rfl (by omega) (by omega) (by omega)
