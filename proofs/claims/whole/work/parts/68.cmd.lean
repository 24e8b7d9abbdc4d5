/-! A COMMAND BY ITS WORD: the nine shapes give the same as the word and its rest -/
def rsR (cnt : Int) (tx : Int → Int) (p : Int) (k : Nat) : Bool × Int × Int × (Int → Int) := shR cnt tx (rsL k) (p + wlF k) 0 (fun _ => 0)
def cmT (cnt : Int) (tx : Int → Int) (p : Int) (k : Nat) : Bool × Int × Nat × (Int → Int) := if (rsR cnt tx p k).1 = true then (true, (rsR cnt tx p k).2.1, k, (rsR cnt tx p k).2.2.2) else (false, (rsR cnt tx p k).2.1, 0, fun _ => 0)
theorem cmR_u (cnt : Int) (tx : Int → Int) (p : Int) (n k : Nat) (e : Int) : cmR cnt tx p (n + 1) k e = if (shK cnt tx p k).1 = true then (true, (shK cnt tx p k).2.1, k, (shK cnt tx p k).2.2.2) else cmR cnt tx p n (k + 1) (max e (shK cnt tx p k).2.1) := rfl
theorem shK_no {cnt : Int} {tx : Int → Int} {p : Int} {k : Nat} (hk : k < 9) (h : ¬ mtF cnt tx (wdL k) p = wlF k) : shK cnt tx p k = (false, p + mtF cnt tx (wdL k) p, 0, fun _ => 0) := by
  rw [shK_word hk, if_neg h]
theorem shK_yes {cnt : Int} {tx : Int → Int} {p : Int} {k : Nat} (hk : k < 9) (h : mtF cnt tx (wdL k) p = wlF k) : shK cnt tx p k = rsR cnt tx p k := by
  rw [shK_word hk, if_pos h]
  rfl
theorem cmd_none {cnt : Int} {tx : Int → Int} {p : Int} (hn : ∀ j, j < 9 → ¬ mtF cnt tx (wdL j) p = wlF j) : ∀ (n k : Nat) (v1 : Int), k + n = 9 → cmR cnt tx p n k (p + v1) = (false, (wdR cnt tx p n k v1).2.1, 0, fun _ => 0) ∧ (wdR cnt tx p n k v1).1 = false := by
  intro n
  induction n with
  | zero => intro k v1 _; exact ⟨rfl, rfl⟩
  | succ n ih =>
    intro k v1 hk
    have c := hn k (by omega)
    rw [cmR_u, wdR_u, shK_no (by omega) c, if_neg (fun y => Bool.noConfusion y), if_neg c]
    have h := ih (k + 1) (max v1 (mtF cnt tx (wdL k) p)) (by omega)
    have e : max (p + v1) (p + mtF cnt tx (wdL k) p) = p + max v1 (mtF cnt tx (wdL k) p) := by omega
    show cmR cnt tx p n (k + 1) (max (p + v1) (p + mtF cnt tx (wdL k) p)) = _ ∧ _
    rw [e]
    exact h
theorem cmd_past {cnt : Int} {tx : Int → Int} {p : Int} {kk : Nat} (hkk : kk < 9) (hf : mtF cnt tx (wdL kk) p = wlF kk) : ∀ (n k : Nat) (e : Int), k + n = 9 → kk < k → p + wlF kk ≤ e → cmR cnt tx p n k e = (false, e, 0, fun _ => 0) := by
  intro n
  induction n with
  | zero => intro k e _ _ _; rfl
  | succ n ih =>
    intro k e hk hkk2 he
    have o := wd_one (cnt := cnt) (tx := tx) (p := p) (j := k) (k := kk) (by omega) hkk (by omega) hf
    rw [cmR_u, shK_no (by omega) o.2, if_neg (fun y => Bool.noConfusion y)]
    show cmR cnt tx p n (k + 1) (max e (p + mtF cnt tx (wdL k) p)) = _
    rw [show max e (p + mtF cnt tx (wdL k) p) = e by omega]
    exact ih (k + 1) e (by omega) (by omega) he
theorem rsR_b {cnt : Int} {tx : Int → Int} {p : Int} (hp : 0 ≤ p ∧ p ≤ cnt) {k : Nat} (hk : k < 9) (h : mtF cnt tx (wdL k) p = wlF k) : p + wlF k ≤ (rsR cnt tx p k).2.1 ∧ (rsR cnt tx p k).2.1 ≤ cnt := by
  have h1 := mtF_cnt (cnt := cnt) (tx := tx) (wdL k) p (wd_at ⟨k, hk⟩).2.2.2 hp.2
  have hb := shR_b (cnt := cnt) (tx := tx) (rsL k) (p + wlF k) 0 (fun _ => 0) (fun c hc => (pzS_at ⟨k, hk⟩).2.2.2.2 c (List.mem_of_mem_drop hc)) (by omega) (by omega) (fun _ => by decide)
  exact ⟨hb.1, hb.2.1⟩
theorem cmd_some {cnt : Int} {tx : Int → Int} {p : Int} (hp : 0 ≤ p ∧ p ≤ cnt) {kk : Nat} (hkk : kk < 9) (hf : mtF cnt tx (wdL kk) p = wlF kk) : ∀ (n k : Nat) (e v1 : Int), k + n = 9 → k ≤ kk → e < p + wlF kk → cmR cnt tx p n k e = cmT cnt tx p kk ∧ wdR cnt tx p n k v1 = (true, p + wlF kk, kk) := by
  intro n
  induction n with
  | zero => intro k e v1 hk hk2 _; exact absurd hk (by omega)
  | succ n ih =>
    intro k e v1 hk hk2 he
    by_cases c : k = kk
    · rw [c, cmR_u, wdR_u, if_pos hf, shK_yes hkk hf]
      refine ⟨?_, rfl⟩
      have hb := rsR_b hp hkk hf
      unfold cmT
      by_cases ok : (rsR cnt tx p kk).1 = true
      · rw [if_pos ok, if_pos ok]
      · rw [if_neg ok, if_neg ok, show max e (rsR cnt tx p kk).2.1 = (rsR cnt tx p kk).2.1 by omega]
        exact cmd_past hkk hf n (kk + 1) _ (by omega) (by omega) hb.1
    · have o := wd_one (cnt := cnt) (tx := tx) (p := p) (j := k) (k := kk) (by omega) hkk c hf
      rw [cmR_u, wdR_u, shK_no (by omega) o.2, if_neg (fun y => Bool.noConfusion y), if_neg o.2]
      exact ih (k + 1) _ _ (by omega) (by omega) (by show max e (p + mtF cnt tx (wdL k) p) < _; omega)
theorem cmd_word {cnt : Int} {tx : Int → Int} {p : Int} (hp : 0 ≤ p ∧ p ≤ cnt) : ((wdR cnt tx p 9 0 0).1 = false ∧ cmd cnt tx p = (false, (wdR cnt tx p 9 0 0).2.1, 0, fun _ => 0)) ∨ ∃ k, k < 9 ∧ mtF cnt tx (wdL k) p = wlF k ∧ wdR cnt tx p 9 0 0 = (true, p + wlF k, k) ∧ cmd cnt tx p = cmT cnt tx p k := by
  by_cases c : ∃ k, k < 9 ∧ mtF cnt tx (wdL k) p = wlF k
  · obtain ⟨k, hk, hf⟩ := c
    have h3 : 3 ≤ wlF k := (wd_at ⟨k, hk⟩).2.2.1
    have h := cmd_some hp hk hf 9 0 p 0 rfl (by omega) (by omega)
    exact .inr ⟨k, hk, hf, h.2, h.1⟩
  · have h := cmd_none (cnt := cnt) (tx := tx) (p := p) (fun j hj hf => c ⟨j, hj, hf⟩) 9 0 0 rfl
    rw [Int.add_zero] at h
    exact .inl ⟨h.2, h.1⟩
