/-! COUNTING THE COMMANDS: one reading, and the class's side -/
def prR (cnt : Int) (tx : Int → Int) : Nat → Int → Int → Bool × Int
  | 0, _, _ => (false, 0)
  | n + 1, p, c => if (cmd cnt tx p).1 = true then (if (cmd cnt tx p).2.1 < cnt then (if pzc cnt tx (cmd cnt tx p).2.1 = 59 then prR cnt tx n ((cmd cnt tx p).2.1 + 1) (c + 1) else (false, (cmd cnt tx p).2.1)) else (true, c)) else (false, (cmd cnt tx p).2.1)
theorem prR_u (cnt : Int) (tx : Int → Int) (n : Nat) (p c : Int) : prR cnt tx (n + 1) p c = if (cmd cnt tx p).1 = true then (if (cmd cnt tx p).2.1 < cnt then (if pzc cnt tx (cmd cnt tx p).2.1 = 59 then prR cnt tx n ((cmd cnt tx p).2.1 + 1) (c + 1) else (false, (cmd cnt tx p).2.1)) else (true, c)) else (false, (cmd cnt tx p).2.1) := rfl
theorem prR_b {cnt : Int} {tx : Int → Int} : ∀ (n : Nat) (p c : Int), 0 ≤ p → p ≤ cnt → 7 * c ≤ p + 7 → 1 ≤ c → 0 ≤ (prR cnt tx n p c).2 ∧ ((prR cnt tx n p c).1 = false → (prR cnt tx n p c).2 ≤ cnt) ∧ ((prR cnt tx n p c).1 = true → 1 ≤ (prR cnt tx n p c).2 ∧ 7 * (prR cnt tx n p c).2 ≤ cnt + 7) := by
  intro n
  induction n with
  | zero =>
    intro p c h0 h1 h2 h3
    exact ⟨Int.le_refl _, fun _ => by show (0 : Int) ≤ cnt; omega, fun y => Bool.noConfusion y⟩
  | succ n ih =>
    intro p c h0 h1 h2 h3
    have hb := cmd_b (cnt := cnt) (tx := tx) ⟨h0, h1⟩
    rw [prR_u]
    by_cases ok : (cmd cnt tx p).1 = true
    · have h6 := (hb.2.2.1 ok).1
      rw [if_pos ok]
      by_cases c1 : (cmd cnt tx p).2.1 < cnt
      · rw [if_pos c1]
        by_cases c2 : pzc cnt tx (cmd cnt tx p).2.1 = 59
        · rw [if_pos c2]
          exact ih _ _ (by omega) (by omega) (by omega) (by omega)
        · rw [if_neg c2]
          exact ⟨by show 0 ≤ (cmd cnt tx p).2.1; omega, fun _ => hb.2.1, fun y => Bool.noConfusion y⟩
      · rw [if_neg c1]
        exact ⟨by show 0 ≤ c; omega, fun y => Bool.noConfusion y, fun _ => ⟨h3, by show 7 * c ≤ cnt + 7; omega⟩⟩
    · rw [if_neg ok]
      exact ⟨by show 0 ≤ (cmd cnt tx p).2.1; omega, fun _ => hb.2.1, fun y => Bool.noConfusion y⟩
theorem bool_f {b : Bool} (h : ¬ b = true) : b = false := by
  cases b with
  | true => exact absurd rfl h
  | false => rfl
def CnR (x : Rs Int32) (cnt : Int) (tx : Int → Int) (M : Mm) (r : Bool × Int) : Prop := (r.1 = true → ∃ M1, x = some (.inl (zI r.2), M1) ∧ ICt cnt tx M1 ∧ FI M M1) ∧ (r.1 = false → ∃ M1, x = some (.inl (zI (-1)), M1) ∧ ICt cnt tx M1 ∧ M1 16 5 = zI r.2 ∧ FI M M1)
theorem In_count_4 {cnt : Int} {tx : Int → Int} : ∀ (n f : Nat) (p c : Int) (M : Mm), ICt cnt tx M → 0 ≤ p → p ≤ cnt → 7 * c ≤ p + 7 → 1 ≤ c → cnt - p < n → cnt - p < f → CnR (fn_In_countCommands_4 f (zI p) (zI c) M) cnt tx M (prR cnt tx n p c) := by
  intro n
  induction n with
  | zero =>
    intro f p c M h h0 h1 h2 h3 h4 h5
    exact absurd h4 (by omega)
  | succ n ih =>
    intro f p c M h h0 h1 h2 h3 h4 h5
    cases f with
    | zero => exact absurd h5 (by omega)
    | succ f =>
      have hcn := h.1
      have hb := cmd_b (cnt := cnt) (tx := tx) ⟨h0, h1⟩
      have hr := In_readCommand ⟨h0, h1⟩ h
      have hx : fn_In_countCommands_4 (f + 1) (zI p) (zI c) M = bnd (fn_In_readCommand (zI p) M) (fun r12 M12 => if r12 = (-1) then (fn_In_countCommands_29 (zI c) r12 M12) else (if r12 < (M12 16 1) then (bnd (fn_In_signAt r12 M12) (fun r42 M42 => if r42 = 59 then (li ((r12 + 1)) (fun x1_60 => li (zI c + 1) (fun x2_61 => fn_In_countCommands_4 f x1_60 x2_61 M42))) else (fn_In_countCommands_50 r12 M42))) else (fn_In_countCommands_29 (zI c) r12 M12))) := by
        rw [fn_In_countCommands_4, if_neg (by rw [show (60 : Int32) = zI 60 from rfl, zI_lt (by omega) (by omega)]; omega)]
      rw [hx, prR_u]
      by_cases ok : (cmd cnt tx p).1 = true
      · have h6 := (hb.2.2.1 ok).1
        obtain ⟨M1, e1, f1, f2, f3, f4⟩ := hr.1 ok
        have hn : ¬ zI (cmd cnt tx p).2.1 = -1 := by
          rw [show (-1 : Int32) = zI (-1) from rfl, zI_eq (by omega) (by omega)]
          omega
        have ht : ICt cnt tx M1 := f2.1
        have hcM := ht.2.1
        have hpb := pzc_b (cnt := cnt) h.2.2.2 (cmd cnt tx p).2.1
        rw [if_pos ok, f1, bnd_ok, if_neg hn, hcM]
        by_cases c1 : (cmd cnt tx p).2.1 < cnt
        · rw [if_pos c1, if_pos (by rw [zI_lt (by omega) (by omega)]; exact c1), In_sign ht (by omega), bnd_ok]
          by_cases c2 : pzc cnt tx (cmd cnt tx p).2.1 = 59
          · rw [if_pos c2, c2, if_pos (by decide), li_eq, li_eq, show (1 : Int32) = zI 1 from rfl, zI_add, zI_add]
            have hq := ih f ((cmd cnt tx p).2.1 + 1) (c + 1) M1 ht (by omega) (by omega) (by omega) (by omega) (by omega) (by omega)
            refine ⟨fun y => ?_, fun y => ?_⟩
            · obtain ⟨M2, g1, g2, g3⟩ := hq.1 y
              exact ⟨M2, g1, g2, f4.tr g3⟩
            · obtain ⟨M2, g1, g2, g3, g4⟩ := hq.2 y
              exact ⟨M2, g1, g2, g3, f4.tr g4⟩
          · rw [if_neg c2, if_neg (show ¬ zI (pzc cnt tx (cmd cnt tx p).2.1) = 59 by rw [show (59 : Int32) = zI 59 from rfl, zI_eq (by omega) (by omega)]; exact c2)]
            refine ⟨fun y => Bool.noConfusion y, fun _ => ⟨mset M1 16 5 (zI (cmd cnt tx p).2.1), ?_, ht.to (by rw [mset_oth _ _ _ _ (by decide)]) (mset_ne _ _ _ (by decide)), mset_at _ _ _ _, fun j j1 j2 => by rw [mset_ne _ _ _ j1]; exact f4 j j1 j2⟩⟩
            unfold fn_In_countCommands_50
            rw [lm_eq]
            rfl
        · rw [if_neg c1, if_neg (by rw [zI_lt (by omega) (by omega)]; exact c1)]
          refine ⟨fun _ => ⟨M1, ?_, ht, f4⟩, fun y => Bool.noConfusion y⟩
          unfold fn_In_countCommands_29
          rw [if_neg hn]
      · obtain ⟨M1, m1, a1, f1, f2, f3⟩ := hr.2 (bool_f ok)
        rw [if_neg ok, f1, bnd_ok, if_pos (by decide)]
        refine ⟨fun y => Bool.noConfusion y, fun _ => ⟨M1, ?_, f2.1, f2.2.2.2.2.1, f3⟩⟩
        unfold fn_In_countCommands_29
        rw [if_pos (by decide)]
        rfl
theorem In_count {cnt : Int} {tx : Int → Int} {M : Mm} (h : ICt cnt tx M) : CnR (fn_In_countCommands M) cnt tx M (prR cnt tx 61 0 1) := by
  have hcn := h.1
  exact In_count_4 61 2000 0 1 M h (by omega) (by omega) (by omega) (by omega) (by omega) (by omega)
/-- where command q begins -/
def psF (cnt : Int) (tx : Int → Int) : Nat → Int
  | 0 => 0
  | q + 1 => (cmd cnt tx (psF cnt tx q)).2.1 + 1
theorem pr_ps {cnt : Int} {tx : Int → Int} : ∀ (n q : Nat) (c : Int), 0 ≤ psF cnt tx q → psF cnt tx q ≤ cnt → prR cnt tx n (psF cnt tx q) ((q : Int) + 1) = (true, c) → (q : Int) + 1 ≤ c ∧ ∀ q' : Nat, q ≤ q' → (q' : Int) < c → (cmd cnt tx (psF cnt tx q')).1 = true ∧ 0 ≤ psF cnt tx q' ∧ psF cnt tx q' ≤ cnt ∧ ((q' : Int) + 1 < c → (cmd cnt tx (psF cnt tx q')).2.1 < cnt ∧ pzc cnt tx (cmd cnt tx (psF cnt tx q')).2.1 = 59) ∧ ((q' : Int) + 1 = c → ¬ (cmd cnt tx (psF cnt tx q')).2.1 < cnt) := by
  intro n
  induction n with
  | zero =>
    intro q c h0 h1 h
    exact absurd (congrArg Prod.fst h) (fun y => Bool.noConfusion y)
  | succ n ih =>
    intro q c h0 h1 h
    have hb := cmd_b (cnt := cnt) (tx := tx) ⟨h0, h1⟩
    rw [prR_u] at h
    by_cases ok : (cmd cnt tx (psF cnt tx q)).1 = true
    · rw [if_pos ok] at h
      have h6 := (hb.2.2.1 ok).1
      by_cases c1 : (cmd cnt tx (psF cnt tx q)).2.1 < cnt
      · rw [if_pos c1] at h
        by_cases c2 : pzc cnt tx (cmd cnt tx (psF cnt tx q)).2.1 = 59
        · rw [if_pos c2] at h
          have hq : psF cnt tx (q + 1) = (cmd cnt tx (psF cnt tx q)).2.1 + 1 := rfl
          have hi := ih (q + 1) c (by omega) (by omega) (by rw [hq]; exact h)
          have h9 : ((q + 1 : Nat) : Int) = (q : Int) + 1 := rfl
          refine ⟨by omega, fun q' g0 g1 => ?_⟩
          by_cases e : q' = q
          · rw [e]
            exact ⟨ok, h0, h1, fun _ => ⟨c1, c2⟩, fun z => absurd hi.1 (by omega)⟩
          · exact hi.2 q' (by omega) g1
        · rw [if_neg c2] at h
          exact absurd (congrArg Prod.fst h) (fun y => Bool.noConfusion y)
      · rw [if_neg c1] at h
        have hc : (q : Int) + 1 = c := congrArg Prod.snd h
        refine ⟨by omega, fun q' g0 g1 => ?_⟩
        have e : q' = q := by omega
        rw [e]
        exact ⟨ok, h0, h1, fun z => absurd z (by omega), fun _ => c1⟩
    · rw [if_neg ok] at h
      exact absurd (congrArg Prod.fst h) (fun y => Bool.noConfusion y)
