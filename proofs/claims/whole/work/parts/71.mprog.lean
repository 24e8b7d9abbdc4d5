/-! THE MODEL READS A PROGRAM -/
def FX (M M1 : Mm) : Prop := (∀ j, j ≠ 32 → j ≠ 41 → j ≠ 42 → j ≠ 43 → j ≠ 44 → M1 j = M j) ∧ ∀ i, i ≠ 20 → i ≠ 21 → i ≠ 22 → M1 32 i = M 32 i
theorem FX.tr {A B C : Mm} (h : FX A B) (k : FX B C) : FX A C := ⟨fun j j1 j2 j3 j4 j5 => (k.1 j j1 j2 j3 j4 j5).trans (h.1 j j1 j2 j3 j4 j5), fun i i1 i2 i3 => (k.2 i i1 i2 i3).trans (h.2 i i1 i2 i3)⟩
theorem FQ.x {q : Int} {M M1 : Mm} (h : FQ q M M1) : FX M M1 := ⟨h.1, h.2.1⟩
theorem AR.to {M M1 : Mm} {q : Int} {k : Nat} {ag : Int → Int} (h : AR M q k ag) (he : ∀ j, 41 ≤ j → j ≤ 44 → M1 j q.toNat = M j q.toNat) : AR M1 q k ag := ⟨by rw [he 41 (by decide) (by decide)]; exact h.1, by rw [he 42 (by decide) (by decide)]; exact h.2.1, fun z => by rw [he 43 (by decide) (by decide)]; exact h.2.2.1 z, fun z => by rw [he 44 (by decide) (by decide)]; exact h.2.2.2 z⟩
def ARs (cnt : Int) (tx : Int → Int) (q : Int) (M : Mm) : Prop := ∀ i : Nat, (i : Int) < q → AR M i (cmd cnt tx (psF cnt tx i)).2.2.1 (cmd cnt tx (psF cnt tx i)).2.2.2
theorem Mo_end {cnt : Int} {tx : Int → Int} {p f : Int} {M : Mm} (h : MP cnt tx p f M) : ∃ M1, fn_Mo_parse_58 M = some (.inl (), M1) ∧ M1 32 22 = zI (if f = 0 ∧ ¬ p < cnt then 0 else 1) ∧ M1 32 20 = zI p ∧ M1 32 21 = M 32 21 ∧ FX M M1 ∧ ∀ j, j ≠ 32 → M1 j = M j := by
  have hp := h.2.2.1
  have hc := h.1
  have h5 := h.2.2.2.2.1
  have h6 := h.2.2.2.2.2.1
  have h7 := h.2.2.2.2.2.2.1
  refine ⟨mset M 32 22 (zI (if f = 0 ∧ ¬ p < cnt then 0 else 1)), ?_, mset_at _ _ _ _, by rw [mset_oth _ _ _ _ (by decide)]; exact h6, mset_oth _ _ _ _ (by decide), ⟨fun j j1 _ _ _ _ => mset_ne _ _ _ j1, fun i _ _ i3 => mset_oth _ _ _ _ i3⟩, fun j j1 => mset_ne _ _ _ j1⟩
  unfold fn_Mo_parse_58 fn_Mo_parse_79
  rw [h5, h6, h7]
  by_cases c : p < cnt
  · rw [if_neg (by rw [zI_le (by omega) (by omega)]; omega), or_1 h.2.2.2.1, grd_t (by decide), lm_eq, if_neg (fun z => z.2 c)]
  · rw [if_pos (by rw [zI_le (by omega) (by omega)]; omega)]
    rcases h.2.2.2.1 with e | e
    · rw [e, if_pos ⟨rfl, c⟩]
      rfl
    · rw [e, if_neg (fun z => absurd z.1 (by decide))]
      rfl
theorem prR_f {cnt : Int} {tx : Int → Int} {n : Nat} {p c : Int} (h : ¬ (cmd cnt tx p).1 = true) : prR cnt tx (n + 1) p c = (false, (cmd cnt tx p).2.1) := by
  rw [prR_u, if_neg h]
theorem Mo_prog {cnt : Int} {tx : Int → Int} : ∀ (n2 n q : Nat) (M : Mm), MP cnt tx (psF cnt tx q) 0 M → M 32 21 = zI (q : Int) → ARs cnt tx q M → 7 * (q : Int) ≤ psF cnt tx q → cnt - psF cnt tx q < n2 → cnt - psF cnt tx q < n → ((prR cnt tx n2 (psF cnt tx q) ((q : Int) + 1)).1 = true → ∃ M1, bnd (fn_Mo_command M) (fun _ M52 => fn_Mo_parse_32 n M52) = some (.inl (), M1) ∧ M1 32 22 = zI 0 ∧ M1 32 21 = zI (prR cnt tx n2 (psF cnt tx q) ((q : Int) + 1)).2 ∧ ARs cnt tx (prR cnt tx n2 (psF cnt tx q) ((q : Int) + 1)).2 M1 ∧ FX M M1) ∧ ((prR cnt tx n2 (psF cnt tx q) ((q : Int) + 1)).1 = false → ∃ M1, bnd (fn_Mo_command M) (fun _ M52 => fn_Mo_parse_32 n M52) = some (.inl (), M1) ∧ M1 32 22 = zI 1 ∧ M1 32 20 = zI (prR cnt tx n2 (psF cnt tx q) ((q : Int) + 1)).2 ∧ FX M M1) := by
  intro n2
  induction n2 with
  | zero =>
    intro n q M h _ _ _ h2 _
    have := h.2.2.1
    exact absurd h2 (by omega)
  | succ n2 ih =>
    intro n q M h hq har h7 h2 h3
    have hp := h.2.2.1
    have hcn := h.1
    have hcb := cmd_b (cnt := cnt) (tx := tx) hp
    have hc := Mo_command h hq (by omega)
    cases n with
    | zero => exact absurd h3 (by omega)
    | succ n =>
      rw [prR_u]
      have h9 : psF cnt tx (q + 1) = (cmd cnt tx (psF cnt tx q)).2.1 + 1 := rfl
      by_cases ok : (cmd cnt tx (psF cnt tx q)).1 = true
      · obtain ⟨M1, e1, e2, e3, e4, e5⟩ := hc.1 ok
        have h6 := (hcb.2.2.1 ok).1
        have hmb := mkv_b (cnt := cnt) e2.2.1 (cmd cnt tx (psF cnt tx q)).2.1 0
        have har1 : ARs cnt tx ((q : Int) + 1) M1 := by
          intro i hi
          by_cases c : i = q
          · rw [c]
            exact e4
          · exact (har i (by omega)).to (fun j j1 j2 => e5.2.2 j _ j1 j2 (by omega))
        rw [if_pos ok, e1, bnd_ok, fn_Mo_parse_32, Mo_mark e2, bnd_ok]
        by_cases c2 : (cmd cnt tx (psF cnt tx q)).2.1 < cnt ∧ pzc cnt tx (cmd cnt tx (psF cnt tx q)).2.1 = 59
        · have hm : mkv cnt tx (cmd cnt tx (psF cnt tx q)).2.1 0 = 59 := (mkv_c (by omega) (by omega)).2 ⟨rfl, c2.2⟩
          rw [if_pos c2.1, if_pos c2.2, hm, if_pos (by decide), e2.2.2.2.2.2.1, show (1 : Int32) = zI 1 from rfl, zI_add, lm_eq]
          have e6 := e2.sp (q := (cmd cnt tx (psF cnt tx q)).2.1 + 1) (by omega)
          have hi := ih n (q + 1) (mset M1 32 20 (zI ((cmd cnt tx (psF cnt tx q)).2.1 + 1))) e6 (by rw [mset_oth _ _ _ _ (by decide)]; exact e3) (fun i hi => (har1 i hi).to (fun j j1 j2 => by rw [mset_ne _ _ _ (by omega)])) (by omega) (by omega) (by omega)
          have fx : FX M (mset M1 32 20 (zI ((cmd cnt tx (psF cnt tx q)).2.1 + 1))) := e5.x.tr (FQ.x (q := 0) (FM.p M1 _).q)
          rw [h9, show ((q + 1 : Nat) : Int) = (q : Int) + 1 from rfl] at hi
          refine ⟨fun y => ?_, fun y => ?_⟩
          · obtain ⟨M2, g1, g2, g3, g4, g5⟩ := hi.1 y
            exact ⟨M2, g1, g2, g3, g4, fx.tr g5⟩
          · obtain ⟨M2, g1, g2, g3, g4⟩ := hi.2 y
            exact ⟨M2, g1, g2, g3, fx.tr g4⟩
        · have hm : ¬ mkv cnt tx (cmd cnt tx (psF cnt tx q)).2.1 0 = 59 := fun z => by
            have z2 := (mkv_c (by omega) (by omega)).1 z
            have hi := pzc_in (cnt := cnt) (tx := tx) (i := (cmd cnt tx (psF cnt tx q)).2.1) (by omega)
            exact c2 ⟨hi.2, z2.2⟩
          obtain ⟨M2, g1, g2, g3, g4, g5, g6⟩ := Mo_end e2
          rw [if_neg (show ¬ zI (mkv cnt tx (cmd cnt tx (psF cnt tx q)).2.1 0) = 59 by rw [show (59 : Int32) = zI 59 from rfl, zI_eq (by omega) (by omega)]; exact hm)]
          by_cases c1 : (cmd cnt tx (psF cnt tx q)).2.1 < cnt
          · rw [if_pos c1, if_neg (fun z => c2 ⟨c1, z⟩)]
            rw [if_neg (fun z => z.2 c1)] at g2
            exact ⟨fun y => Bool.noConfusion y, fun _ => ⟨M2, g1, g2, g3, e5.x.tr g5⟩⟩
          · rw [if_neg c1]
            rw [if_pos (show (0 : Int) = 0 ∧ _ from ⟨rfl, c1⟩)] at g2
            exact ⟨fun _ => ⟨M2, g1, g2, by rw [g4]; exact e3, fun i hi => (har1 i hi).to (fun j j1 j2 => by rw [g6 j (by omega)]), e5.x.tr g5⟩, fun y => Bool.noConfusion y⟩
      · obtain ⟨M1, e1, e2, e3, e4⟩ := hc.2 (bool_f ok)
        obtain ⟨M2, g1, g2, g3, g4, g5, g6⟩ := Mo_end e2
        have hm : mkv cnt tx (cmd cnt tx (psF cnt tx q)).2.1 1 = -1 := if_neg (fun z => absurd z.1 (by decide))
        rw [if_neg ok, e1, bnd_ok, fn_Mo_parse_32, Mo_mark e2, bnd_ok, hm, if_neg (by decide)]
        rw [if_neg (fun z => absurd z.1 (by decide))] at g2
        exact ⟨fun y => Bool.noConfusion y, fun _ => ⟨M2, g1, g2, g3, e4.x.tr g5⟩⟩
