/-! A COMMAND AND A PROGRAM: one reading, and the class's side -/
theorem shR_b {cnt : Int} {tx : Int → Int} : ∀ (l : List Int) (p m : Int) (ag : Int → Int), (∀ c ∈ l, 0 < c ∧ c < 128) → 0 ≤ p → p ≤ cnt → (∀ i, -99 ≤ ag i ∧ ag i ≤ 99) → p ≤ (shR cnt tx l p m ag).2.1 ∧ (shR cnt tx l p m ag).2.1 ≤ cnt ∧ ((shR cnt tx l p m ag).1 = true → p + l.length ≤ (shR cnt tx l p m ag).2.1 ∧ (shR cnt tx l p m ag).2.2.1 = m + kcF l) ∧ ∀ i, -99 ≤ (shR cnt tx l p m ag).2.2.2 i ∧ (shR cnt tx l p m ag).2.2.2 i ≤ 99 := by
  intro l
  induction l with
  | nil =>
    intro p m ag hl p0 p1 ha
    exact ⟨Int.le_refl _, p1, fun _ => ⟨by show p + ((0 : Nat) : Int) ≤ p; omega, by show m = m + 0; omega⟩, ha⟩
  | cons c l ih =>
    intro p m ag hl p0 p1 ha
    have hc := hl c List.mem_cons_self
    have hb := pzP_b (cnt := cnt) (tx := tx) (c := c) (p := p) (by omega) ⟨p0, p1⟩
    have hu : shR cnt tx (c :: l) p m ag = if (pzP cnt tx c p).1 = true then shR cnt tx l (pzP cnt tx c p).2.1 (if pzk c = true then m + 1 else m) (if pzk c = true then upI ag m (pzP cnt tx c p).2.2 else ag) else (false, (pzP cnt tx c p).2.1, m, ag) := rfl
    have hkc : kcF (c :: l) = (if pzk c = true then 1 else 0) + kcF l := rfl
    have hlen : (c :: l).length = l.length + 1 := rfl
    rw [hu]
    by_cases ok : (pzP cnt tx c p).1 = true
    · rw [if_pos ok]
      have hp := hb.2.2.2.2 ok
      have hr := ih (pzP cnt tx c p).2.1 (if pzk c = true then m + 1 else m) (if pzk c = true then upI ag m (pzP cnt tx c p).2.2 else ag) (fun d hd => hl d (List.mem_cons_of_mem _ hd)) (by omega) (by omega) (by
        intro i
        by_cases d : pzk c = true
        · rw [if_pos d]
          unfold upI
          by_cases di : i = m
          · rw [if_pos di]; omega
          · rw [if_neg di]; exact ha i
        · rw [if_neg d]; exact ha i)
      refine ⟨by omega, hr.2.1, fun y => ?_, hr.2.2.2⟩
      have h3 := hr.2.2.1 y
      refine ⟨by omega, ?_⟩
      rw [h3.2, hkc]
      by_cases d : pzk c = true
      · rw [if_pos d, if_pos d]; omega
      · rw [if_neg d, if_neg d]; omega
    · rw [if_neg ok]
      exact ⟨hb.1, hb.2.1, fun y => Bool.noConfusion y, ha⟩
def shK (cnt : Int) (tx : Int → Int) (p : Int) (k : Nat) : Bool × Int × Int × (Int → Int) := shR cnt tx (pzS k) p 0 (fun _ => 0)
theorem pzS_len : ∀ k : Fin 9, 6 ≤ (pzS k.val).length := by decide +kernel
theorem shK_b {cnt : Int} {tx : Int → Int} {p : Int} (hp : 0 ≤ p ∧ p ≤ cnt) {k : Nat} (hk : k < 9) : p ≤ (shK cnt tx p k).2.1 ∧ (shK cnt tx p k).2.1 ≤ cnt ∧ ((shK cnt tx p k).1 = true → p + 6 ≤ (shK cnt tx p k).2.1 ∧ (shK cnt tx p k).2.2.1 = kcF (pzS k)) ∧ ∀ i, -99 ≤ (shK cnt tx p k).2.2.2 i ∧ (shK cnt tx p k).2.2.2 i ≤ 99 := by
  have h := shR_b (cnt := cnt) (tx := tx) (pzS k) p 0 (fun _ => 0) (pzS_at ⟨k, hk⟩).2.2.2.2 hp.1 hp.2 (fun _ => by decide)
  have h6 : 6 ≤ (pzS k).length := pzS_len ⟨k, hk⟩
  refine ⟨h.1, h.2.1, fun y => ?_, h.2.2.2⟩
  have h2 := h.2.2.1 y
  exact ⟨by show p + 6 ≤ (shR cnt tx (pzS k) p 0 (fun _ => 0)).2.1; omega, by show (shR cnt tx (pzS k) p 0 (fun _ => 0)).2.2.1 = _; omega⟩
def cmR (cnt : Int) (tx : Int → Int) (p : Int) : Nat → Nat → Int → Bool × Int × Nat × (Int → Int)
  | 0, _, e => (false, e, 0, fun _ => 0)
  | n + 1, k, e => if (shK cnt tx p k).1 = true then (true, (shK cnt tx p k).2.1, k, (shK cnt tx p k).2.2.2) else cmR cnt tx p n (k + 1) (max e (shK cnt tx p k).2.1)
def cmd (cnt : Int) (tx : Int → Int) (p : Int) : Bool × Int × Nat × (Int → Int) := cmR cnt tx p 9 0 p
theorem cmR_b {cnt : Int} {tx : Int → Int} {p : Int} (hp : 0 ≤ p ∧ p ≤ cnt) : ∀ (n k : Nat) (e : Int), k + n = 9 → p ≤ e → e ≤ cnt → p ≤ (cmR cnt tx p n k e).2.1 ∧ (cmR cnt tx p n k e).2.1 ≤ cnt ∧ ((cmR cnt tx p n k e).1 = true → p + 6 ≤ (cmR cnt tx p n k e).2.1 ∧ (cmR cnt tx p n k e).2.2.1 < 9) ∧ ∀ i, -99 ≤ (cmR cnt tx p n k e).2.2.2 i ∧ (cmR cnt tx p n k e).2.2.2 i ≤ 99 := by
  intro n
  induction n with
  | zero =>
    intro k e _ h1 h2
    exact ⟨h1, h2, fun y => Bool.noConfusion y, fun _ => ⟨(by decide : (-99 : Int) ≤ 0), (by decide : (0 : Int) ≤ 99)⟩⟩
  | succ n ih =>
    intro k e hk h1 h2
    have hb := shK_b (cnt := cnt) (tx := tx) hp (k := k) (by omega)
    have hu : cmR cnt tx p (n + 1) k e = if (shK cnt tx p k).1 = true then (true, (shK cnt tx p k).2.1, k, (shK cnt tx p k).2.2.2) else cmR cnt tx p n (k + 1) (max e (shK cnt tx p k).2.1) := rfl
    rw [hu]
    by_cases ok : (shK cnt tx p k).1 = true
    · rw [if_pos ok]
      exact ⟨hb.1, hb.2.1, fun _ => ⟨(hb.2.2.1 ok).1, by show k < 9; omega⟩, hb.2.2.2⟩
    · rw [if_neg ok]
      exact ih (k + 1) _ (by omega) (by omega) (by omega)
theorem cmd_b {cnt : Int} {tx : Int → Int} {p : Int} (hp : 0 ≤ p ∧ p ≤ cnt) : p ≤ (cmd cnt tx p).2.1 ∧ (cmd cnt tx p).2.1 ≤ cnt ∧ ((cmd cnt tx p).1 = true → p + 6 ≤ (cmd cnt tx p).2.1 ∧ (cmd cnt tx p).2.2.1 < 9) ∧ ∀ i, -99 ≤ (cmd cnt tx p).2.2.2 i ∧ (cmd cnt tx p).2.2.2 i ≤ 99 := cmR_b hp 9 0 p rfl (Int.le_refl _) hp.2
def CmR (x : Rs Int32) (cnt : Int) (tx : Int → Int) (M : Mm) (r : Bool × Int × Nat × (Int → Int)) : Prop := (r.1 = true → ∃ M1 e1, x = some (.inl (zI r.2.1), M1) ∧ CP cnt tx (kcF (pzS r.2.2.1)) e1 r.2.2.2 M1 ∧ M1 16 4 = zI (r.2.2.1 : Int) ∧ FI M M1) ∧ (r.1 = false → ∃ M1 m1 a1, x = some (.inl (zI (-1)), M1) ∧ CP cnt tx m1 r.2.1 a1 M1 ∧ FI M M1)
theorem In_command_15 {cnt : Int} {tx : Int → Int} {p : Int} (hp : 0 ≤ p ∧ p ≤ cnt) : ∀ (n k f : Nat) (e m : Int) (ag : Int → Int) (M : Mm), k + n = 9 → n < f → CP cnt tx m e ag M → CmR (fn_In_readCommand_15 (zI p) (zI 9) f (zI (k : Int)) M) cnt tx M (cmR cnt tx p n k e) := by
  intro n
  induction n with
  | zero =>
    intro k f e m ag M hk hf h
    cases f with
    | zero => exact absurd hf (by omega)
    | succ f =>
      refine ⟨fun y => Bool.noConfusion y, fun _ => ⟨M, m, ag, ?_, h, fun _ _ _ => rfl⟩⟩
      rw [fn_In_readCommand_15, if_pos (by rw [zI_le (by omega) (by omega)]; omega)]
      rfl
  | succ n ih =>
    intro k f e m ag M hk hf h
    cases f with
    | zero => exact absurd hf (by omega)
    | succ f =>
      have hs := In_readShape (kk := k) (by omega) h hp
      have hb := shK_b (cnt := cnt) (tx := tx) hp (k := k) (by omega)
      have hcn := h.1.1
      have hu : cmR cnt tx p (n + 1) k e = if (shK cnt tx p k).1 = true then (true, (shK cnt tx p k).2.1, k, (shK cnt tx p k).2.2.2) else cmR cnt tx p n (k + 1) (max e (shK cnt tx p k).2.1) := rfl
      have hx : fn_In_readCommand_15 (zI p) (zI 9) (f + 1) (zI (k : Int)) M = bnd (fn_In_readShape k (zI p) M) (fun r34 M34 => if r34 = (-1) then (li (zI (k : Int) + 1) (fun x4_54 => fn_In_readCommand_15 (zI p) (zI 9) f x4_54 M34)) else (fn_In_readCommand_45 k r34 M34)) := by
        rw [fn_In_readCommand_15, if_neg (by rw [zI_le (by omega) (by omega)]; omega), grd_inb (by omega) (by omega) (by omega), zI_cl (by omega) (by omega), show ((k : Int)).toNat = k from Int.toNat_natCast k]
      rw [hu, hx]
      by_cases ok : (shK cnt tx p k).1 = true
      · obtain ⟨M1, e1, e2, e3⟩ := hs.1 ok
        have hm : (shK cnt tx p k).2.2.1 = kcF (pzS k) := (hb.2.2.1 ok).2
        have e2' : CP cnt tx (kcF (pzS k)) e (shK cnt tx p k).2.2.2 M1 := by rw [← hm]; exact e2
        have e1' : fn_In_readShape k (zI p) M = some (.inl (zI (shK cnt tx p k).2.1), M1) := e1
        rw [if_pos ok, e1', bnd_ok, if_neg (by rw [show (-1 : Int32) = zI (-1) from rfl, zI_eq (by omega) (by omega)]; omega)]
        refine ⟨fun _ => ⟨mset M1 16 4 (zI (k : Int)), e, ?_, ⟨e2'.1.to (by rw [mset_oth _ _ _ _ (by decide)]) (mset_ne _ _ _ (by decide)), e2'.2.1, by rw [mset_oth _ _ _ _ (by decide)]; exact e2'.2.2.1, e2'.2.2.2.1, by rw [mset_oth _ _ _ _ (by decide)]; exact e2'.2.2.2.2.1, fun i i0 i1 => by rw [mset_ne _ _ _ (by decide)]; exact e2'.2.2.2.2.2 i i0 i1⟩, mset_at _ _ _ _, fun j j1 j2 => by rw [mset_ne _ _ _ j1]; exact e3 j j1 j2⟩, fun y => Bool.noConfusion y⟩
        unfold fn_In_readCommand_45
        rw [zI_nI, lm_eq]
      · have ok2 : (shK cnt tx p k).1 = false := by
          cases hh : (shK cnt tx p k).1 with
          | true => exact absurd hh ok
          | false => rfl
        obtain ⟨M1, m1, a1, e1, e2, e3⟩ := hs.2 ok2
        rw [if_neg ok, e1, bnd_ok, if_pos (by decide), li_eq, show (1 : Int32) = zI 1 from rfl, zI_add, show (k : Int) + 1 = ((k + 1 : Nat) : Int) from rfl]
        have hr := ih (k + 1) f _ m1 a1 M1 (by omega) (by omega) e2
        refine ⟨fun y => ?_, fun y => ?_⟩
        · obtain ⟨M2, e9, f1, f2, f3, f4⟩ := hr.1 y
          exact ⟨M2, e9, f1, f2, f3, e3.tr f4⟩
        · obtain ⟨M2, m2, g2, f1, f2, f3⟩ := hr.2 y
          exact ⟨M2, m2, g2, f1, f2, e3.tr f3⟩
theorem In_readCommand {cnt : Int} {tx : Int → Int} {p : Int} (hp : 0 ≤ p ∧ p ≤ cnt) {M : Mm} (h : ICt cnt tx M) : CmR (fn_In_readCommand (zI p) M) cnt tx M (cmd cnt tx p) := by
  have hcn := h.1
  have h0 : ICt cnt tx (mset M 16 5 (zI p)) := h.to (by rw [mset_oth _ _ _ _ (by decide)]) (mset_ne _ _ _ (by decide))
  have hx : fn_In_readCommand (zI p) M = fn_In_readCommand_15 (zI p) (zI 9) (1999 + 1) (zI ((0 : Nat) : Int)) (mset M 16 5 (zI p)) := by
    unfold fn_In_readCommand
    rw [lm_eq, show fuel0 = 1999 + 1 from rfl, show (9 : Int32) = zI 9 from rfl, show (0 : Int32) = zI ((0 : Nat) : Int) from rfl]
  have hM : CP cnt tx 0 p (fun _ => 0) (mset (mset M 16 5 (zI p)) 16 3 (zI 0)) := ⟨h0.to (by rw [mset_oth _ _ _ _ (by decide)]) (mset_ne _ _ _ (by decide)), by omega, mset_at _ _ _ _, by omega, by rw [mset_oth _ _ _ _ (by decide), mset_at], fun i i0 i1 => absurd i1 (by omega)⟩
  have hf : FI M (mset (mset M 16 5 (zI p)) 16 3 (zI 0)) := fun j j1 _ => by rw [mset_ne _ _ _ j1, mset_ne _ _ _ j1]
  have hr := In_command_15 hp 9 0 (1999 + 1) p 0 (fun _ => 0) _ rfl (by omega) hM
  have he : ∀ f, fn_In_readCommand_15 (zI p) (zI 9) (f + 1) (zI ((0 : Nat) : Int)) (mset M 16 5 (zI p)) = fn_In_readCommand_15 (zI p) (zI 9) (f + 1) (zI ((0 : Nat) : Int)) (mset (mset M 16 5 (zI p)) 16 3 (zI 0)) := by
    intro f
    conv => lhs; rw [fn_In_readCommand_15]
    conv => rhs; rw [fn_In_readCommand_15]
    have hs : ∀ k : Nat, k < 9 → fn_In_readShape k (zI p) (mset M 16 5 (zI p)) = fn_In_readShape k (zI p) (mset (mset M 16 5 (zI p)) 16 3 (zI 0)) := by
      intro k hk
      unfold fn_In_readShape
      rw [grd_lt hk, grd_lt hk, lm_eq, lm_eq, mset_row (mset M 16 5 (zI p)) 16 3 0, mset_row (mset (mset M 16 5 (zI p)) 16 3 (zI 0)) 16 3 0, mset_row (mset M 16 5 (zI p)) 16 3 (zI 0), mrow_mrow, mrow_eq]
      congr 2
      funext i
      unfold upd
      by_cases c : i = 3
      · rw [if_pos c, if_pos c]
      · rw [if_neg c, if_neg c, if_neg c]
    rw [if_neg (by decide), if_neg (by decide), grd_inb (by decide) (by decide) (by decide), grd_inb (by decide) (by decide) (by decide), hs _ (by decide)]
  rw [hx, he]
  refine ⟨fun y => ?_, fun y => ?_⟩
  · obtain ⟨M2, e9, f1, f2, f3, f4⟩ := hr.1 y
    exact ⟨M2, e9, f1, f2, f3, hf.tr f4⟩
  · obtain ⟨M2, m2, g2, f1, f2, f3⟩ := hr.2 y
    exact ⟨M2, m2, g2, f1, f2, hf.tr f3⟩
