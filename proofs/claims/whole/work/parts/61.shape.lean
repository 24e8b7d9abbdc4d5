/-! A SHAPE, A COMMAND, A PROGRAM: one reading, and the class's side -/
def pzS (k : Nat) : List Int := [[112, 117, 116, 32, 68, 32, 78], [115, 101, 116, 32, 68, 32, 73, 61, 78], [99, 117, 116, 32, 68, 32, 73], [99, 111, 112, 121, 32, 68, 60, 68], [116, 117, 114, 110, 32, 68], [115, 104, 105, 102, 116, 32, 68, 32, 78], [115, 109, 111, 111, 116, 104, 32, 68, 32, 68], [115, 116, 101, 112, 115, 32, 68], [99, 108, 105, 112, 32, 68, 32, 78, 32, 78]].getD k []
theorem pzS_at : ∀ k : Fin 9, zz_slen k.val = zI ((pzS k.val).length : Int) ∧ zz_shl.getD k.val 0 = (pzS k.val).length ∧ (pzS k.val).length ≤ 10 ∧ (∀ i : Fin 10, i.val < (pzS k.val).length → zz_sch k.val i.val = zI ((pzS k.val).getD i.val 0)) ∧ (∀ c ∈ pzS k.val, 0 < c ∧ c < 128) := by decide +kernel
def kcF : List Int → Int
  | [] => 0
  | c :: l => (if pzk c = true then 1 else 0) + kcF l
theorem kcF_0 : ∀ l : List Int, 0 ≤ kcF l
  | [] => by decide
  | c :: l => by
    have := kcF_0 l
    show 0 ≤ (if pzk c = true then 1 else 0) + kcF l
    by_cases d : pzk c = true
    · rw [if_pos d]; omega
    · rw [if_neg d]; omega
theorem kcF_S : ∀ k : Fin 9, kcF (pzS k.val) ≤ 3 := by decide +kernel
def shR (cnt : Int) (tx : Int → Int) : List Int → Int → Int → (Int → Int) → Bool × Int × Int × (Int → Int)
  | [], p, m, ag => (true, p, m, ag)
  | c :: l, p, m, ag => if (pzP cnt tx c p).1 = true then shR cnt tx l (pzP cnt tx c p).2.1 (if pzk c = true then m + 1 else m) (if pzk c = true then upI ag m (pzP cnt tx c p).2.2 else ag) else (false, (pzP cnt tx c p).2.1, m, ag)
def SR (x : Rs Int32) (cnt : Int) (tx : Int → Int) (e : Int) (M : Mm) (r : Bool × Int × Int × (Int → Int)) : Prop := (r.1 = true → ∃ M1, x = some (.inl (zI r.2.1), M1) ∧ CP cnt tx r.2.2.1 e r.2.2.2 M1 ∧ FI M M1) ∧ (r.1 = false → ∃ M1 m1 a1, x = some (.inl (zI (-1)), M1) ∧ CP cnt tx m1 (max e r.2.1) a1 M1 ∧ FI M M1)
theorem FI.tr {A B C : Mm} (h : FI A B) (k : FI B C) : FI A C := fun j j1 j2 => (k j j1 j2).trans (h j j1 j2)
theorem In_shape_10 {kk : Nat} (hk : kk < 9) {cnt : Int} {tx : Int → Int} {e : Int} : ∀ (l : List Int) (n i : Nat) (p m : Int) (ag : Int → Int) (M : Mm), (pzS kk).drop i = l → i + l.length = (pzS kk).length → CP cnt tx m e ag M → 0 ≤ p → p ≤ cnt → m + kcF l ≤ 3 → l.length < n → SR (fn_In_readShape_10 kk n (zI p) (zI (i : Int)) M) cnt tx e M (shR cnt tx l p m ag) := by
  obtain ⟨a1, a2, a3, a4, a5⟩ := pzS_at ⟨kk, hk⟩
  intro l
  induction l with
  | nil =>
    intro n i p m ag M hl hi h p0 p1 hm hn
    cases n with
    | zero => exact absurd hn (by omega)
    | succ n =>
      have e1 : (i : Int) = ((pzS kk).length : Int) := by
        have : i = (pzS kk).length := hi
        omega
      refine ⟨fun _ => ⟨M, ?_, h, fun _ _ _ => rfl⟩, fun c => Bool.noConfusion c⟩
      rw [fn_In_readShape_10]
      have a9 : zz_slen kk = zI ((pzS kk).length : Int) := a1
      have a10 : (pzS kk).length ≤ 10 := a3
      rw [a9, e1, if_pos (by rw [zI_le (by omega) (by omega)]; omega)]
      rfl
  | cons c l ih =>
    intro n i p m ag M hl hi h p0 p1 hm hn
    cases n with
    | zero => exact absurd hn (by omega)
    | succ n =>
      have hi2 : i + (l.length + 1) = (pzS kk).length := hi
      have il : i < (pzS kk).length := by omega
      have hc : (pzS kk).getD i 0 = c := by
        rw [List.getD_eq_getElem?_getD, show (pzS kk)[i]? = some c from by rw [← List.head?_drop, hl]; rfl]
        rfl
      have hmem : c ∈ pzS kk := by
        have : c ∈ (pzS kk).drop i := by rw [hl]; exact List.mem_cons_self
        exact List.mem_of_mem_drop this
      have hcb := a5 c hmem
      have a6 := a4 ⟨i, by have : (pzS kk).length ≤ 10 := a3; omega⟩ il
      have a7 : zz_sch kk i = zI c := by rw [← hc]; exact a6
      have a8 : zz_shl.getD kk 0 = (pzS kk).length := a2
      have a9 : zz_slen kk = zI ((pzS kk).length : Int) := a1
      have a10 : (pzS kk).length ≤ 10 := a3
      have hk0 := kcF_0 l
      have hkc : kcF (c :: l) = (if pzk c = true then 1 else 0) + kcF l := rfl
      have hd : (pzS kk).drop (i + 1) = l := by rw [← List.tail_drop, hl]; rfl
      have hP := In_readPart h hcb (fun d => by rw [hkc, if_pos d] at hm; omega) ⟨p0, p1⟩
      have hb := pzP_b (cnt := cnt) (tx := tx) (c := c) (p := p) (by omega) ⟨p0, p1⟩
      have hx : fn_In_readShape_10 kk (n + 1) (zI p) (zI (i : Int)) M = bnd (fn_In_readPart (zI c) (zI p) M) (fun r27 M27 => if r27 = (-1) then (some (.inl (-1), M27)) else (li (zI (i : Int) + 1) (fun x4_38 => fn_In_readShape_10 kk n r27 x4_38 M27))) := by
        rw [fn_In_readShape_10, a9, if_neg (by rw [zI_le (by omega) (by omega)]; omega), a8, grd_inb (by omega) (by omega) (by omega), zI_cl (by omega) (by omega), show ((i : Int)).toNat = i from Int.toNat_natCast i, a7]
      have hu : shR cnt tx (c :: l) p m ag = if (pzP cnt tx c p).1 = true then shR cnt tx l (pzP cnt tx c p).2.1 (if pzk c = true then m + 1 else m) (if pzk c = true then upI ag m (pzP cnt tx c p).2.2 else ag) else (false, (pzP cnt tx c p).2.1, m, ag) := rfl
      rw [hu, hx]
      by_cases ok : (pzP cnt tx c p).1 = true
      · obtain ⟨M1, e1, e2, e3⟩ := hP.1 ok
        rw [if_pos ok, e1, bnd_ok, if_neg (by rw [show (-1 : Int32) = zI (-1) from rfl, zI_eq (by have := h.1.1; omega) (by omega)]; omega), li_eq, show (1 : Int32) = zI 1 from rfl, zI_add, show (i : Int) + 1 = ((i + 1 : Nat) : Int) from rfl]
        have hlen : (c :: l).length = l.length + 1 := rfl
        have hr := ih n (i + 1) (pzP cnt tx c p).2.1 (if pzk c = true then m + 1 else m) (if pzk c = true then upI ag m (pzP cnt tx c p).2.2 else ag) M1 hd (by omega) e2 (by omega) (by omega) (by
          rw [hkc] at hm
          by_cases d : pzk c = true
          · rw [if_pos d] at hm ⊢; omega
          · rw [if_neg d] at hm ⊢; omega) (by omega)
        refine ⟨fun y => ?_, fun y => ?_⟩
        · obtain ⟨M2, f1, f2, f3⟩ := hr.1 y
          exact ⟨M2, f1, f2, e3.tr f3⟩
        · obtain ⟨M2, m2, g2, f1, f2, f3⟩ := hr.2 y
          exact ⟨M2, m2, g2, f1, f2, e3.tr f3⟩
      · have ok2 : (pzP cnt tx c p).1 = false := by
          cases hh : (pzP cnt tx c p).1 with
          | true => exact absurd hh ok
          | false => rfl
        obtain ⟨M1, e1, e2, e3⟩ := hP.2 ok2
        rw [if_neg ok, e1, bnd_ok, if_pos (by decide)]
        exact ⟨fun y => Bool.noConfusion y, fun _ => ⟨M1, m, ag, rfl, e2, e3⟩⟩
theorem In_readShape {kk : Nat} (hk : kk < 9) {cnt : Int} {tx : Int → Int} {e m0 : Int} {ag0 : Int → Int} {M : Mm} (h : CP cnt tx m0 e ag0 M) {p : Int} (hp : 0 ≤ p ∧ p ≤ cnt) : SR (fn_In_readShape kk (zI p) M) cnt tx e M (shR cnt tx (pzS kk) p 0 (fun _ => 0)) := by
  have hM : CP cnt tx 0 e (fun _ => 0) (mset M 16 3 (zI 0)) := ⟨h.1.to (by rw [mset_oth _ _ _ _ (by decide)]) (mset_ne _ _ _ (by decide)), by omega, mset_at _ _ _ _, h.2.2.2.1, by rw [mset_oth _ _ _ _ (by decide)]; exact h.2.2.2.2.1, fun i i0 i1 => absurd i1 (by omega)⟩
  have hf : FI M (mset M 16 3 (zI 0)) := fun j j1 _ => mset_ne _ _ _ j1
  have hL : (pzS kk).length ≤ 10 := (pzS_at ⟨kk, hk⟩).2.2.1
  have hr := In_shape_10 hk (cnt := cnt) (tx := tx) (e := e) (pzS kk) 2000 0 p 0 (fun _ => 0) (mset M 16 3 (zI 0)) rfl (by omega) hM hp.1 hp.2 (by have := kcF_S ⟨kk, hk⟩; show 0 + kcF (pzS kk) ≤ 3; have h3 : kcF (pzS kk) ≤ 3 := this; omega) (by omega)
  have hx : fn_In_readShape kk (zI p) M = fn_In_readShape_10 kk 2000 (zI p) (zI ((0 : Nat) : Int)) (mset M 16 3 (zI 0)) := by
    unfold fn_In_readShape fuel0
    rw [grd_lt hk, lm_eq]
    rfl
  rw [hx]
  refine ⟨fun y => ?_, fun y => ?_⟩
  · obtain ⟨M2, f1, f2, f3⟩ := hr.1 y
    exact ⟨M2, f1, f2, hf.tr f3⟩
  · obtain ⟨M2, m2, g2, f1, f2, f3⟩ := hr.2 y
    exact ⟨M2, m2, g2, f1, f2, hf.tr f3⟩
