/-! THE MODEL READS THE REST OF A COMMAND -/
theorem shR_2 {cnt : Int} {tx : Int → Int} {c d : Int} (hc : c = 32 ∨ c = 60 ∨ c = 61) (hd : d = 68 ∨ d = 73 ∨ d = 78) (l : List Int) (p m : Int) (ag : Int → Int) : shR cnt tx (c :: d :: l) p m ag = if (pz2 cnt tx c d p).1 = true then shR cnt tx l (pz2 cnt tx c d p).2.1 (m + 1) (upI ag m (pz2 cnt tx c d p).2.2) else (false, (pz2 cnt tx c d p).2.1, m, ag) := by
  have hP : pzP cnt tx c p = pzL cnt tx c p := by
    unfold pzP
    rw [if_neg (by omega), if_neg (by omega), if_neg (by omega)]
  have hkc : ¬ pzk c = true := by
    unfold pzk
    rw [decide_eq_true_eq]
    omega
  have hkd : pzk d = true := by
    unfold pzk
    rw [decide_eq_true_eq]
    exact hd
  have u1 : shR cnt tx (c :: d :: l) p m ag = if (pzP cnt tx c p).1 = true then shR cnt tx (d :: l) (pzP cnt tx c p).2.1 (if pzk c = true then m + 1 else m) (if pzk c = true then upI ag m (pzP cnt tx c p).2.2 else ag) else (false, (pzP cnt tx c p).2.1, m, ag) := rfl
  have u2 : ∀ p, shR cnt tx (d :: l) p m ag = if (pzP cnt tx d p).1 = true then shR cnt tx l (pzP cnt tx d p).2.1 (if pzk d = true then m + 1 else m) (if pzk d = true then upI ag m (pzP cnt tx d p).2.2 else ag) else (false, (pzP cnt tx d p).2.1, m, ag) := fun _ => rfl
  rw [u1, if_neg hkc, if_neg hkc, u2, if_pos hkd, if_pos hkd, hP]
  unfold pzL pz2
  by_cases e : pzc cnt tx p = c
  · rw [if_pos e, if_pos e, if_pos rfl]
  · rw [if_neg e, if_neg e, if_neg (fun y => Bool.noConfusion y), if_neg (fun y => Bool.noConfusion y)]
def FQ (q : Int) (M M1 : Mm) : Prop := (∀ j, j ≠ 32 → j ≠ 41 → j ≠ 42 → j ≠ 43 → j ≠ 44 → M1 j = M j) ∧ (∀ i, i ≠ 20 → i ≠ 21 → i ≠ 22 → M1 32 i = M 32 i) ∧ ∀ j i, 41 ≤ j → j ≤ 44 → i ≠ q.toNat → M1 j i = M j i
theorem FQ.tr {q : Int} {A B C : Mm} (h : FQ q A B) (k : FQ q B C) : FQ q A C := ⟨fun j j1 j2 j3 j4 j5 => (k.1 j j1 j2 j3 j4 j5).trans (h.1 j j1 j2 j3 j4 j5), fun i i1 i2 i3 => (k.2.1 i i1 i2 i3).trans (h.2.1 i i1 i2 i3), fun j i j1 j2 i1 => (k.2.2 j i j1 j2 i1).trans (h.2.2 j i j1 j2 i1)⟩
theorem FM.q {q : Int} {M M1 : Mm} (h : FM M M1) : FQ q M M1 := ⟨fun j j1 _ _ _ _ => h.1 j j1, fun i i1 _ i3 => h.2 i i1 i3, fun j i j1 j2 _ => by rw [h.1 j (by omega)]⟩
theorem FQ.put (q : Int) (M : Mm) {row : Nat} (hr : 41 ≤ row ∧ row ≤ 44) (x : Int32) : FQ q M (mset M row q.toNat x) := ⟨fun j j1 j2 j3 j4 j5 => mset_ne _ _ _ (by omega), fun i _ _ _ => by rw [mset_ne _ _ _ (by omega)], fun j i j1 j2 i1 => by
  by_cases c : j = row
  · rw [c, mset_oth _ _ _ _ i1]
  · rw [mset_ne _ _ _ c]⟩
theorem MP.row {cnt : Int} {tx : Int → Int} {p f : Int} {M : Mm} (h : MP cnt tx p f M) {row : Nat} (hr : 41 ≤ row ∧ row ≤ 44) (i : Nat) (x : Int32) : MP cnt tx p f (mset M row i x) := ⟨h.1, h.2.1, h.2.2.1, h.2.2.2.1, by rw [mset_ne _ _ _ (by omega)]; exact h.2.2.2.2.1, by rw [mset_ne _ _ _ (by omega)]; exact h.2.2.2.2.2.1, by rw [mset_ne _ _ _ (by omega)]; exact h.2.2.2.2.2.2.1, fun i i0 i1 => by rw [mset_ne _ _ _ (by omega)]; exact h.2.2.2.2.2.2.2 i i0 i1⟩
/-- a reader, and its number kept in a row -/
theorem Pt_y {x : Rs Int32} {cnt : Int} {tx : Int → Int} {M : Mm} {r : Bool × Int × Int} (h : MOk x cnt tx M r) {q : Int} (hq : M 32 21 = zI q) (hb : 0 ≤ q ∧ q < 32) {row : Nat} (hr : 41 ≤ row ∧ row ≤ 44) (ok : r.1 = true) : ∃ M1, (∀ k : Mm → Rs Unit, bnd x (fun v Mv => grd (inb (M 32 21) 32) (lm (mset Mv row (M 32 21).toNatClampNeg v) k)) = k M1) ∧ MP cnt tx r.2.1 0 M1 ∧ M1 row q.toNat = zI r.2.2 ∧ M1 32 21 = zI q ∧ FQ q M M1 ∧ ∀ j, j ≠ 32 → j ≠ row → M1 j = M j := by
  obtain ⟨M1, e1, e2, e3⟩ := h.1 ok
  refine ⟨mset M1 row q.toNat (zI r.2.2), fun k => ?_, e2.row hr _ _, mset_at _ _ _ _, ?_, e3.q.tr (FQ.put q M1 hr _), fun j j1 j2 => by rw [mset_ne _ _ _ j2, e3.1 j j1]⟩
  · rw [e1, bnd_ok, hq, grd_inb (by omega) (by omega) (by omega), lm_eq, zI_cl (by omega) (by omega)]
  · rw [mset_ne _ _ _ (by omega), e3.2 21 (by decide) (by decide), hq]
theorem Pt_n {x : Rs Int32} {cnt : Int} {tx : Int → Int} {M : Mm} {p : Int} (h : MNo x cnt tx M p) {q : Int} (hq : M 32 21 = zI q) (hb : 0 ≤ q ∧ q < 32) {row : Nat} (hr : 41 ≤ row ∧ row ≤ 44) : ∃ M1, (∀ k : Mm → Rs Unit, bnd x (fun v Mv => grd (inb (M 32 21) 32) (lm (mset Mv row (M 32 21).toNatClampNeg v) k)) = k M1) ∧ MP cnt tx p 1 M1 ∧ M1 32 21 = zI q ∧ FQ q M M1 := by
  obtain ⟨M1, v, e1, e2, e3⟩ := h
  refine ⟨mset M1 row q.toNat v, fun k => ?_, e2.row hr _ _, ?_, e3.q.tr (FQ.put q M1 hr _)⟩
  · rw [e1, bnd_ok, hq, grd_inb (by omega) (by omega) (by omega), lm_eq, zI_cl (by omega) (by omega)]
  · rw [mset_ne _ _ _ (by omega), e3.2 21 (by decide) (by decide), hq]
theorem MOk.no {x : Rs Int32} {cnt : Int} {tx : Int → Int} {M : Mm} {r : Bool × Int × Int} (h : MOk x cnt tx M r) (no : ¬ r.1 = true) : MNo x cnt tx M r.2.1 := h.2 (bool_f no)
/-- what the rest of kind k does: from a place, with the first number read -/
def RsK (k : Nat) : List Int := (rsL k).drop 2
def RR (x : Rs Unit) (cnt : Int) (tx : Int → Int) (q : Int) (M : Mm) (r : Bool × Int × Int × (Int → Int)) : Prop := (r.1 = true → ∃ M1, x = some (.inl (), M1) ∧ MP cnt tx r.2.1 0 M1 ∧ M1 32 21 = zI q ∧ (2 ≤ r.2.2.1 → M1 43 q.toNat = zI (r.2.2.2 1)) ∧ (3 ≤ r.2.2.1 → M1 44 q.toNat = zI (r.2.2.2 2)) ∧ M1 42 = M 42 ∧ M1 41 = M 41 ∧ FQ q M M1) ∧ (r.1 = false → ∃ M1, x = some (.inl (), M1) ∧ MP cnt tx r.2.1 1 M1 ∧ M1 32 21 = zI q ∧ FQ q M M1)
theorem RR.nil {x : Rs Unit} {cnt : Int} {tx : Int → Int} {p q : Int} {M : Mm} (h : MP cnt tx p 0 M) (hq : M 32 21 = zI q) (ag : Int → Int) (hx : x = some (.inl (), M)) : RR x cnt tx q M (shR cnt tx [] p 1 ag) := ⟨fun _ => ⟨M, hx, h, hq, fun z => absurd z (by show ¬ (2 : Int) ≤ 1; decide), fun z => absurd z (by show ¬ (3 : Int) ≤ 1; decide), rfl, rfl, ⟨fun _ _ _ _ _ _ => rfl, fun _ _ _ _ => rfl, fun _ _ _ _ _ => rfl⟩⟩, fun y => Bool.noConfusion y⟩
theorem RR.one {y : Rs Int32} {x : Rs Unit} {cnt : Int} {tx : Int → Int} {p q : Int} {M : Mm} (hq : M 32 21 = zI q) (hb : 0 ≤ q ∧ q < 32) {c d : Int} (hc : c = 32 ∨ c = 60 ∨ c = 61) (hd : d = 68 ∨ d = 73 ∨ d = 78) (hy : MOk y cnt tx M (pz2 cnt tx c d p)) (ag : Int → Int) (hx : x = bnd y (fun v Mv => grd (inb (M 32 21) 32) (lm (mset Mv 43 (M 32 21).toNatClampNeg v) (fun M66 => some (.inl (), M66))))) : RR x cnt tx q M (shR cnt tx [c, d] p 1 ag) := by
  rw [shR_2 hc hd]
  by_cases ok : (pz2 cnt tx c d p).1 = true
  · obtain ⟨M1, e1, e2, e3, e4, e5, e6⟩ := Pt_y hy hq hb (row := 43) (by omega) ok
    rw [if_pos ok]
    refine ⟨fun _ => ⟨M1, by rw [hx]; exact e1 _, e2, e4, fun _ => ?_, fun z => absurd z (by show ¬ (3 : Int) ≤ 1 + 1; decide), e6 42 (by decide) (by decide), e6 41 (by decide) (by decide), e5⟩, fun y => Bool.noConfusion y⟩
    exact e3.trans (congrArg zI (upI_eq ag 1 _).symm)
  · obtain ⟨M1, e1, e2, e3, e4⟩ := Pt_n (hy.no ok) hq hb (row := 43) (by omega)
    rw [if_neg ok]
    exact ⟨fun y => Bool.noConfusion y, fun _ => ⟨M1, by rw [hx]; exact e1 _, e2, e3, e4⟩⟩
theorem RR.two {y : Rs Int32} {g : Mm → Rs Int32} {x : Rs Unit} {cnt : Int} {tx : Int → Int} {p q : Int} {M : Mm} (hq : M 32 21 = zI q) (hb : 0 ≤ q ∧ q < 32) {c d c2 d2 : Int} (hc : c = 32 ∨ c = 60 ∨ c = 61) (hd : d = 68 ∨ d = 73 ∨ d = 78) (hc2 : c2 = 32 ∨ c2 = 60 ∨ c2 = 61) (hd2 : d2 = 68 ∨ d2 = 73 ∨ d2 = 78) (hy : MOk y cnt tx M (pz2 cnt tx c d p)) (hg : ∀ p M, MP cnt tx p 0 M → MOk (g M) cnt tx M (pz2 cnt tx c2 d2 p)) (hn : ∀ p M, MP cnt tx p 1 M → MNo (g M) cnt tx M p) (ag : Int → Int)
    (hx : x = bnd y (fun v Mv => grd (inb (M 32 21) 32) (lm (mset Mv 43 (M 32 21).toNatClampNeg v) (fun M85 => bnd (g M85) (fun r97 M97 => grd (inb (M85 32 21) 32) (lm (mset M97 44 (M85 32 21).toNatClampNeg r97) (fun M100 => some (.inl (), M100)))))))) : RR x cnt tx q M (shR cnt tx [c, d, c2, d2] p 1 ag) := by
  rw [shR_2 hc hd]
  by_cases ok : (pz2 cnt tx c d p).1 = true
  · obtain ⟨M1, e1, e2, e3, e4, e5, e6⟩ := Pt_y hy hq hb (row := 43) (by omega) ok
    rw [if_pos ok, shR_2 hc2 hd2]
    have hg1 := hg _ M1 e2
    rw [hx, e1]
    by_cases ok2 : (pz2 cnt tx c2 d2 (pz2 cnt tx c d p).2.1).1 = true
    · obtain ⟨M2, f1, f2, f3, f4, f5, f6⟩ := Pt_y hg1 e4 hb (row := 44) (by omega) ok2
      rw [if_pos ok2]
      refine ⟨fun _ => ⟨M2, f1 _, f2, f4, fun _ => ?_, fun _ => ?_, by rw [f6 42 (by decide) (by decide), e6 42 (by decide) (by decide)], by rw [f6 41 (by decide) (by decide), e6 41 (by decide) (by decide)], e5.tr f5⟩, fun y => Bool.noConfusion y⟩
      · have h1 : upI (upI ag 1 (pz2 cnt tx c d p).2.2) (1 + 1) (pz2 cnt tx c2 d2 (pz2 cnt tx c d p).2.1).2.2 1 = (pz2 cnt tx c d p).2.2 := by rw [upI_ne _ _ (by decide), upI_eq]
        exact (congrFun (f6 43 (by decide) (by decide)) _).trans (e3.trans (congrArg zI h1.symm))
      · have h1 : upI (upI ag 1 (pz2 cnt tx c d p).2.2) (1 + 1) (pz2 cnt tx c2 d2 (pz2 cnt tx c d p).2.1).2.2 2 = (pz2 cnt tx c2 d2 (pz2 cnt tx c d p).2.1).2.2 := upI_eq _ (1 + 1) _
        exact f3.trans (congrArg zI h1.symm)
    · obtain ⟨M2, f1, f2, f3, f4⟩ := Pt_n (hg1.no ok2) e4 hb (row := 44) (by omega)
      rw [if_neg ok2]
      exact ⟨fun y => Bool.noConfusion y, fun _ => ⟨M2, f1 _, f2, f3, e5.tr f4⟩⟩
  · obtain ⟨M1, e1, e2, e3, e4⟩ := Pt_n (hy.no ok) hq hb (row := 43) (by omega)
    obtain ⟨M2, f1, f2, f3, f4⟩ := Pt_n (hn _ M1 e2) e3 hb (row := 44) (by omega)
    rw [if_neg ok, hx, e1]
    exact ⟨fun y => Bool.noConfusion y, fun _ => ⟨M2, f1 _, f2, f3, e4.tr f4⟩⟩
theorem Mo_rest {k : Nat} (hk : k < 9) {cnt : Int} {tx : Int → Int} {p q : Int} {M : Mm} (h : MP cnt tx p 0 M) (hq : M 32 21 = zI q) (hb : 0 ≤ q ∧ q < 32) (ag : Int → Int) : RR (fn_Mo_readsRest (zI (k : Int)) M) cnt tx q M (shR cnt tx (RsK k) p 1 ag) := by
  have nb := fun p M h => Mo_nb (cnt := cnt) (tx := tx) (p := p) (c := 32) (M := M) h (by omega)
  have nb61 := fun p M h => Mo_nb (cnt := cnt) (tx := tx) (p := p) (c := 61) (M := M) h (by omega)
  have nn := fun p M h => Mo_nb_fail (cnt := cnt) (tx := tx) (p := p) (c := 32) (f := 1) (M := M) h (by omega) (fun z => absurd z.1 (by decide))
  have nn61 := fun p M h => Mo_nb_fail (cnt := cnt) (tx := tx) (p := p) (c := 61) (f := 1) (M := M) h (by omega) (fun z => absurd z.1 (by decide))
  rcases (by omega : k = 0 ∨ k = 1 ∨ k = 2 ∨ k = 3 ∨ k = 4 ∨ k = 5 ∨ k = 6 ∨ k = 7 ∨ k = 8) with rfl | rfl | rfl | rfl | rfl | rfl | rfl | rfl | rfl
  · exact RR.one hq hb (c := 32) (d := 78) (by omega) (by omega) (nb p M h) ag rfl
  · exact RR.two hq hb (c := 32) (d := 73) (c2 := 61) (d2 := 78) (by omega) (by omega) (by omega) (by omega) (Mo_db2 h (by omega)) nb61 nn61 ag rfl
  · exact RR.one hq hb (c := 32) (d := 73) (by omega) (by omega) (Mo_db2 h (by omega)) ag rfl
  · exact RR.one hq hb (c := 60) (d := 68) (by omega) (by omega) (Mo_db1 h (by omega)) ag rfl
  · exact RR.nil h hq ag rfl
  · exact RR.one hq hb (c := 32) (d := 78) (by omega) (by omega) (nb p M h) ag rfl
  · exact RR.one hq hb (c := 32) (d := 68) (by omega) (by omega) (Mo_db1 h (by omega)) ag rfl
  · exact RR.nil h hq ag rfl
  · exact RR.two hq hb (c := 32) (d := 78) (c2 := 32) (d2 := 78) (by omega) (by omega) (by omega) (by omega) (nb p M h) nb nn ag rfl
