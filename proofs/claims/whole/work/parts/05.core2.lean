theorem ent_0 (K : KT) (f : Nat → Int32) : ent K 0 f = .inr (0, [.ref (kA K 1), .ref (kA K 12), .ref (kA K 14), .int (f 3), .ref (kA K 15), .ref (kA K 16), .int (f 6), .int (f 7), .ref (kA K 19), .ref (kA K 21), .ref (kA K 26), .ref (kA K 28), .ref (kA K 30)]) := rfl
theorem ent_1 (K : KT) (f : Nat → Int32) : ent K 1 f = .inr (1, [.ref (kA K 2), .ref (kA K 3), .ref (kA K 4), .ref (kA K 5), .ref (kA K 6), .int (f 5)]) := rfl
theorem ent_12 (K : KT) (f : Nat → Int32) : ent K 12 f = .inr (3, [.ref (kA K 13), .int (f 1), .int (f 2)]) := rfl
theorem ent_16 (K : KT) (f : Nat → Int32) : ent K 16 f = .inr (4, [.ref (kA K 17), .int (f 1), .ref (kA K 18), .int (f 3), .ref (kA K (1000 + (f 4).toNatClampNeg)), .int (f 5)]) := rfl
theorem ent_17 (K : KT) (f : Nat → Int32) : ent K 17 f = .inl (kC K 1, 60, .inl f) := rfl
theorem ent_21 (K : KT) (f : Nat → Int32) : ent K 21 f = .inr (5, [.ref (kA K 22), .ref (kA K 23), .ref (kA K 24), .ref (kA K 25)]) := rfl
theorem ent_26 (K : KT) (f : Nat → Int32) : ent K 26 f = .inr (6, [.ref (kA K 27)]) := rfl
theorem ent_28 (K : KT) (f : Nat → Int32) : ent K 28 f = .inr (7, [.ref (kA K 29)]) := rfl
theorem ent_30 (K : KT) (f : Nat → Int32) : ent K 30 f = .inr (8, [.ref (kA K 31)]) := rfl
theorem ent_32 (K : KT) (f : Nat → Int32) : ent K 32 f = .inr (9, [.ref (kA K 33), .ref (kA K 34), .ref (kA K 35), .ref (kA K 36), .ref (kA K 37), .ref (kA K 38), .int (f 6), .int (f 7), .int (f 8), .int (f 9), .int (f 10), .ref (kA K 39), .int (f 12), .ref (kA K 40), .ref (kA K 41), .ref (kA K 42), .ref (kA K 43), .ref (kA K 44), .int (f 18), .int (f 19), .int (f 20), .int (f 21), .int (f 22)]) := rfl
theorem ent_45 (K : KT) (f : Nat → Int32) : ent K 45 f = .inl (kC K 2, 1, .inr (.inl (fun j => (f j).toInt64))) := rfl
theorem ent_46 (K : KT) (f : Nat → Int32) : ent K 46 f = .inl (kC K 3, 1, .inr (.inr (.inr (.inl (fun _ => dbl (f 0) (f 1)))))) := rfl
theorem ent_ia (K : KT) (f : Nat → Int32) {k : Nat} (h : isIA k) : ent K k f = .inl (kC K 0, alen k, .inl f) := if_pos h
theorem ent_ser (K : KT) (f : Nat → Int32) {k : Nat} (h : isSer k) : ent K k f = .inr (2, [.ref (kA K (k + 5)), .int (f 1)]) := by
  obtain ⟨h1, h2⟩ := h
  have h3 : alen k = 0 := by
    rcases (by omega : k = 2 ∨ k = 3 ∨ k = 4 ∨ k = 5 ∨ k = 6) with rfl | rfl | rfl | rfl | rfl <;> rfl
  unfold ent
  rw [if_neg (fun h => h h3), if_pos ⟨h1, h2⟩]
theorem loc_ia {k : Nat} (h : isIA k) : k ∈ zz_locs := by
  have h1 : k < 47 := by
    rcases Nat.lt_or_ge k 47 with q | q
    · exact q
    · exact absurd (by unfold alen; rw [List.getD_eq_getElem?_getD, List.getElem?_eq_none (by exact q)]; rfl) h
  have h2 : (List.range 47).all (fun k => decide (alen k ≠ 0 → k ∈ zz_locs)) = true := by decide +kernel
  exact of_decide_eq_true (List.all_eq_true.mp h2 k (List.mem_range.mpr h1)) h
theorem loc_ser {k : Nat} (h : isSer k) : k ∈ zz_locs := by
  rcases (by omega : k = 2 ∨ k = 3 ∨ k = 4 ∨ k = 5 ∨ k = 6) with rfl | rfl | rfl | rfl | rfl <;> decide
theorem ser_ne19 {k : Nat} (h : isSer k) : k ≠ 19 := by omega
theorem ia_ne19 {k : Nat} (h : isIA k) : k ≠ 19 := fun e => h (by rw [e]; rfl)
theorem ia_ser {k : Nat} (h : isSer k) : alen (k + 5) = 20 := by
  rcases (by omega : k = 2 ∨ k = 3 ∨ k = 4 ∨ k = 5 ∨ k = 6) with rfl | rfl | rfl | rfl | rfl <;> rfl
section CORE2
variable {α β : Type} {l : Launch} {K : KT} {d nL mc ms : Nat} {rv : α → Option Value} {X : XT} {cc : ByteArray} {own : String} {ret : Option FieldType} {hh : List (Nat × Nat × Nat × Nat)} {L : zz_L}
variable {x : Rs α} {cells slots : Nat} {M : Mm} {pc : Nat} {lc : List (Nat × Value)} {st rest : List Value}
/-- a field, by the place of its link in the class file -/
def FL (own : String) (index ci j : Nat) : Prop := ∃ (C : String) (T : u_T) (N : Nat), wcl[ci]? = some (C, T, N) ∧ (∀ w ∈ u_ws C T N, w ∈ zz_good) ∧ j < N ∧ Cond.fieldLink own index (T j).1 (T j).2.1 (T j).2.2.1 ∈ zz_good
def FP (own : String) (index ci j : Nat) (ty : FieldType) : Prop := ∃ (C : String) (T : u_T) (N : Nat) (ty0 : Nat → FieldType), wcl[ci]? = some (C, T, N) ∧ (∀ w ∈ u_ws C T N, w ∈ zz_good) ∧ j < N ∧ Cond.fieldLink own index (T j).1 (T j).2.1 (T j).2.2.1 ∈ zz_good ∧ (∀ k, k < N → parseFieldDescriptor (T k).2.2.1 = some (ty0 k)) ∧ (∀ a, a < N → ∀ b, b < N → a ≠ b → (T a).2.1 ≠ (T b).2.1) ∧ (T j).2.2.2 = false ∧ parseFieldDescriptor (T j).2.2.1 = some ty
theorem V_get (hX : Cx l K d nL mc ms X cc own ret hh L) {index ci j : Nat} (k q kl : Nat) {fs : List Value} (v : Value) (hF : FL own index ci j) (hk : L[k]? = some (pc, .getfield index, 3)) (hq : pc + 3 = q) (hm : kl ∈ zz_locs) (he : ent K kl (M kl) = .inr (ci, fs)) (hv : fs[j]? = some v) (kk : VV l K d nL mc ms rv X x cells slots M q lc (v :: st)) : VV l K d nL mc ms rv X x cells slots M pc lc (.ref (kA K kl) :: st) := by
  subst hq
  obtain ⟨C, T, N, hc, hin, hj, hlk⟩ := hF
  intro o M' ho H locs ls hI hS hl
  obtain ⟨sb, hsb, hP, hD⟩ := id hI
  exact va_get (C := C) (T := T) (N := N) (ci := ci) (cx_x hX) (cx_b hX) (cx_w hX) hin (cx_own hX) (cx_K hX) hP (zz_pos kl) (zz_get K M sb hm he) hc j hj (cx_w hX _ hlk) (fun _ h => h) hv (zz_at (cx_d hX) k hk) (kk o M' ho H locs ls hI hS hl)
theorem V_put0 (hX : Cx l K d nL mc ms X cc own ret hh L) {index ci j : Nat} (k q kl : Nat) {fs : List Value} {ty : FieldType} (v : Value) (g : Nat → Int32) (hF : FP own index ci j ty) (hn : narrow ty v = v) (hfit : fits ty v = true) (h19 : kl ≠ 19) (hk : L[k]? = some (pc, .putfield index, 3)) (hq : pc + 3 = q) (hm : kl ∈ zz_locs) (he : ent K kl (M kl) = .inr (ci, fs)) (hj9 : j < fs.length) (he2 : ent K kl g = .inr (ci, fs.set j v)) (kk : VV l K d nL mc ms rv X x cells slots (mrow M kl g) q lc st) : VV l K d nL mc ms rv X x cells slots M pc lc (v :: .ref (kA K kl) :: st) := by
  subst hq
  obtain ⟨C, T, N, ty0, hc, hin, hj, hlk, hty, hnm, hfin, hd⟩ := hF
  intro o M' ho H locs ls hI hS hl
  obtain ⟨sb, hsb, hP, hD⟩ := id hI
  refine va_put (C := C) (T := T) (N := N) (ci := ci) (cx_x hX) (cx_b hX) (cx_w hX) hin ty0 hty hnm (cx_own hX) (cx_K hX) hP hD hS (zz_pos kl) (zz_get K M sb hm he) hc j hj (cx_w hX _ hlk) (fun _ h => h) hfin hd hn hfit hj9 (zz_at (cx_d hX) k hk) (fun H1 locs1 hP1 hD1 hS1 => ?_)
  rw [zz_set K M sb hm g he2] at hP1 hD1
  exact kk o M' ho H1 locs1 ls ⟨sb, by rw [mrow_ne _ _ h19.symm]; exact hsb, hP1, hD1⟩ hS1 hl
theorem V_putI (hX : Cx l K d nL mc ms X cc own ret hh L) {index ci j : Nat} (k q kl : Nat) {fs : List Value} {v : Int32} {kf : Mm → Rs α} (hF : FP own index ci j .int) (h19 : kl ≠ 19) (hk : L[k]? = some (pc, .putfield index, 3)) (hq : pc + 3 = q) (hm : kl ∈ zz_locs) (he : ent K kl (M kl) = .inr (ci, fs)) (hj9 : j < fs.length) (he2 : ent K kl (upd (M kl) j v) = .inr (ci, fs.set j (.int v))) (kk : ∀ M1, M1 = mset M kl j v → VV l K d nL mc ms rv X (kf M1) cells slots M1 q lc st) : VV l K d nL mc ms rv X (lm (mset M kl j v) kf) cells slots M pc lc (.int v :: .ref (kA K kl) :: st) :=
  V_put0 hX k q kl (.int v) (upd (M kl) j v) hF rfl rfl h19 hk hq hm he hj9 he2 (kk _ rfl)
abbrev isZ (v : Int32) : Prop := v = 0 ∨ v = 1
theorem vp_narZ {v : Int32} (h : isZ v) : narrow .boolean (.int v) = .int v ∧ fits .boolean (.int v) = true := by
  rcases h with rfl | rfl <;> exact ⟨rfl, by decide⟩
theorem vp_narC {v : Int32} (h : vp_nar .char v = v) : narrow .char (.int v) = .int v := by
  have h1 : narrow .char (.int v) = .int (vp_nar .char v) := rfl
  rw [h1, h]
theorem V_putZ (hX : Cx l K d nL mc ms X cc own ret hh L) {index ci j : Nat} (k q kl : Nat) {fs : List Value} {v : Int32} {kf : Mm → Rs α} (hF : FP own index ci j .boolean) (hz : isZ v) (h19 : kl ≠ 19) (hk : L[k]? = some (pc, .putfield index, 3)) (hq : pc + 3 = q) (hm : kl ∈ zz_locs) (he : ent K kl (M kl) = .inr (ci, fs)) (hj9 : j < fs.length) (he2 : ent K kl (upd (M kl) j v) = .inr (ci, fs.set j (.int v))) (kk : ∀ M1, M1 = mset M kl j v → VV l K d nL mc ms rv X (kf M1) cells slots M1 q lc st) : VV l K d nL mc ms rv X (lm (mset M kl j v) kf) cells slots M pc lc (.int v :: .ref (kA K kl) :: st) :=
  V_put0 hX k q kl (.int v) (upd (M kl) j v) hF (vp_narZ hz).1 (vp_narZ hz).2 h19 hk hq hm he hj9 he2 (kk _ rfl)
/-- Input.kind: the constant's number -/
theorem V_putK (hX : Cx l K d nL mc ms X cc own ret hh L) {index : Nat} (k q : Nat) {v : Nat} {kf : Mm → Rs α} (hF : FP own index 4 4 (.object "SeriesArchive$Kind")) (hv : v < 9) (hk : L[k]? = some (pc, .putfield index, 3)) (hq : pc + 3 = q) (kk : ∀ M1, M1 = mset M 16 4 (nI v) → VV l K d nL mc ms rv X (kf M1) cells slots M1 q lc st) : VV l K d nL mc ms rv X (lm (mset M 16 4 (nI v)) kf) cells slots M pc lc (.ref (kA K (1000 + v)) :: .ref (kA K 16) :: st) := by
  refine V_put0 hX k q 16 (.ref (kA K (1000 + v))) (upd (M 16) 4 (nI v)) hF rfl rfl (by decide) hk hq (by decide) (ent_16 K (M 16)) (by show 4 < 6; decide) ?_ (kk _ rfl)
  rw [ent_16]
  show (Sum.inr (4, [_, _, _, _, .ref (kA K (1000 + (nI v).toNatClampNeg)), _]) : va_E) = _
  rw [nI_clamp (by omega)]
  rfl
/-! arrays -/
theorem V_alen (hX : Cx l K d nL mc ms X cc own ret hh L) (k q a n : Nat) (v : Int32) (hia : isIA a) (hn : alen a = n) (hv : Int32.ofNat n = v) (hk : L[k]? = some (pc, .arraylength, 1)) (hq : pc + 1 = q) (kk : VV l K d nL mc ms rv X x cells slots M q lc (.int v :: st)) : VV l K d nL mc ms rv X x cells slots M pc lc (.ref (kA K a) :: st) := by
  subst hq; subst hn
  intro o M' ho H locs ls hI hS hl
  obtain ⟨sb, hsb, hP, hD⟩ := id hI
  exact va_alen (cx_x hX) (cx_b hX) (cx_K hX) hP (zz_pos a) 0 (zz_get K M sb (loc_ia hia) (ent_ia K (M a) hia)) rfl hv (zz_at (cx_d hX) k hk) (kk o M' ho H locs ls hI hS hl)
theorem V_clen (hX : Cx l K d nL mc ms X cc own ret hh L) (k q : Nat) (hk : L[k]? = some (pc, .arraylength, 1)) (hq : pc + 1 = q) (kk : VV l K d nL mc ms rv X x cells slots M q lc (.int 60 :: st)) : VV l K d nL mc ms rv X x cells slots M pc lc (.ref (kA K 17) :: st) := by
  subst hq
  intro o M' ho H locs ls hI hS hl
  obtain ⟨sb, hsb, hP, hD⟩ := id hI
  exact va_alen (cx_x hX) (cx_b hX) (cx_K hX) hP (zz_pos 17) 1 (zz_get K M sb (by decide) (ent_17 K (M 17))) rfl rfl (zz_at (cx_d hX) k hk) (kk o M' ho H locs ls hI hS hl)
theorem V_iald (hX : Cx l K d nL mc ms X cc own ret hh L) (k q a n : Nat) {i : Int32} {t : Rs α} {dg : Decidable (inb i n)} (hia : isIA a) (hn : alen a = n) (hk : L[k]? = some (pc, .iaload, 1)) (hq : pc + 1 = q) (kk : inb i n → VV l K d nL mc ms rv X t cells slots M q lc (.int (M a i.toNatClampNeg) :: st)) : VV l K d nL mc ms rv X (@grd _ (inb i n) dg t) cells slots M pc lc (.int i :: .ref (kA K a) :: st) := by
  subst hq; subst hn
  refine VV_grd (fun g => ?_)
  intro o M' ho H locs ls hI hS hl
  obtain ⟨sb, hsb, hP, hD⟩ := id hI
  exact va_iald (cx_x hX) (cx_b hX) (cx_K hX) hP (zz_pos a) 0 (zz_get K M sb (loc_ia hia) (ent_ia K (M a) hia)) rfl g (zz_at (cx_d hX) k hk) (kk g o M' ho H locs ls hI hS hl)
theorem V_iast (hX : Cx l K d nL mc ms X cc own ret hh L) (k q a n : Nat) {i v : Int32} {kf : Mm → Rs α} {dg : Decidable (inb i n)} (hia : isIA a) (hn : alen a = n) (hk : L[k]? = some (pc, .iastore, 1)) (hq : pc + 1 = q) (kk : inb i n → ∀ M1, M1 = mset M a i.toNatClampNeg v → VV l K d nL mc ms rv X (kf M1) cells slots M1 q lc st) : VV l K d nL mc ms rv X (@grd _ (inb i n) dg (lm (mset M a i.toNatClampNeg v) kf)) cells slots M pc lc (.int v :: .int i :: .ref (kA K a) :: st) := by
  subst hq; subst hn
  refine VV_grd (fun g => ?_)
  intro o M' ho H locs ls hI hS hl
  obtain ⟨sb, hsb, hP, hD⟩ := id hI
  refine va_iast (cx_x hX) (cx_b hX) (cx_K hX) hP hD hS (zz_pos a) 0 (zz_get K M sb (loc_ia hia) (ent_ia K (M a) hia)) rfl g (zz_at (cx_d hX) k hk) (fun H1 locs1 hP1 hD1 hS1 => ?_)
  rw [zz_set K M sb (loc_ia hia) (upd (M a) i.toNatClampNeg v) (ent_ia K _ hia)] at hP1 hD1
  exact kk g _ rfl o M' ho H1 locs1 ls ⟨sb, by rw [mset_ne _ _ _ (ia_ne19 hia).symm]; exact hsb, hP1, hD1⟩ hS1 hl
theorem V_cald (hX : Cx l K d nL mc ms X cc own ret hh L) (k q : Nat) {i : Int32} {t : Rs α} {dg : Decidable (inb i 60)} (hk : L[k]? = some (pc, .caload, 1)) (hq : pc + 1 = q) (kk : inb i 60 → VV l K d nL mc ms rv X t cells slots M q lc (.int (M 17 i.toNatClampNeg) :: st)) : VV l K d nL mc ms rv X (@grd _ (inb i 60) dg t) cells slots M pc lc (.int i :: .ref (kA K 17) :: st) := by
  subst hq
  refine VV_grd (fun g => ?_)
  intro o M' ho H locs ls hI hS hl
  obtain ⟨sb, hsb, hP, hD⟩ := id hI
  exact va_cald (cx_x hX) (cx_b hX) (cx_K hX) hP (zz_pos 17) 1 (zz_get K M sb (by decide) (ent_17 K (M 17))) rfl g (zz_at (cx_d hX) k hk) (kk g o M' ho H locs ls hI hS hl)
theorem V_cast (hX : Cx l K d nL mc ms X cc own ret hh L) (k q : Nat) {i v : Int32} {kf : Mm → Rs α} {dg : Decidable (inb i 60)} (hk : L[k]? = some (pc, .castore, 1)) (hq : pc + 1 = q) (kk : inb i 60 → ∀ M1, M1 = mset M 17 i.toNatClampNeg (vp_nar .char v) → VV l K d nL mc ms rv X (kf M1) cells slots M1 q lc st) : VV l K d nL mc ms rv X (@grd _ (inb i 60) dg (lm (mset M 17 i.toNatClampNeg (vp_nar .char v)) kf)) cells slots M pc lc (.int v :: .int i :: .ref (kA K 17) :: st) := by
  subst hq
  refine VV_grd (fun g => ?_)
  intro o M' ho H locs ls hI hS hl
  obtain ⟨sb, hsb, hP, hD⟩ := id hI
  refine va_cast (cx_x hX) (cx_b hX) (cx_K hX) hP hD hS (zz_pos 17) 1 (zz_get K M sb (by decide) (ent_17 K (M 17))) rfl g (zz_at (cx_d hX) k hk) (fun H1 locs1 hP1 hD1 hS1 => ?_)
  rw [zz_set K M sb (by decide) (upd (M 17) i.toNatClampNeg (vp_nar .char v)) (ent_17 K _)] at hP1 hD1
  exact kk g _ rfl o M' ho H1 locs1 ls ⟨sb, by rw [mset_ne _ _ _ (by decide : (19 : Nat) ≠ 17)]; exact hsb, hP1, hD1⟩ hS1 hl
theorem V_lald (hX : Cx l K d nL mc ms X cc own ret hh L) (k q : Nat) (hk : L[k]? = some (pc, .laload, 1)) (hq : pc + 1 = q) (kk : VV l K d nL mc ms rv X x cells slots M q lc (.long (M 45 0).toInt64 :: st)) : VV l K d nL mc ms rv X x cells slots M pc lc (.int 0 :: .ref (kA K 45) :: st) := by
  subst hq
  intro o M' ho H locs ls hI hS hl
  obtain ⟨sb, hsb, hP, hD⟩ := id hI
  exact va_lald (cx_x hX) (cx_b hX) (cx_K hX) hP (zz_pos 45) 2 (zz_get K M sb (by decide) (ent_45 K (M 45))) rfl (show inb 0 1 by decide) (zz_at (cx_d hX) k hk) (kk o M' ho H locs ls hI hS hl)
theorem V_last (hX : Cx l K d nL mc ms X cc own ret hh L) (k q : Nat) {v : Int32} {kf : Mm → Rs α} (hk : L[k]? = some (pc, .lastore, 1)) (hq : pc + 1 = q) (kk : ∀ M1, M1 = mset M 45 0 v → VV l K d nL mc ms rv X (kf M1) cells slots M1 q lc st) : VV l K d nL mc ms rv X (lm (mset M 45 0 v) kf) cells slots M pc lc (.long v.toInt64 :: .int 0 :: .ref (kA K 45) :: st) := by
  subst hq
  intro o M' ho H locs ls hI hS hl
  obtain ⟨sb, hsb, hP, hD⟩ := id hI
  refine va_last (cx_x hX) (cx_b hX) (cx_K hX) hP hD hS (zz_pos 45) 2 (zz_get K M sb (by decide) (ent_45 K (M 45))) rfl (show inb 0 1 by decide) (zz_at (cx_d hX) k hk) (fun H1 locs1 hP1 hD1 hS1 => ?_)
  have e : ent K 45 (upd (M 45) 0 v) = .inl (kC K 2, 1, .inr (.inl (vp_updL (fun j => (M 45 j).toInt64) (0 : Int32).toNatClampNeg v.toInt64))) := by
    rw [ent_45]
    congr 5
    funext j
    show (if j = 0 then v else M 45 j).toInt64 = if j = 0 then v.toInt64 else (M 45 j).toInt64
    split <;> rfl
  rw [zz_set K M sb (by decide) (upd (M 45) 0 v) e] at hP1 hD1
  exact kk _ rfl o M' ho H1 locs1 ls ⟨sb, by rw [mset_ne _ _ _ (by decide : (19 : Nat) ≠ 45)]; exact hsb, hP1, hD1⟩ hS1 hl
def hiD (v : UInt64) : Int32 := Int32.ofNat (v.toNat / 4294967296)
def loD (v : UInt64) : Int32 := Int32.ofNat (v.toNat % 4294967296)
theorem dbl_hl (v : UInt64) : dbl (hiD v) (loD v) = v := by
  have h1 := v.toNat_lt
  unfold dbl hiD loD
  have e : ∀ n : Nat, n < 4294967296 → (Int32.ofNat n).toBitVec.toNat = n := fun n hn => by
    show (BitVec.ofNat 32 n).toNat = n
    rw [BitVec.toNat_ofNat]
    omega
  rw [e _ (by omega), e _ (Nat.mod_lt _ (by decide)), Nat.div_add_mod' v.toNat 4294967296]
  exact UInt64.ofNat_toNat
theorem V_dald (hX : Cx l K d nL mc ms X cc own ret hh L) (k q : Nat) (hk : L[k]? = some (pc, .daload, 1)) (hq : pc + 1 = q) (kk : VV l K d nL mc ms rv X x cells slots M q lc (.double (dbl (M 46 0) (M 46 1)) :: st)) : VV l K d nL mc ms rv X x cells slots M pc lc (.int 0 :: .ref (kA K 46) :: st) := by
  subst hq
  intro o M' ho H locs ls hI hS hl
  obtain ⟨sb, hsb, hP, hD⟩ := id hI
  exact va_dald (cx_x hX) (cx_b hX) (cx_K hX) hP (zz_pos 46) 3 (zz_get K M sb (by decide) (ent_46 K (M 46))) rfl (show inb 0 1 by decide) (zz_at (cx_d hX) k hk) (kk o M' ho H locs ls hI hS hl)
def dset (M : Mm) (v : UInt64) : Mm := mrow M 46 (upd (upd (M 46) 0 (hiD v)) 1 (loD v))
theorem V_dast (hX : Cx l K d nL mc ms X cc own ret hh L) (k q : Nat) {v : UInt64} {kf : Mm → Rs α} (hk : L[k]? = some (pc, .dastore, 1)) (hq : pc + 1 = q) (kk : ∀ M1, M1 = dset M v → VV l K d nL mc ms rv X (kf M1) cells slots M1 q lc st) : VV l K d nL mc ms rv X (lm (dset M v) kf) cells slots M pc lc (.double v :: .int 0 :: .ref (kA K 46) :: st) := by
  subst hq
  intro o M' ho H locs ls hI hS hl
  obtain ⟨sb, hsb, hP, hD⟩ := id hI
  refine va_dast (cx_x hX) (cx_b hX) (cx_K hX) hP hD hS (zz_pos 46) 3 (zz_get K M sb (by decide) (ent_46 K (M 46))) rfl (show inb 0 1 by decide) (zz_at (cx_d hX) k hk) (fun H1 locs1 hP1 hD1 hS1 => ?_)
  let g : Nat → Int32 := upd (upd (M 46) 0 (hiD v)) 1 (loD v)
  have e0 : H1[kA K 46]? = some (vp_cell (kC K 3) (1, .inr (.inr (.inr (.inl (fun _ => v)))))) := by
    have h9 := hP1 (zz_pos 46) (kA K 46, _) (by rw [List.getElem?_set_self (by
      have h8 := zz_get K M sb (k := 46) (by decide) rfl
      exact (List.getElem?_eq_some_iff.mp h8).1)])
    have h8 : H1[kA K 46]? = some (vp_cell (kC K 3) (1, .inr (.inr (.inr (.inl (vf_upd (fun _ => dbl (M 46 0) (M 46 1)) (0 : Int32).toNatClampNeg v)))))) := h9
    rw [h8]
    congr 1
  have hP2 : va_P (kD K) wcl (wsx K (dset M v) sb) H1 := by
    have h7 := zz_set K M sb (k := 46) (by decide) g rfl
    have h6 : dset M v = mrow M 46 g := rfl
    rw [h6, ← h7]
    intro i z hz
    by_cases hi : zz_pos 46 = i
    · subst hi
      rw [List.getElem?_set_self (by
        have h8 := zz_get K M sb (k := 46) (by decide) rfl
        exact (List.getElem?_eq_some_iff.mp h8).1)] at hz
      cases hz
      show H1[kA K 46]? = some (vp_cell (kC K 3) (1, .inr (.inr (.inr (.inl (fun _ => dbl (g 0) (g 1)))))))
      rw [e0]
      have h5 : dbl (g 0) (g 1) = v := dbl_hl v
      rw [h5]
    · rw [List.getElem?_set_ne hi] at hz
      exact hP1 i z (by rw [List.getElem?_set_ne hi]; exact hz)
  have hD2 : va_D (kF K) (wsx K (dset M v) sb) := by
    have h7 := zz_set K M sb (k := 46) (by decide) g rfl
    have h6 : dset M v = mrow M 46 g := rfl
    rw [h6, ← h7]
    exact hD.set (zz_get K M sb (k := 46) (by decide) rfl)
  exact kk _ rfl o M' ho H1 locs1 ls ⟨sb, by rw [show dset M v 19 = M 19 from mrow_ne _ _ (by decide)]; exact hsb, hP2, hD2⟩ hS1 hl
end CORE2
