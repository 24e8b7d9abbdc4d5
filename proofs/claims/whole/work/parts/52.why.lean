/-! WHY A CHANGE IS REFUSED, AND WHAT IT DOES, kind by kind: put set cut copy turn shift smooth steps clip -/
theorem zsw : zz_sw 0 = zI 1 ∧ zz_sw 1 = zI 2 ∧ zz_sw 2 = zI 3 ∧ zz_sw 3 = zI 4 ∧ zz_sw 4 = zI 9 ∧ zz_sw 5 = zI 5 ∧ zz_sw 6 = zI 6 ∧ zz_sw 7 = zI 7 ∧ zz_sw 8 = zI 8 := ⟨rfl, rfl, rfl, rfl, rfl, rfl, rfl, rfl, rfl⟩
theorem argF (c : Int) (hc : c = 0 ∨ c = 1) (M : Mm) : fn_St_argumentFault (zI c) M = some (.inl (if c = 0 then 2 else 0), M) := by
  unfold fn_St_argumentFault
  rcases hc with rfl | rfl
  · simp (disch := omega) only [zlit, zI_add, zI_sub, zI_mul, zI_neg, zI_lt, zI_le, zI_eq, zI_cl, zI_max, zI_min, zI_abs, bnd_ok, bnd_ex, lm_eq, li_eq, grd_inb, grd_ser, grd_z, grd_lt, if_true, if_false, if_pos, if_neg]
  · simp (disch := omega) only [zlit, zI_add, zI_sub, zI_mul, zI_neg, zI_lt, zI_le, zI_eq, zI_cl, zI_max, zI_min, zI_abs, bnd_ok, bnd_ex, lm_eq, li_eq, grd_inb, grd_ser, grd_z, grd_lt, if_true, if_false, if_pos, if_neg]
theorem stF (c : Int) (hc : c = 0 ∨ c = 1) (M : Mm) : fn_St_stateFault (zI c) M = some (.inl (if c = 0 then 3 else 0), M) := by
  unfold fn_St_stateFault
  rcases hc with rfl | rfl
  · simp (disch := omega) only [zlit, zI_add, zI_sub, zI_mul, zI_neg, zI_lt, zI_le, zI_eq, zI_cl, zI_max, zI_min, zI_abs, bnd_ok, bnd_ex, lm_eq, li_eq, grd_inb, grd_ser, grd_z, grd_lt, if_true, if_false, if_pos, if_neg]
  · simp (disch := omega) only [zlit, zI_add, zI_sub, zI_mul, zI_neg, zI_lt, zI_le, zI_eq, zI_cl, zI_max, zI_min, zI_abs, bnd_ok, bnd_ex, lm_eq, li_eq, grd_inb, grd_ser, grd_z, grd_lt, if_true, if_false, if_pos, if_neg]
def riB (a : Int → Int) (n x : Int) : Bool := al (fun i => decide (-99 ≤ a i + x ∧ a i + x ≤ 99)) 0 n
def stB (a : Int → Int) (n : Int) : Bool := al (fun i => decide (-99 ≤ a i - a (i - 1) ∧ a i - a (i - 1) ≤ 99)) 1 n
def ftF (k : Nat) (p x y : Int) (N : Int → Int) (A : Int → Int → Int) : Nat :=
  if ¬ (0 ≤ p ∧ p < 4) then 1
  else if k = 0 then (if ¬ (-99 ≤ x ∧ x ≤ 99) then 2 else if N p = 20 then 3 else 0)
  else if k = 1 then (if ¬ (0 ≤ x ∧ x < N p) then 1 else if ¬ (-99 ≤ y ∧ y ≤ 99) then 2 else 0)
  else if k = 2 then (if 1 ≤ x ∧ x ≤ N p then 0 else 2)
  else if k = 3 then (if 0 ≤ x ∧ x < 4 then 0 else 1)
  else if k = 4 then 0
  else if k = 5 then (if ¬ (-99 ≤ x ∧ x ≤ 99) then 2 else if riB (A p) (N p) x = true then 0 else 3)
  else if k = 6 then (if 1 ≤ x ∧ x ≤ 9 then 0 else 2)
  else if k = 7 then (if N p = 0 then 3 else if stB (A p) (N p) = true then 0 else 3)
  else (if (-99 ≤ x ∧ x ≤ 99) ∧ (-99 ≤ y ∧ y ≤ 99) ∧ x ≤ y then 0 else 2)
def whF (k : Nat) (p x y : Int) (N : Int → Int) (A : Int → Int → Int) : Int := if k = 7 ∧ ftF k p x y N A = 3 then 2 else (ftF k p x y N A : Nat)
theorem F_c0 {N : Int → Int} {A : Int → Int → Int} {M : Mm} {p x y : Int} (hp : -2147483648 ≤ p ∧ p < 2147483648) (hx : -2147483648 ≤ x ∧ x < 2147483648) (hy : -2147483648 ≤ y ∧ y < 2147483648) (H : Cs N A M) : fn_St_faultOf 0 (zI p) (zI x) (zI y) M = some (.inl (ftF 0 p x y N A), M) := by
  unfold fn_St_faultOf ftF
  by_cases c : 0 ≤ p ∧ p < 4
  · have h := H p c.1 c.2
    have hn := h.n
    rw [grd_lt (by decide), SA_isSlot hp, if_pos c, bnd_ok, if_neg (show ¬ zI 1 = 0 by decide), St_at_z c, bnd_ok, grd_ser (by omega)]
    rw [if_pos (show zz_sw 0 = 1 by decide)]
    by_cases d1 : -99 ≤ x ∧ x ≤ 99
    · by_cases d2 : N p = 20
      · simp (disch := omega) only [zlit, zI_add, zI_sub, zI_mul, zI_neg, zI_lt, zI_le, zI_eq, zI_cl, zI_max, zI_min, zI_abs, bnd_ok, bnd_ex, lm_eq, li_eq, grd_inb, grd_ser, grd_z, grd_lt, if_true, if_false, if_pos, if_neg, SA_isSlot, SA_isValue, argF, stF, fn_St_faultOf_102, fn_St_faultOf_149, fn_St_faultOf_148, fn_St_faultOf_209, fn_St_faultOf_208, fn_St_faultOf_248, fn_St_faultOf_247, h.full, h.has, h.hasn, h.size, h.hasSteps]
      · simp (disch := omega) only [zlit, zI_add, zI_sub, zI_mul, zI_neg, zI_lt, zI_le, zI_eq, zI_cl, zI_max, zI_min, zI_abs, bnd_ok, bnd_ex, lm_eq, li_eq, grd_inb, grd_ser, grd_z, grd_lt, if_true, if_false, if_pos, if_neg, SA_isSlot, SA_isValue, argF, stF, fn_St_faultOf_102, fn_St_faultOf_149, fn_St_faultOf_148, fn_St_faultOf_209, fn_St_faultOf_208, fn_St_faultOf_248, fn_St_faultOf_247, h.full, h.has, h.hasn, h.size, h.hasSteps]
    · simp (disch := omega) only [zlit, zI_add, zI_sub, zI_mul, zI_neg, zI_lt, zI_le, zI_eq, zI_cl, zI_max, zI_min, zI_abs, bnd_ok, bnd_ex, lm_eq, li_eq, grd_inb, grd_ser, grd_z, grd_lt, if_true, if_false, if_pos, if_neg, SA_isSlot, SA_isValue, argF, stF, fn_St_faultOf_102, fn_St_faultOf_149, fn_St_faultOf_148, fn_St_faultOf_209, fn_St_faultOf_208, fn_St_faultOf_248, fn_St_faultOf_247, h.full, h.has, h.hasn, h.size, h.hasSteps]
  · rw [grd_lt (by decide), SA_isSlot hp, if_neg c, bnd_ok, if_pos (show zI 0 = 0 from rfl), if_pos c]
theorem F_m0 {N : Int → Int} {A : Int → Int → Int} {M : Mm} {p x y : Int} (hp : -2147483648 ≤ p ∧ p < 2147483648) (hx : -2147483648 ≤ x ∧ x < 2147483648) (hy : -2147483648 ≤ y ∧ y < 2147483648) (K : Ms N A M) : fn_Mo_cannotAppend (zI p) (zI x) M = some (.inl (zI (whF 0 p x y N A)), M) := by
  unfold fn_Mo_cannotAppend whF ftF
  by_cases c : 0 ≤ p ∧ p < 4
  · have h := K p c.1 c.2
    have hn := h.n
    by_cases d1 : -99 ≤ x ∧ x ≤ 99
    · by_cases d2 : N p = 20
      · simp (disch := omega) only [zlit, zI_add, zI_sub, zI_mul, zI_neg, zI_lt, zI_le, zI_eq, zI_cl, zI_max, zI_min, zI_abs, bnd_ok, bnd_ex, lm_eq, li_eq, grd_inb, grd_ser, grd_z, grd_lt, if_true, if_false, if_pos, if_neg, mo_slot, mo_value, mo_in, h.many, h.index, fn_Mo_cannotClip_30]
        rfl
      · simp (disch := omega) only [zlit, zI_add, zI_sub, zI_mul, zI_neg, zI_lt, zI_le, zI_eq, zI_cl, zI_max, zI_min, zI_abs, bnd_ok, bnd_ex, lm_eq, li_eq, grd_inb, grd_ser, grd_z, grd_lt, if_true, if_false, if_pos, if_neg, mo_slot, mo_value, mo_in, h.many, h.index, fn_Mo_cannotClip_30]
        rfl
    · simp (disch := omega) only [zlit, zI_add, zI_sub, zI_mul, zI_neg, zI_lt, zI_le, zI_eq, zI_cl, zI_max, zI_min, zI_abs, bnd_ok, bnd_ex, lm_eq, li_eq, grd_inb, grd_ser, grd_z, grd_lt, if_true, if_false, if_pos, if_neg, mo_slot, mo_value, mo_in, h.many, h.index, fn_Mo_cannotClip_30]
      rfl
  · simp (disch := omega) only [zlit, zI_add, zI_sub, zI_mul, zI_neg, zI_lt, zI_le, zI_eq, zI_cl, zI_max, zI_min, zI_abs, bnd_ok, bnd_ex, lm_eq, li_eq, grd_inb, grd_ser, grd_z, grd_lt, if_true, if_false, if_pos, if_neg, mo_slot, mo_index_no]
    rfl
theorem F_c1 {N : Int → Int} {A : Int → Int → Int} {M : Mm} {p x y : Int} (hp : -2147483648 ≤ p ∧ p < 2147483648) (hx : -2147483648 ≤ x ∧ x < 2147483648) (hy : -2147483648 ≤ y ∧ y < 2147483648) (H : Cs N A M) : fn_St_faultOf 1 (zI p) (zI x) (zI y) M = some (.inl (ftF 1 p x y N A), M) := by
  unfold fn_St_faultOf ftF
  by_cases c : 0 ≤ p ∧ p < 4
  · have h := H p c.1 c.2
    have hn := h.n
    rw [grd_lt (by decide), SA_isSlot hp, if_pos c, bnd_ok, if_neg (show ¬ zI 1 = 0 by decide), St_at_z c, bnd_ok, grd_ser (by omega)]
    rw [if_neg (show ¬ zz_sw 1 = 1 by decide), if_pos (show zz_sw 1 = 2 by decide)]
    by_cases d1 : 0 ≤ x ∧ x < N p
    · by_cases d2 : -99 ≤ y ∧ y ≤ 99
      · simp (disch := omega) only [zlit, zI_add, zI_sub, zI_mul, zI_neg, zI_lt, zI_le, zI_eq, zI_cl, zI_max, zI_min, zI_abs, bnd_ok, bnd_ex, lm_eq, li_eq, grd_inb, grd_ser, grd_z, grd_lt, if_true, if_false, if_pos, if_neg, SA_isSlot, SA_isValue, argF, stF, fn_St_faultOf_102, fn_St_faultOf_149, fn_St_faultOf_148, fn_St_faultOf_209, fn_St_faultOf_208, fn_St_faultOf_248, fn_St_faultOf_247, h.full, h.has, h.hasn, h.size, h.hasSteps]
      · simp (disch := omega) only [zlit, zI_add, zI_sub, zI_mul, zI_neg, zI_lt, zI_le, zI_eq, zI_cl, zI_max, zI_min, zI_abs, bnd_ok, bnd_ex, lm_eq, li_eq, grd_inb, grd_ser, grd_z, grd_lt, if_true, if_false, if_pos, if_neg, SA_isSlot, SA_isValue, argF, stF, fn_St_faultOf_102, fn_St_faultOf_149, fn_St_faultOf_148, fn_St_faultOf_209, fn_St_faultOf_208, fn_St_faultOf_248, fn_St_faultOf_247, h.full, h.has, h.hasn, h.size, h.hasSteps]
    · simp (disch := omega) only [zlit, zI_add, zI_sub, zI_mul, zI_neg, zI_lt, zI_le, zI_eq, zI_cl, zI_max, zI_min, zI_abs, bnd_ok, bnd_ex, lm_eq, li_eq, grd_inb, grd_ser, grd_z, grd_lt, if_true, if_false, if_pos, if_neg, SA_isSlot, SA_isValue, argF, stF, fn_St_faultOf_102, fn_St_faultOf_149, fn_St_faultOf_148, fn_St_faultOf_209, fn_St_faultOf_208, fn_St_faultOf_248, fn_St_faultOf_247, h.full, h.has, h.hasn, h.size, h.hasSteps]
  · rw [grd_lt (by decide), SA_isSlot hp, if_neg c, bnd_ok, if_pos (show zI 0 = 0 from rfl), if_pos c]
theorem F_m1 {N : Int → Int} {A : Int → Int → Int} {M : Mm} {p x y : Int} (hp : -2147483648 ≤ p ∧ p < 2147483648) (hx : -2147483648 ≤ x ∧ x < 2147483648) (hy : -2147483648 ≤ y ∧ y < 2147483648) (K : Ms N A M) : fn_Mo_cannotSet (zI p) (zI x) (zI y) M = some (.inl (zI (whF 1 p x y N A)), M) := by
  unfold fn_Mo_cannotSet whF ftF
  by_cases c : 0 ≤ p ∧ p < 4
  · have h := K p c.1 c.2
    have hn := h.n
    by_cases d1 : 0 ≤ x ∧ x < N p
    · by_cases d2 : -99 ≤ y ∧ y ≤ 99
      · simp (disch := omega) only [zlit, zI_add, zI_sub, zI_mul, zI_neg, zI_lt, zI_le, zI_eq, zI_cl, zI_max, zI_min, zI_abs, bnd_ok, bnd_ex, lm_eq, li_eq, grd_inb, grd_ser, grd_z, grd_lt, if_true, if_false, if_pos, if_neg, mo_slot, mo_value, mo_in, h.many, h.index, fn_Mo_cannotClip_30]
        rfl
      · simp (disch := omega) only [zlit, zI_add, zI_sub, zI_mul, zI_neg, zI_lt, zI_le, zI_eq, zI_cl, zI_max, zI_min, zI_abs, bnd_ok, bnd_ex, lm_eq, li_eq, grd_inb, grd_ser, grd_z, grd_lt, if_true, if_false, if_pos, if_neg, mo_slot, mo_value, mo_in, h.many, h.index, fn_Mo_cannotClip_30]
        rfl
    · simp (disch := omega) only [zlit, zI_add, zI_sub, zI_mul, zI_neg, zI_lt, zI_le, zI_eq, zI_cl, zI_max, zI_min, zI_abs, bnd_ok, bnd_ex, lm_eq, li_eq, grd_inb, grd_ser, grd_z, grd_lt, if_true, if_false, if_pos, if_neg, mo_slot, mo_value, mo_in, h.many, h.index, fn_Mo_cannotClip_30]
      rfl
  · simp (disch := omega) only [zlit, zI_add, zI_sub, zI_mul, zI_neg, zI_lt, zI_le, zI_eq, zI_cl, zI_max, zI_min, zI_abs, bnd_ok, bnd_ex, lm_eq, li_eq, grd_inb, grd_ser, grd_z, grd_lt, if_true, if_false, if_pos, if_neg, mo_slot, mo_index_no]
    rfl
theorem F_c2 {N : Int → Int} {A : Int → Int → Int} {M : Mm} {p x y : Int} (hp : -2147483648 ≤ p ∧ p < 2147483648) (hx : -2147483648 ≤ x ∧ x < 2147483648) (hy : -2147483648 ≤ y ∧ y < 2147483648) (H : Cs N A M) : fn_St_faultOf 2 (zI p) (zI x) (zI y) M = some (.inl (ftF 2 p x y N A), M) := by
  unfold fn_St_faultOf ftF
  by_cases c : 0 ≤ p ∧ p < 4
  · have h := H p c.1 c.2
    have hn := h.n
    rw [grd_lt (by decide), SA_isSlot hp, if_pos c, bnd_ok, if_neg (show ¬ zI 1 = 0 by decide), St_at_z c, bnd_ok, grd_ser (by omega)]
    rw [if_neg (show ¬ zz_sw 2 = 1 by decide), if_neg (show ¬ zz_sw 2 = 2 by decide), if_pos (show zz_sw 2 = 3 by decide)]
    by_cases d1 : 1 ≤ x ∧ x ≤ N p
    · simp (disch := omega) only [zlit, zI_add, zI_sub, zI_mul, zI_neg, zI_lt, zI_le, zI_eq, zI_cl, zI_max, zI_min, zI_abs, bnd_ok, bnd_ex, lm_eq, li_eq, grd_inb, grd_ser, grd_z, grd_lt, if_true, if_false, if_pos, if_neg, SA_isSlot, SA_isValue, argF, stF, fn_St_faultOf_102, fn_St_faultOf_149, fn_St_faultOf_148, fn_St_faultOf_209, fn_St_faultOf_208, fn_St_faultOf_248, fn_St_faultOf_247, h.full, h.has, h.hasn, h.size, h.hasSteps]
    · by_cases d2 : x < 1
      · simp (disch := omega) only [zlit, zI_add, zI_sub, zI_mul, zI_neg, zI_lt, zI_le, zI_eq, zI_cl, zI_max, zI_min, zI_abs, bnd_ok, bnd_ex, lm_eq, li_eq, grd_inb, grd_ser, grd_z, grd_lt, if_true, if_false, if_pos, if_neg, SA_isSlot, SA_isValue, argF, stF, fn_St_faultOf_102, fn_St_faultOf_149, fn_St_faultOf_148, fn_St_faultOf_209, fn_St_faultOf_208, fn_St_faultOf_248, fn_St_faultOf_247, h.full, h.has, h.hasn, h.size, h.hasSteps]
      · simp (disch := omega) only [zlit, zI_add, zI_sub, zI_mul, zI_neg, zI_lt, zI_le, zI_eq, zI_cl, zI_max, zI_min, zI_abs, bnd_ok, bnd_ex, lm_eq, li_eq, grd_inb, grd_ser, grd_z, grd_lt, if_true, if_false, if_pos, if_neg, SA_isSlot, SA_isValue, argF, stF, fn_St_faultOf_102, fn_St_faultOf_149, fn_St_faultOf_148, fn_St_faultOf_209, fn_St_faultOf_208, fn_St_faultOf_248, fn_St_faultOf_247, h.full, h.has, h.hasn, h.size, h.hasSteps]
  · rw [grd_lt (by decide), SA_isSlot hp, if_neg c, bnd_ok, if_pos (show zI 0 = 0 from rfl), if_pos c]
theorem F_m2 {N : Int → Int} {A : Int → Int → Int} {M : Mm} {p x y : Int} (hp : -2147483648 ≤ p ∧ p < 2147483648) (hx : -2147483648 ≤ x ∧ x < 2147483648) (hy : -2147483648 ≤ y ∧ y < 2147483648) (K : Ms N A M) : fn_Mo_cannotCut (zI p) (zI x) M = some (.inl (zI (whF 2 p x y N A)), M) := by
  unfold fn_Mo_cannotCut whF ftF
  by_cases c : 0 ≤ p ∧ p < 4
  · have h := K p c.1 c.2
    have hn := h.n
    by_cases d1 : 1 ≤ x ∧ x ≤ N p
    · simp (disch := omega) only [zlit, zI_add, zI_sub, zI_mul, zI_neg, zI_lt, zI_le, zI_eq, zI_cl, zI_max, zI_min, zI_abs, bnd_ok, bnd_ex, lm_eq, li_eq, grd_inb, grd_ser, grd_z, grd_lt, if_true, if_false, if_pos, if_neg, mo_slot, mo_value, mo_in, h.many, h.index, fn_Mo_cannotClip_30]
      rfl
    · by_cases d2 : x < 1
      · simp (disch := omega) only [zlit, zI_add, zI_sub, zI_mul, zI_neg, zI_lt, zI_le, zI_eq, zI_cl, zI_max, zI_min, zI_abs, bnd_ok, bnd_ex, lm_eq, li_eq, grd_inb, grd_ser, grd_z, grd_lt, if_true, if_false, if_pos, if_neg, mo_slot, mo_value, mo_in, h.many, h.index, fn_Mo_cannotClip_30]
        rfl
      · simp (disch := omega) only [zlit, zI_add, zI_sub, zI_mul, zI_neg, zI_lt, zI_le, zI_eq, zI_cl, zI_max, zI_min, zI_abs, bnd_ok, bnd_ex, lm_eq, li_eq, grd_inb, grd_ser, grd_z, grd_lt, if_true, if_false, if_pos, if_neg, mo_slot, mo_value, mo_in, h.many, h.index, fn_Mo_cannotClip_30]
        rfl
  · simp (disch := omega) only [zlit, zI_add, zI_sub, zI_mul, zI_neg, zI_lt, zI_le, zI_eq, zI_cl, zI_max, zI_min, zI_abs, bnd_ok, bnd_ex, lm_eq, li_eq, grd_inb, grd_ser, grd_z, grd_lt, if_true, if_false, if_pos, if_neg, mo_slot, mo_index_no]
    rfl
theorem F_c3 {N : Int → Int} {A : Int → Int → Int} {M : Mm} {p x y : Int} (hp : -2147483648 ≤ p ∧ p < 2147483648) (hx : -2147483648 ≤ x ∧ x < 2147483648) (hy : -2147483648 ≤ y ∧ y < 2147483648) (H : Cs N A M) : fn_St_faultOf 3 (zI p) (zI x) (zI y) M = some (.inl (ftF 3 p x y N A), M) := by
  unfold fn_St_faultOf ftF
  by_cases c : 0 ≤ p ∧ p < 4
  · have h := H p c.1 c.2
    have hn := h.n
    rw [grd_lt (by decide), SA_isSlot hp, if_pos c, bnd_ok, if_neg (show ¬ zI 1 = 0 by decide), St_at_z c, bnd_ok, grd_ser (by omega)]
    rw [if_neg (show ¬ zz_sw 3 = 1 by decide), if_neg (show ¬ zz_sw 3 = 2 by decide), if_neg (show ¬ zz_sw 3 = 3 by decide), if_pos (show zz_sw 3 = 4 by decide)]
    by_cases d1 : 0 ≤ x ∧ x < 4
    · simp (disch := omega) only [zlit, zI_add, zI_sub, zI_mul, zI_neg, zI_lt, zI_le, zI_eq, zI_cl, zI_max, zI_min, zI_abs, bnd_ok, bnd_ex, lm_eq, li_eq, grd_inb, grd_ser, grd_z, grd_lt, if_true, if_false, if_pos, if_neg, SA_isSlot, SA_isValue, argF, stF, fn_St_faultOf_102, fn_St_faultOf_149, fn_St_faultOf_148, fn_St_faultOf_209, fn_St_faultOf_208, fn_St_faultOf_248, fn_St_faultOf_247, h.full, h.has, h.hasn, h.size, h.hasSteps]
    · simp (disch := omega) only [zlit, zI_add, zI_sub, zI_mul, zI_neg, zI_lt, zI_le, zI_eq, zI_cl, zI_max, zI_min, zI_abs, bnd_ok, bnd_ex, lm_eq, li_eq, grd_inb, grd_ser, grd_z, grd_lt, if_true, if_false, if_pos, if_neg, SA_isSlot, SA_isValue, argF, stF, fn_St_faultOf_102, fn_St_faultOf_149, fn_St_faultOf_148, fn_St_faultOf_209, fn_St_faultOf_208, fn_St_faultOf_248, fn_St_faultOf_247, h.full, h.has, h.hasn, h.size, h.hasSteps]
  · rw [grd_lt (by decide), SA_isSlot hp, if_neg c, bnd_ok, if_pos (show zI 0 = 0 from rfl), if_pos c]
theorem F_c4 {N : Int → Int} {A : Int → Int → Int} {M : Mm} {p x y : Int} (hp : -2147483648 ≤ p ∧ p < 2147483648) (hx : -2147483648 ≤ x ∧ x < 2147483648) (hy : -2147483648 ≤ y ∧ y < 2147483648) (H : Cs N A M) : fn_St_faultOf 4 (zI p) (zI x) (zI y) M = some (.inl (ftF 4 p x y N A), M) := by
  unfold fn_St_faultOf ftF
  by_cases c : 0 ≤ p ∧ p < 4
  · have h := H p c.1 c.2
    have hn := h.n
    rw [grd_lt (by decide), SA_isSlot hp, if_pos c, bnd_ok, if_neg (show ¬ zI 1 = 0 by decide), St_at_z c, bnd_ok, grd_ser (by omega)]
    rw [if_neg (show ¬ zz_sw 4 = 1 by decide), if_neg (show ¬ zz_sw 4 = 2 by decide), if_neg (show ¬ zz_sw 4 = 3 by decide), if_neg (show ¬ zz_sw 4 = 4 by decide), if_neg (show ¬ zz_sw 4 = 5 by decide), if_neg (show ¬ zz_sw 4 = 6 by decide), if_neg (show ¬ zz_sw 4 = 7 by decide), if_neg (show ¬ zz_sw 4 = 8 by decide), if_pos (show zz_sw 4 = 9 by decide)]
    simp (disch := omega) only [zlit, zI_add, zI_sub, zI_mul, zI_neg, zI_lt, zI_le, zI_eq, zI_cl, zI_max, zI_min, zI_abs, bnd_ok, bnd_ex, lm_eq, li_eq, grd_inb, grd_ser, grd_z, grd_lt, if_true, if_false, if_pos, if_neg, SA_isSlot, SA_isValue, argF, stF, fn_St_faultOf_102, fn_St_faultOf_149, fn_St_faultOf_148, fn_St_faultOf_209, fn_St_faultOf_208, fn_St_faultOf_248, fn_St_faultOf_247, h.full, h.has, h.hasn, h.size, h.hasSteps]
  · rw [grd_lt (by decide), SA_isSlot hp, if_neg c, bnd_ok, if_pos (show zI 0 = 0 from rfl), if_pos c]
theorem F_c5 {N : Int → Int} {A : Int → Int → Int} {M : Mm} {p x y : Int} (hp : -2147483648 ≤ p ∧ p < 2147483648) (hx : -2147483648 ≤ x ∧ x < 2147483648) (hy : -2147483648 ≤ y ∧ y < 2147483648) (H : Cs N A M) : fn_St_faultOf 5 (zI p) (zI x) (zI y) M = some (.inl (ftF 5 p x y N A), M) := by
  unfold fn_St_faultOf ftF
  by_cases c : 0 ≤ p ∧ p < 4
  · have h := H p c.1 c.2
    have hn := h.n
    rw [grd_lt (by decide), SA_isSlot hp, if_pos c, bnd_ok, if_neg (show ¬ zI 1 = 0 by decide), St_at_z c, bnd_ok, grd_ser (by omega)]
    rw [if_neg (show ¬ zz_sw 5 = 1 by decide), if_neg (show ¬ zz_sw 5 = 2 by decide), if_neg (show ¬ zz_sw 5 = 3 by decide), if_neg (show ¬ zz_sw 5 = 4 by decide), if_pos (show zz_sw 5 = 5 by decide)]
    by_cases d1 : -99 ≤ x ∧ x ≤ 99
    · by_cases d2 : riB (A p) (N p) x = true
      · simp (disch := omega) only [zlit, zI_add, zI_sub, zI_mul, zI_neg, zI_lt, zI_le, zI_eq, zI_cl, zI_max, zI_min, zI_abs, bnd_ok, bnd_ex, lm_eq, li_eq, grd_inb, grd_ser, grd_z, grd_lt, if_true, if_false, if_pos, if_neg, SA_isSlot, SA_isValue, argF, stF, fn_St_faultOf_102, fn_St_faultOf_149, fn_St_faultOf_148, fn_St_faultOf_209, fn_St_faultOf_208, fn_St_faultOf_248, fn_St_faultOf_247, h.full, h.has, h.hasn, h.size, h.hasSteps, h.canRise, show b01 (al (fun i => decide (-99 ≤ A p i + x ∧ A p i + x ≤ 99)) 0 (N p)) = 1 from b01_t d2, if_pos d2]
      · simp (disch := omega) only [zlit, zI_add, zI_sub, zI_mul, zI_neg, zI_lt, zI_le, zI_eq, zI_cl, zI_max, zI_min, zI_abs, bnd_ok, bnd_ex, lm_eq, li_eq, grd_inb, grd_ser, grd_z, grd_lt, if_true, if_false, if_pos, if_neg, SA_isSlot, SA_isValue, argF, stF, fn_St_faultOf_102, fn_St_faultOf_149, fn_St_faultOf_148, fn_St_faultOf_209, fn_St_faultOf_208, fn_St_faultOf_248, fn_St_faultOf_247, h.full, h.has, h.hasn, h.size, h.hasSteps, h.canRise, show b01 (al (fun i => decide (-99 ≤ A p i + x ∧ A p i + x ≤ 99)) 0 (N p)) = 0 from b01_f d2, if_neg d2]
    · simp (disch := omega) only [zlit, zI_add, zI_sub, zI_mul, zI_neg, zI_lt, zI_le, zI_eq, zI_cl, zI_max, zI_min, zI_abs, bnd_ok, bnd_ex, lm_eq, li_eq, grd_inb, grd_ser, grd_z, grd_lt, if_true, if_false, if_pos, if_neg, SA_isSlot, SA_isValue, argF, stF, fn_St_faultOf_102, fn_St_faultOf_149, fn_St_faultOf_148, fn_St_faultOf_209, fn_St_faultOf_208, fn_St_faultOf_248, fn_St_faultOf_247, h.full, h.has, h.hasn, h.size, h.hasSteps]
  · rw [grd_lt (by decide), SA_isSlot hp, if_neg c, bnd_ok, if_pos (show zI 0 = 0 from rfl), if_pos c]
theorem F_m5 {N : Int → Int} {A : Int → Int → Int} {M : Mm} {p x y : Int} (hp : -2147483648 ≤ p ∧ p < 2147483648) (hx : -2147483648 ≤ x ∧ x < 2147483648) (hy : -2147483648 ≤ y ∧ y < 2147483648) (K : Ms N A M) : fn_Mo_cannotShift (zI p) (zI x) M = some (.inl (zI (whF 5 p x y N A)), M) := by
  unfold fn_Mo_cannotShift whF ftF fuel0
  by_cases c : 0 ≤ p ∧ p < 4
  · have h := K p c.1 c.2
    have hn := h.n
    by_cases d1 : -99 ≤ x ∧ x ≤ 99
    · by_cases d2 : riB (A p) (N p) x = true
      · have e5 := m_cShift_20 h (x := x) d1 2000 0 (by omega) (by omega) (by omega)
        simp (disch := omega) only [zlit, zI_add, zI_sub, zI_mul, zI_neg, zI_lt, zI_le, zI_eq, zI_cl, zI_max, zI_min, zI_abs, bnd_ok, bnd_ex, lm_eq, li_eq, grd_inb, grd_ser, grd_z, grd_lt, if_true, if_false, if_pos, if_neg, mo_slot, mo_value, mo_in, h.many, h.index, fn_Mo_cannotClip_30, e5, show (if al (fun i => decide (-99 ≤ A p i + x ∧ A p i + x ≤ 99)) 0 (N p) = true then (0 : Int) else 3) = 0 from if_pos d2, if_pos d2]
        rfl
      · have e5 := m_cShift_20 h (x := x) d1 2000 0 (by omega) (by omega) (by omega)
        simp (disch := omega) only [zlit, zI_add, zI_sub, zI_mul, zI_neg, zI_lt, zI_le, zI_eq, zI_cl, zI_max, zI_min, zI_abs, bnd_ok, bnd_ex, lm_eq, li_eq, grd_inb, grd_ser, grd_z, grd_lt, if_true, if_false, if_pos, if_neg, mo_slot, mo_value, mo_in, h.many, h.index, fn_Mo_cannotClip_30, e5, show (if al (fun i => decide (-99 ≤ A p i + x ∧ A p i + x ≤ 99)) 0 (N p) = true then (0 : Int) else 3) = 3 from if_neg d2, if_neg d2]
        rfl
    · simp (disch := omega) only [zlit, zI_add, zI_sub, zI_mul, zI_neg, zI_lt, zI_le, zI_eq, zI_cl, zI_max, zI_min, zI_abs, bnd_ok, bnd_ex, lm_eq, li_eq, grd_inb, grd_ser, grd_z, grd_lt, if_true, if_false, if_pos, if_neg, mo_slot, mo_value, mo_in, h.many, h.index, fn_Mo_cannotClip_30]
      rfl
  · simp (disch := omega) only [zlit, zI_add, zI_sub, zI_mul, zI_neg, zI_lt, zI_le, zI_eq, zI_cl, zI_max, zI_min, zI_abs, bnd_ok, bnd_ex, lm_eq, li_eq, grd_inb, grd_ser, grd_z, grd_lt, if_true, if_false, if_pos, if_neg, mo_slot, mo_index_no]
    rfl
theorem F_c6 {N : Int → Int} {A : Int → Int → Int} {M : Mm} {p x y : Int} (hp : -2147483648 ≤ p ∧ p < 2147483648) (hx : -2147483648 ≤ x ∧ x < 2147483648) (hy : -2147483648 ≤ y ∧ y < 2147483648) (H : Cs N A M) : fn_St_faultOf 6 (zI p) (zI x) (zI y) M = some (.inl (ftF 6 p x y N A), M) := by
  unfold fn_St_faultOf ftF
  by_cases c : 0 ≤ p ∧ p < 4
  · have h := H p c.1 c.2
    have hn := h.n
    rw [grd_lt (by decide), SA_isSlot hp, if_pos c, bnd_ok, if_neg (show ¬ zI 1 = 0 by decide), St_at_z c, bnd_ok, grd_ser (by omega)]
    rw [if_neg (show ¬ zz_sw 6 = 1 by decide), if_neg (show ¬ zz_sw 6 = 2 by decide), if_neg (show ¬ zz_sw 6 = 3 by decide), if_neg (show ¬ zz_sw 6 = 4 by decide), if_neg (show ¬ zz_sw 6 = 5 by decide), if_pos (show zz_sw 6 = 6 by decide)]
    by_cases d1 : 1 ≤ x ∧ x ≤ 9
    · simp (disch := omega) only [zlit, zI_add, zI_sub, zI_mul, zI_neg, zI_lt, zI_le, zI_eq, zI_cl, zI_max, zI_min, zI_abs, bnd_ok, bnd_ex, lm_eq, li_eq, grd_inb, grd_ser, grd_z, grd_lt, if_true, if_false, if_pos, if_neg, SA_isSlot, SA_isValue, argF, stF, fn_St_faultOf_102, fn_St_faultOf_149, fn_St_faultOf_148, fn_St_faultOf_209, fn_St_faultOf_208, fn_St_faultOf_248, fn_St_faultOf_247, h.full, h.has, h.hasn, h.size, h.hasSteps]
    · by_cases d2 : x < 1
      · simp (disch := omega) only [zlit, zI_add, zI_sub, zI_mul, zI_neg, zI_lt, zI_le, zI_eq, zI_cl, zI_max, zI_min, zI_abs, bnd_ok, bnd_ex, lm_eq, li_eq, grd_inb, grd_ser, grd_z, grd_lt, if_true, if_false, if_pos, if_neg, SA_isSlot, SA_isValue, argF, stF, fn_St_faultOf_102, fn_St_faultOf_149, fn_St_faultOf_148, fn_St_faultOf_209, fn_St_faultOf_208, fn_St_faultOf_248, fn_St_faultOf_247, h.full, h.has, h.hasn, h.size, h.hasSteps]
      · simp (disch := omega) only [zlit, zI_add, zI_sub, zI_mul, zI_neg, zI_lt, zI_le, zI_eq, zI_cl, zI_max, zI_min, zI_abs, bnd_ok, bnd_ex, lm_eq, li_eq, grd_inb, grd_ser, grd_z, grd_lt, if_true, if_false, if_pos, if_neg, SA_isSlot, SA_isValue, argF, stF, fn_St_faultOf_102, fn_St_faultOf_149, fn_St_faultOf_148, fn_St_faultOf_209, fn_St_faultOf_208, fn_St_faultOf_248, fn_St_faultOf_247, h.full, h.has, h.hasn, h.size, h.hasSteps]
  · rw [grd_lt (by decide), SA_isSlot hp, if_neg c, bnd_ok, if_pos (show zI 0 = 0 from rfl), if_pos c]
theorem F_m6 {N : Int → Int} {A : Int → Int → Int} {M : Mm} {p x y : Int} (hp : -2147483648 ≤ p ∧ p < 2147483648) (hx : -2147483648 ≤ x ∧ x < 2147483648) (hy : -2147483648 ≤ y ∧ y < 2147483648) (K : Ms N A M) : fn_Mo_cannotSmooth (zI p) (zI x) M = some (.inl (zI (whF 6 p x y N A)), M) := by
  unfold fn_Mo_cannotSmooth whF ftF
  by_cases c : 0 ≤ p ∧ p < 4
  · have h := K p c.1 c.2
    have hn := h.n
    by_cases d1 : 1 ≤ x ∧ x ≤ 9
    · simp (disch := omega) only [zlit, zI_add, zI_sub, zI_mul, zI_neg, zI_lt, zI_le, zI_eq, zI_cl, zI_max, zI_min, zI_abs, bnd_ok, bnd_ex, lm_eq, li_eq, grd_inb, grd_ser, grd_z, grd_lt, if_true, if_false, if_pos, if_neg, mo_slot, mo_value, mo_in, h.many, h.index, fn_Mo_cannotClip_30]
      rfl
    · by_cases d2 : x < 1
      · simp (disch := omega) only [zlit, zI_add, zI_sub, zI_mul, zI_neg, zI_lt, zI_le, zI_eq, zI_cl, zI_max, zI_min, zI_abs, bnd_ok, bnd_ex, lm_eq, li_eq, grd_inb, grd_ser, grd_z, grd_lt, if_true, if_false, if_pos, if_neg, mo_slot, mo_value, mo_in, h.many, h.index, fn_Mo_cannotClip_30]
        rfl
      · simp (disch := omega) only [zlit, zI_add, zI_sub, zI_mul, zI_neg, zI_lt, zI_le, zI_eq, zI_cl, zI_max, zI_min, zI_abs, bnd_ok, bnd_ex, lm_eq, li_eq, grd_inb, grd_ser, grd_z, grd_lt, if_true, if_false, if_pos, if_neg, mo_slot, mo_value, mo_in, h.many, h.index, fn_Mo_cannotClip_30]
        rfl
  · simp (disch := omega) only [zlit, zI_add, zI_sub, zI_mul, zI_neg, zI_lt, zI_le, zI_eq, zI_cl, zI_max, zI_min, zI_abs, bnd_ok, bnd_ex, lm_eq, li_eq, grd_inb, grd_ser, grd_z, grd_lt, if_true, if_false, if_pos, if_neg, mo_slot, mo_index_no]
    rfl
theorem F_c7 {N : Int → Int} {A : Int → Int → Int} {M : Mm} {p x y : Int} (hp : -2147483648 ≤ p ∧ p < 2147483648) (hx : -2147483648 ≤ x ∧ x < 2147483648) (hy : -2147483648 ≤ y ∧ y < 2147483648) (H : Cs N A M) : fn_St_faultOf 7 (zI p) (zI x) (zI y) M = some (.inl (ftF 7 p x y N A), M) := by
  unfold fn_St_faultOf ftF
  by_cases c : 0 ≤ p ∧ p < 4
  · have h := H p c.1 c.2
    have hn := h.n
    rw [grd_lt (by decide), SA_isSlot hp, if_pos c, bnd_ok, if_neg (show ¬ zI 1 = 0 by decide), St_at_z c, bnd_ok, grd_ser (by omega)]
    rw [if_neg (show ¬ zz_sw 7 = 1 by decide), if_neg (show ¬ zz_sw 7 = 2 by decide), if_neg (show ¬ zz_sw 7 = 3 by decide), if_neg (show ¬ zz_sw 7 = 4 by decide), if_neg (show ¬ zz_sw 7 = 5 by decide), if_neg (show ¬ zz_sw 7 = 6 by decide), if_pos (show zz_sw 7 = 7 by decide)]
    by_cases d1 : N p = 0
    · simp (disch := omega) only [zlit, zI_add, zI_sub, zI_mul, zI_neg, zI_lt, zI_le, zI_eq, zI_cl, zI_max, zI_min, zI_abs, bnd_ok, bnd_ex, lm_eq, li_eq, grd_inb, grd_ser, grd_z, grd_lt, if_true, if_false, if_pos, if_neg, SA_isSlot, SA_isValue, argF, stF, fn_St_faultOf_102, fn_St_faultOf_149, fn_St_faultOf_148, fn_St_faultOf_209, fn_St_faultOf_208, fn_St_faultOf_248, fn_St_faultOf_247, h.full, h.has, h.hasn, h.size, h.hasSteps]
    · by_cases d2 : stB (A p) (N p) = true
      · simp (disch := omega) only [zlit, zI_add, zI_sub, zI_mul, zI_neg, zI_lt, zI_le, zI_eq, zI_cl, zI_max, zI_min, zI_abs, bnd_ok, bnd_ex, lm_eq, li_eq, grd_inb, grd_ser, grd_z, grd_lt, if_true, if_false, if_pos, if_neg, SA_isSlot, SA_isValue, argF, stF, fn_St_faultOf_102, fn_St_faultOf_149, fn_St_faultOf_148, fn_St_faultOf_209, fn_St_faultOf_208, fn_St_faultOf_248, fn_St_faultOf_247, h.full, h.has, h.hasn, h.size, h.hasSteps, show b01 (al (fun i => decide (-99 ≤ A p i - A p (i - 1) ∧ A p i - A p (i - 1) ≤ 99)) 1 (N p)) = 1 from b01_t d2, if_pos d2]
      · simp (disch := omega) only [zlit, zI_add, zI_sub, zI_mul, zI_neg, zI_lt, zI_le, zI_eq, zI_cl, zI_max, zI_min, zI_abs, bnd_ok, bnd_ex, lm_eq, li_eq, grd_inb, grd_ser, grd_z, grd_lt, if_true, if_false, if_pos, if_neg, SA_isSlot, SA_isValue, argF, stF, fn_St_faultOf_102, fn_St_faultOf_149, fn_St_faultOf_148, fn_St_faultOf_209, fn_St_faultOf_208, fn_St_faultOf_248, fn_St_faultOf_247, h.full, h.has, h.hasn, h.size, h.hasSteps, show b01 (al (fun i => decide (-99 ≤ A p i - A p (i - 1) ∧ A p i - A p (i - 1) ≤ 99)) 1 (N p)) = 0 from b01_f d2, if_neg d2]
  · rw [grd_lt (by decide), SA_isSlot hp, if_neg c, bnd_ok, if_pos (show zI 0 = 0 from rfl), if_pos c]
theorem F_m7 {N : Int → Int} {A : Int → Int → Int} {M : Mm} {p x y : Int} (hp : -2147483648 ≤ p ∧ p < 2147483648) (hx : -2147483648 ≤ x ∧ x < 2147483648) (hy : -2147483648 ≤ y ∧ y < 2147483648) (K : Ms N A M) : fn_Mo_cannotStep (zI p) M = some (.inl (zI (whF 7 p x y N A)), M) := by
  unfold fn_Mo_cannotStep whF ftF fuel0
  by_cases c : 0 ≤ p ∧ p < 4
  · have h := K p c.1 c.2
    have hn := h.n
    by_cases d1 : N p = 0
    · simp (disch := omega) only [zlit, zI_add, zI_sub, zI_mul, zI_neg, zI_lt, zI_le, zI_eq, zI_cl, zI_max, zI_min, zI_abs, bnd_ok, bnd_ex, lm_eq, li_eq, grd_inb, grd_ser, grd_z, grd_lt, if_true, if_false, if_pos, if_neg, mo_slot, mo_value, mo_in, h.many, h.index, fn_Mo_cannotClip_30]
      rfl
    · by_cases d2 : stB (A p) (N p) = true
      · have e7 := m_cStep_21 h 2000 1 (by omega) (by omega) (by omega)
        simp (disch := omega) only [zlit, zI_add, zI_sub, zI_mul, zI_neg, zI_lt, zI_le, zI_eq, zI_cl, zI_max, zI_min, zI_abs, bnd_ok, bnd_ex, lm_eq, li_eq, grd_inb, grd_ser, grd_z, grd_lt, if_true, if_false, if_pos, if_neg, mo_slot, mo_value, mo_in, h.many, h.index, fn_Mo_cannotClip_30, e7, show (if al (fun i => decide (-99 ≤ A p i - A p (i - 1) ∧ A p i - A p (i - 1) ≤ 99)) 1 (N p) = true then (0 : Int) else 2) = 0 from if_pos d2, if_pos d2]
        rfl
      · have e7 := m_cStep_21 h 2000 1 (by omega) (by omega) (by omega)
        simp (disch := omega) only [zlit, zI_add, zI_sub, zI_mul, zI_neg, zI_lt, zI_le, zI_eq, zI_cl, zI_max, zI_min, zI_abs, bnd_ok, bnd_ex, lm_eq, li_eq, grd_inb, grd_ser, grd_z, grd_lt, if_true, if_false, if_pos, if_neg, mo_slot, mo_value, mo_in, h.many, h.index, fn_Mo_cannotClip_30, e7, show (if al (fun i => decide (-99 ≤ A p i - A p (i - 1) ∧ A p i - A p (i - 1) ≤ 99)) 1 (N p) = true then (0 : Int) else 2) = 2 from if_neg d2, if_neg d2]
        rfl
  · simp (disch := omega) only [zlit, zI_add, zI_sub, zI_mul, zI_neg, zI_lt, zI_le, zI_eq, zI_cl, zI_max, zI_min, zI_abs, bnd_ok, bnd_ex, lm_eq, li_eq, grd_inb, grd_ser, grd_z, grd_lt, if_true, if_false, if_pos, if_neg, mo_slot, mo_index_no]
    rfl
theorem F_c8 {N : Int → Int} {A : Int → Int → Int} {M : Mm} {p x y : Int} (hp : -2147483648 ≤ p ∧ p < 2147483648) (hx : -2147483648 ≤ x ∧ x < 2147483648) (hy : -2147483648 ≤ y ∧ y < 2147483648) (H : Cs N A M) : fn_St_faultOf 8 (zI p) (zI x) (zI y) M = some (.inl (ftF 8 p x y N A), M) := by
  unfold fn_St_faultOf ftF
  by_cases c : 0 ≤ p ∧ p < 4
  · have h := H p c.1 c.2
    have hn := h.n
    rw [grd_lt (by decide), SA_isSlot hp, if_pos c, bnd_ok, if_neg (show ¬ zI 1 = 0 by decide), St_at_z c, bnd_ok, grd_ser (by omega)]
    rw [if_neg (show ¬ zz_sw 8 = 1 by decide), if_neg (show ¬ zz_sw 8 = 2 by decide), if_neg (show ¬ zz_sw 8 = 3 by decide), if_neg (show ¬ zz_sw 8 = 4 by decide), if_neg (show ¬ zz_sw 8 = 5 by decide), if_neg (show ¬ zz_sw 8 = 6 by decide), if_neg (show ¬ zz_sw 8 = 7 by decide), if_pos (show zz_sw 8 = 8 by decide)]
    by_cases d1 : -99 ≤ x ∧ x ≤ 99
    · by_cases d2 : -99 ≤ y ∧ y ≤ 99
      · by_cases d3 : x ≤ y
        · simp (disch := omega) only [zlit, zI_add, zI_sub, zI_mul, zI_neg, zI_lt, zI_le, zI_eq, zI_cl, zI_max, zI_min, zI_abs, bnd_ok, bnd_ex, lm_eq, li_eq, grd_inb, grd_ser, grd_z, grd_lt, if_true, if_false, if_pos, if_neg, SA_isSlot, SA_isValue, argF, stF, fn_St_faultOf_102, fn_St_faultOf_149, fn_St_faultOf_148, fn_St_faultOf_209, fn_St_faultOf_208, fn_St_faultOf_248, fn_St_faultOf_247, h.full, h.has, h.hasn, h.size, h.hasSteps]
        · simp (disch := omega) only [zlit, zI_add, zI_sub, zI_mul, zI_neg, zI_lt, zI_le, zI_eq, zI_cl, zI_max, zI_min, zI_abs, bnd_ok, bnd_ex, lm_eq, li_eq, grd_inb, grd_ser, grd_z, grd_lt, if_true, if_false, if_pos, if_neg, SA_isSlot, SA_isValue, argF, stF, fn_St_faultOf_102, fn_St_faultOf_149, fn_St_faultOf_148, fn_St_faultOf_209, fn_St_faultOf_208, fn_St_faultOf_248, fn_St_faultOf_247, h.full, h.has, h.hasn, h.size, h.hasSteps]
      · simp (disch := omega) only [zlit, zI_add, zI_sub, zI_mul, zI_neg, zI_lt, zI_le, zI_eq, zI_cl, zI_max, zI_min, zI_abs, bnd_ok, bnd_ex, lm_eq, li_eq, grd_inb, grd_ser, grd_z, grd_lt, if_true, if_false, if_pos, if_neg, SA_isSlot, SA_isValue, argF, stF, fn_St_faultOf_102, fn_St_faultOf_149, fn_St_faultOf_148, fn_St_faultOf_209, fn_St_faultOf_208, fn_St_faultOf_248, fn_St_faultOf_247, h.full, h.has, h.hasn, h.size, h.hasSteps]
    · simp (disch := omega) only [zlit, zI_add, zI_sub, zI_mul, zI_neg, zI_lt, zI_le, zI_eq, zI_cl, zI_max, zI_min, zI_abs, bnd_ok, bnd_ex, lm_eq, li_eq, grd_inb, grd_ser, grd_z, grd_lt, if_true, if_false, if_pos, if_neg, SA_isSlot, SA_isValue, argF, stF, fn_St_faultOf_102, fn_St_faultOf_149, fn_St_faultOf_148, fn_St_faultOf_209, fn_St_faultOf_208, fn_St_faultOf_248, fn_St_faultOf_247, h.full, h.has, h.hasn, h.size, h.hasSteps]
  · rw [grd_lt (by decide), SA_isSlot hp, if_neg c, bnd_ok, if_pos (show zI 0 = 0 from rfl), if_pos c]
theorem F_m8 {N : Int → Int} {A : Int → Int → Int} {M : Mm} {p x y : Int} (hp : -2147483648 ≤ p ∧ p < 2147483648) (hx : -2147483648 ≤ x ∧ x < 2147483648) (hy : -2147483648 ≤ y ∧ y < 2147483648) (K : Ms N A M) : fn_Mo_cannotClip (zI p) (zI x) (zI y) M = some (.inl (zI (whF 8 p x y N A)), M) := by
  unfold fn_Mo_cannotClip whF ftF
  by_cases c : 0 ≤ p ∧ p < 4
  · have h := K p c.1 c.2
    have hn := h.n
    by_cases d1 : -99 ≤ x ∧ x ≤ 99
    · by_cases d2 : -99 ≤ y ∧ y ≤ 99
      · by_cases d3 : x ≤ y
        · simp (disch := omega) only [zlit, zI_add, zI_sub, zI_mul, zI_neg, zI_lt, zI_le, zI_eq, zI_cl, zI_max, zI_min, zI_abs, bnd_ok, bnd_ex, lm_eq, li_eq, grd_inb, grd_ser, grd_z, grd_lt, if_true, if_false, if_pos, if_neg, mo_slot, mo_value, mo_in, h.many, h.index, fn_Mo_cannotClip_30]
          rfl
        · simp (disch := omega) only [zlit, zI_add, zI_sub, zI_mul, zI_neg, zI_lt, zI_le, zI_eq, zI_cl, zI_max, zI_min, zI_abs, bnd_ok, bnd_ex, lm_eq, li_eq, grd_inb, grd_ser, grd_z, grd_lt, if_true, if_false, if_pos, if_neg, mo_slot, mo_value, mo_in, h.many, h.index, fn_Mo_cannotClip_30]
          rfl
      · simp (disch := omega) only [zlit, zI_add, zI_sub, zI_mul, zI_neg, zI_lt, zI_le, zI_eq, zI_cl, zI_max, zI_min, zI_abs, bnd_ok, bnd_ex, lm_eq, li_eq, grd_inb, grd_ser, grd_z, grd_lt, if_true, if_false, if_pos, if_neg, mo_slot, mo_value, mo_in, h.many, h.index, fn_Mo_cannotClip_30]
        rfl
    · simp (disch := omega) only [zlit, zI_add, zI_sub, zI_mul, zI_neg, zI_lt, zI_le, zI_eq, zI_cl, zI_max, zI_min, zI_abs, bnd_ok, bnd_ex, lm_eq, li_eq, grd_inb, grd_ser, grd_z, grd_lt, if_true, if_false, if_pos, if_neg, mo_slot, mo_value, mo_in, h.many, h.index, fn_Mo_cannotClip_30]
      rfl
  · simp (disch := omega) only [zlit, zI_add, zI_sub, zI_mul, zI_neg, zI_lt, zI_le, zI_eq, zI_cl, zI_max, zI_min, zI_abs, bnd_ok, bnd_ex, lm_eq, li_eq, grd_inb, grd_ser, grd_z, grd_lt, if_true, if_false, if_pos, if_neg, mo_slot, mo_index_no]
    rfl
