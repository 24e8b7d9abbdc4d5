/-! THE LINE: writing letters and numbers, series as a text, runs as a text -/
def updI (lc : Int → Int) (k c : Int) : Int → Int := fun i => if i = k then c else lc i
def apL : List Int → Int → (Int → Int) → (Int → Int)
  | [], _, lc => lc
  | c :: t, ln, lc => apL t (ln + 1) (updI lc ln c)
abbrev LN : Type := Int × (Int → Int)
def pushT (t : List Int) (z : LN) : LN := (z.1 + (t.length : Int), apL t z.1 z.2)
def dg2 (a : Int) : List Int := if 10 ≤ a then [48 + a / 10, 48 + (a - a / 10 * 10)] else [48 + (a - a / 10 * 10)]
def digI (v : Int) : List Int := (if v < 0 then [45] else []) ++ dg2 (if 0 ≤ v then v else -v)
def sepT (z : LN) : LN := if z.1 ≤ 0 then z else pushT [32] z
theorem dig_b : ((List.range 199).all fun k => decide (digs (zI ((k : Int) - 99)) = (digI ((k : Int) - 99)).map zI) && ((digI ((k : Int) - 99)).all fun c => decide (0 ≤ c ∧ c < 128)) && decide (1 ≤ (digI ((k : Int) - 99)).length ∧ (digI ((k : Int) - 99)).length ≤ 3 ∧ ((k : Int) - 99 < 0 ∨ (digI ((k : Int) - 99)).length ≤ 2))) = true := by decide +kernel
theorem dig_z {v : Int} (hv : -99 ≤ v ∧ v ≤ 99) : digs (zI v) = (digI v).map zI ∧ (∀ c ∈ digI v, 0 ≤ c ∧ c < 128) ∧ 1 ≤ (digI v).length ∧ (digI v).length ≤ 3 ∧ (v < 0 ∨ (digI v).length ≤ 2) := by
  have h := List.all_eq_true.mp dig_b (v + 99).toNat (List.mem_range.mpr (by omega))
  rw [show (((v + 99).toNat : Nat) : Int) - 99 = v by omega, Bool.and_eq_true, Bool.and_eq_true] at h
  obtain ⟨⟨h1, h2⟩, h3⟩ := h
  exact ⟨of_decide_eq_true h1, fun c hc => of_decide_eq_true (List.all_eq_true.mp h2 c hc), of_decide_eq_true h3⟩
theorem d10_b : ∀ n : Fin 100, zI (n.val : Int) / 10 = zI ((n.val : Int) / 10) := by decide +kernel
theorem d10 {a : Int} (h : 0 ≤ a ∧ a ≤ 99) : zI a / 10 = zI (a / 10) := by
  have h2 : ((a.toNat : Nat) : Int) = a := Int.toNat_of_nonneg h.1
  have h3 := d10_b ⟨a.toNat, by omega⟩
  simp only [h2] at h3
  exact h3
/-! the class's line -/
theorem ICl.push {ln c : Int} {lc : Int → Int} {M : Mm} (h : ICl ln lc M) (hc : 0 ≤ c ∧ c < 128) (hl : ln + 1 ≤ 139) : ICl (ln + 1) (updI lc ln c) (sbpush M (zI c)) := by
  obtain ⟨h1, h2, h3, h4⟩ := h
  have e : (M 19 0).toNatClampNeg = ln.toNat := by rw [h2]; exact zI_cl (by omega) (by omega)
  have er : sbpush M (zI c) 19 = upd (upd (M 19) (1 + ln.toNat) (zI c)) 0 (nI (ln.toNat + 1)) := by
    unfold sbpush
    rw [e, mrow_eq]
  refine ⟨by omega, ?_, fun i i0 i1 => ?_, fun i => ?_⟩
  · rw [er, upd_eq, zI_nI]
    exact congrArg zI (by omega)
  · rw [er, upd_ne _ _ (by omega)]
    unfold updI
    by_cases k : i = ln
    · rw [if_pos k, k, upd_eq]
    · rw [if_neg k, upd_ne _ _ (by omega)]
      exact h3 i i0 (by omega)
  · unfold updI
    by_cases k : i = ln
    · rw [if_pos k]; exact hc
    · rw [if_neg k]; exact h4 i
theorem ICl.app : ∀ (t : List Int) {ln : Int} {lc : Int → Int} {M : Mm}, ICl ln lc M → (∀ c ∈ t, 0 ≤ c ∧ c < 128) → ln + (t.length : Int) ≤ 139 → ICl (ln + (t.length : Int)) (apL t ln lc) (sbapp M (t.map zI))
  | [], ln, lc, M, h, _, _ => by
    have e : ln + (([] : List Int).length : Int) = ln := Int.add_zero ln
    rw [e]
    exact h
  | c :: t, ln, lc, M, h, hc, hl => by
    rw [List.length_cons] at hl
    have h1 := h.push (hc c List.mem_cons_self) (by omega)
    have h2 := ICl.app t h1 (fun x hx => hc x (List.mem_cons_of_mem _ hx)) (by omega)
    rw [show ln + ((c :: t).length : Int) = ln + 1 + (t.length : Int) by rw [List.length_cons]; omega]
    exact h2
theorem sbapp_oth : ∀ (t : List Int32) (M : Mm) {j : Nat}, j ≠ 19 → sbapp M t j = M j
  | [], M, j, h => rfl
  | c :: t, M, j, h => (sbapp_oth t (sbpush M c) h).trans (mrow_ne M _ h)
def Of19 (M M1 : Mm) : Prop := ∀ j, j ≠ 19 → M1 j = M j
theorem Of19.tr {A B C : Mm} (h : Of19 A B) (k : Of19 B C) : Of19 A C := fun j hj => (k j hj).trans (h j hj)
theorem c_num {v : Int} {z : LN} {M : Mm} (h : ICl z.1 z.2 M) (hv : -99 ≤ v ∧ v ≤ 99) (hl : z.1 + ((digI v).length : Int) ≤ 139) : ∃ M1, fn_SB_appendI (zI v) M = some (.inl (), M1) ∧ ICl (pushT (digI v) z).1 (pushT (digI v) z).2 M1 ∧ Of19 M M1 := by
  obtain ⟨d1, d2, d3, d4, d5⟩ := dig_z hv
  have h1 := h.1
  have e : (M 19 0).toNatClampNeg = z.1.toNat := by rw [h.2.1]; exact zI_cl (by omega) (by omega)
  refine ⟨sbapp M ((digI v).map zI), ?_, h.app (digI v) d2 hl, fun j hj => sbapp_oth _ M hj⟩
  unfold fn_SB_appendI
  rw [grd_t (by rw [show (-100 : Int32) = zI (-100) from rfl, show (100 : Int32) = zI 100 from rfl, zI_lt (by omega) (by omega), zI_lt (by omega) (by omega)]; omega), e, grd_t (by omega), d1]
theorem c_chr {c : Int} {z : LN} {M : Mm} (h : ICl z.1 z.2 M) (hc : 0 ≤ c ∧ c < 128) (hl : z.1 + 1 ≤ 139) : ∃ M1, fn_SB_appendC (zI c) M = some (.inl (), M1) ∧ ICl (pushT [c] z).1 (pushT [c] z).2 M1 ∧ Of19 M M1 := by
  have h1 := h.1
  have e : (M 19 0).toNatClampNeg = z.1.toNat := by rw [h.2.1]; exact zI_cl (by omega) (by omega)
  refine ⟨sbpush M (zI c), ?_, h.push hc hl, fun j hj => mrow_ne M _ hj⟩
  unfold fn_SB_appendC
  rw [grd_t (by rw [show (0 : Int32) = zI 0 from rfl, show (128 : Int32) = zI 128 from rfl, zI_le (by omega) (by omega), zI_lt (by omega) (by omega)]; omega), e, grd_t (by omega)]
theorem pushT1 (t : List Int) (z : LN) : (pushT t z).1 = z.1 + (t.length : Int) := rfl
theorem pushC1 (c : Int) (z : LN) : (pushT [c] z).1 = z.1 + 1 := rfl
theorem sepT1 {z : LN} (h : 0 ≤ z.1) : (sepT z).1 = z.1 + (if z.1 = 0 then 0 else 1) := by
  unfold sepT
  by_cases c : z.1 ≤ 0
  · rw [if_pos c, if_pos (by omega)]; omega
  · rw [if_neg c, if_neg (by omega)]; rfl
theorem c_sep {v : Int} {z : LN} {M : Mm} (h : ICl z.1 z.2 M) (hv : -99 ≤ v ∧ v ≤ 99) (hl : z.1 + 4 ≤ 139) : ∃ M1, fn_SA_writeSeparated (zI v) M = some (.inl (), M1) ∧ ICl (pushT (digI v) (sepT z)).1 (pushT (digI v) (sepT z)).2 M1 ∧ Of19 M M1 := by
  obtain ⟨d1, d2, d3, d4, d5⟩ := dig_z hv
  have h1 := h.1
  unfold fn_SA_writeSeparated fn_SB_length fn_SA_writeSeparated_20
  rw [bnd_ok, h.2.1]
  unfold sepT
  by_cases c : z.1 ≤ 0
  · obtain ⟨M1, e1, e2, e3⟩ := c_num h hv (by omega)
    rw [if_pos c, if_pos (by rw [show (0 : Int32) = zI 0 from rfl, zI_le (by omega) (by omega)]; exact c), e1, bnd_ok]
    exact ⟨M1, rfl, e2, e3⟩
  · obtain ⟨M1, e1, e2, e3⟩ := c_chr (c := 32) h (by omega) (by omega)
    obtain ⟨M2, f1, f2, f3⟩ := c_num (z := pushT [32] z) e2 hv (by rw [pushC1]; omega)
    rw [if_neg c, if_neg (by rw [show (0 : Int32) = zI 0 from rfl, zI_le (by omega) (by omega)]; exact c), show (32 : Int32) = zI 32 from rfl, e1, bnd_ok, f1, bnd_ok]
    exact ⟨M2, rfl, f2, e3.tr f3⟩
/-! the model's line -/
def WrL (M M1 : Mm) : Prop := (∀ i, i ≠ 12 → M1 32 i = M 32 i) ∧ ∀ j, j ≠ 32 → j ≠ 39 → M1 j = M j
theorem WrL.rf (M : Mm) : WrL M M := ⟨fun _ _ => rfl, fun _ _ _ => rfl⟩
theorem WrL.tr {A B C : Mm} (h : WrL A B) (k : WrL B C) : WrL A C := ⟨fun i hi => (k.1 i hi).trans (h.1 i hi), fun j j1 j2 => (k.2 j j1 j2).trans (h.2 j j1 j2)⟩
theorem IMl.write {c : Int} {z : LN} {M : Mm} (h : IMl z.1 z.2 M) (h0 : 0 ≤ z.1 ∧ z.1 < 140) : ∃ M1, fn_Mo_write (zI c) M = some (.inl (), M1) ∧ IMl (pushT [c] z).1 (pushT [c] z).2 M1 ∧ WrL M M1 := by
  obtain ⟨h1, h2⟩ := h
  refine ⟨mset (mset M 39 z.1.toNat (zI c)) 32 12 (zI (z.1 + 1)), ?_, ⟨mset_at _ _ _ _, fun i i0 i1 => ?_⟩, fun i hi => ?_, fun j j1 j2 => ?_⟩
  · have q : mset M 39 z.1.toNat (zI c) 32 12 = zI z.1 := by rw [mset_ne _ _ _ (by decide)]; exact h1
    unfold fn_Mo_write
    rw [h1, grd_inb (by omega) (by omega) (by omega), zI_cl (by omega) (by omega), lm_eq, q, lm_eq, show (1 : Int32) = zI 1 from rfl, zI_add]
  · rw [mset_ne _ _ _ (by decide)]
    show _ = zI (updI z.2 z.1 c i)
    have i1' : i < z.1 + 1 := i1
    unfold updI
    by_cases k : i = z.1
    · rw [if_pos k, k, mset_at]
    · rw [if_neg k, mset_oth _ _ _ _ (by omega)]
      exact h2 i i0 (by omega)
  · rw [mset_oth _ _ _ _ hi, mset_ne _ _ _ (by decide)]
  · rw [mset_ne _ _ _ j1, mset_ne _ _ _ j2]
theorem m_num33 {v a : Int} {z : LN} {M : Mm} (ha : a = if 0 ≤ v then v else -v) (hv : -99 ≤ v ∧ v ≤ 99) (hb : 0 ≤ a ∧ a ≤ 99) (h : IMl z.1 z.2 M) (h0 : 0 ≤ z.1 ∧ z.1 < 140) : ∃ M1, fn_Mo_writeNumber_33 (zI v) M = some (.inl (), M1) ∧ IMl (pushT [48 + (a - a / 10 * 10)] z).1 (pushT [48 + (a - a / 10 * 10)] z).2 M1 ∧ WrL M M1 := by
  obtain ⟨M1, e1, e2, e3⟩ := h.write (c := 48 + (a - a / 10 * 10)) h0
  refine ⟨M1, ?_, e2, e3⟩
  unfold fn_Mo_writeNumber_33
  rw [mo_size (by omega), ← ha, bnd_ok, d10 hb, show (48 : Int32) = zI 48 from rfl, show (10 : Int32) = zI 10 from rfl, zI_mul, zI_sub, zI_add, e1, bnd_ok]
theorem m_num10 {v a : Int} {z : LN} {M : Mm} (ha : a = if 0 ≤ v then v else -v) (hv : -99 ≤ v ∧ v ≤ 99) (hb : 0 ≤ a ∧ a ≤ 99) (h : IMl z.1 z.2 M) (h0 : 0 ≤ z.1 ∧ z.1 + ((dg2 a).length : Int) ≤ 140) : ∃ M1, fn_Mo_writeNumber_10 (zI v) M = some (.inl (), M1) ∧ IMl (pushT (dg2 a) z).1 (pushT (dg2 a) z).2 M1 ∧ WrL M M1 := by
  unfold fn_Mo_writeNumber_10
  rw [mo_size (by omega), ← ha, bnd_ok]
  unfold dg2 at h0 ⊢
  by_cases c : 10 ≤ a
  · rw [if_pos c] at h0 ⊢
    have h0' : z.1 + 2 ≤ 140 := h0.2
    obtain ⟨M1, e1, e2, e3⟩ := h.write (c := 48 + a / 10) (by omega)
    obtain ⟨M2, f1, f2, f3⟩ := m_num33 (z := pushT [48 + a / 10] z) ha hv hb e2 (by rw [pushC1]; omega)
    refine ⟨M2, ?_, ?_, e3.tr f3⟩
    · rw [if_neg (by rw [show (9 : Int32) = zI 9 from rfl, zI_le (by omega) (by omega)]; omega), mo_size (by omega), ← ha, bnd_ok, d10 hb, show (48 : Int32) = zI 48 from rfl, zI_add, e1, bnd_ok, f1]
    · have e : (pushT [48 + a / 10, 48 + (a - a / 10 * 10)] z) = pushT [48 + (a - a / 10 * 10)] (pushT [48 + a / 10] z) := Prod.ext (by show z.1 + 2 = z.1 + 1 + 1; omega) rfl
      rw [e]
      exact f2
  · rw [if_neg c] at h0 ⊢
    have h0' : z.1 + 1 ≤ 140 := h0.2
    obtain ⟨M2, f1, f2, f3⟩ := m_num33 ha hv hb h (by omega)
    refine ⟨M2, ?_, f2, f3⟩
    rw [if_pos (by rw [show (9 : Int32) = zI 9 from rfl, zI_le (by omega) (by omega)]; omega), f1]
theorem m_num {v : Int} {z : LN} {M : Mm} (h : IMl z.1 z.2 M) (hv : -99 ≤ v ∧ v ≤ 99) (h0 : 0 ≤ z.1 ∧ z.1 + ((digI v).length : Int) ≤ 140) : ∃ M1, fn_Mo_writeNumber (zI v) M = some (.inl (), M1) ∧ IMl (pushT (digI v) z).1 (pushT (digI v) z).2 M1 ∧ WrL M M1 := by
  unfold fn_Mo_writeNumber
  by_cases c : 0 ≤ v
  · have hd : digI v = dg2 v := by
      unfold digI
      rw [if_neg (by omega), if_pos c]
      rfl
    rw [hd] at h0 ⊢
    obtain ⟨M1, e1, e2, e3⟩ := m_num10 (a := v) (by rw [if_pos c]) hv (by omega) h h0
    rw [if_pos (by rw [show (0 : Int32) = zI 0 from rfl, zI_le (by omega) (by omega)]; exact c)]
    exact ⟨M1, e1, e2, e3⟩
  · have hd : digI v = 45 :: dg2 (-v) := by
      unfold digI
      rw [if_pos (by omega), if_neg c]
      rfl
    rw [hd] at h0 ⊢
    have h0' := h0.2
    rw [List.length_cons] at h0'
    obtain ⟨M1, e1, e2, e3⟩ := h.write (c := 45) (by omega)
    obtain ⟨M2, f1, f2, f3⟩ := m_num10 (a := -v) (z := pushT [45] z) (by rw [if_neg c]) hv (by omega) e2 (by rw [pushC1]; omega)
    rw [if_neg (by rw [show (0 : Int32) = zI 0 from rfl, zI_le (by omega) (by omega)]; exact c), show (45 : Int32) = zI 45 from rfl, e1, bnd_ok]
    refine ⟨M2, f1, ?_, e3.tr f3⟩
    have e : pushT (45 :: dg2 (-v)) z = pushT (dg2 (-v)) (pushT [45] z) := Prod.ext (by rw [pushT1, pushT1, pushC1, List.length_cons]; omega) rfl
    rw [e]
    exact f2
