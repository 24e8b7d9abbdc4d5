/-! HISTORY: the class's ring against the model's list -/
abbrev SNP : Type := (Int → Int) × (Int → Int → Int) × Int
def CRw (M : Mm) (k : Nat) (b : Int) (S : SNP) : Prop := CRow M k b S.1 S.2.1 S.2.2
def MRw (M : Mm) (k : Nat) (b : Int) (S : SNP) : Prop := MRow M k b S.1 S.2.1 S.2.2
def SnS (S : SNP) : Prop := SnB S.1 S.2.1
def rgF (nx d e : Int) : Int := if nx - d + e < 0 then nx - d + e + 8 else nx - d + e
def nxF (nx : Int) : Int := if 8 ≤ nx + 1 then 0 else nx + 1
def phF {β : Type} (d : Int) (H : Int → β) (x : β) : Int → β := fun e => if d < 8 then (if e = d then x else H e) else (if e = 7 then x else H (e + 1))
theorem rg_b {nx d e : Int} (hd : 0 ≤ d ∧ d ≤ 8) (hn : 0 ≤ nx ∧ nx < 8) (he : 0 ≤ e ∧ e < d) : 0 ≤ rgF nx d e ∧ rgF nx d e < 8 := by
  unfold rgF
  by_cases c : nx - d + e < 0
  · rw [if_pos c]; omega
  · rw [if_neg c]; omega
theorem rg_1 {nx d e : Int} (hd : 0 ≤ d ∧ d < 8) (hn : 0 ≤ nx ∧ nx < 8) (he : 0 ≤ e ∧ e < d) : rgF (nxF nx) (d + 1) e = rgF nx d e ∧ rgF nx d e ≠ nx := by
  unfold rgF nxF
  by_cases c : 8 ≤ nx + 1
  · rw [if_pos c]
    by_cases c2 : nx - d + e < 0
    · rw [if_pos c2, if_pos (by omega)]; omega
    · rw [if_neg c2, if_pos (by omega)]; omega
  · rw [if_neg c]
    by_cases c2 : nx - d + e < 0
    · rw [if_pos c2, if_pos (by omega)]; omega
    · rw [if_neg c2, if_neg (by omega)]; omega
theorem rg_2 {nx d : Int} (hd : 0 ≤ d ∧ d < 8) (hn : 0 ≤ nx ∧ nx < 8) : rgF (nxF nx) (d + 1) d = nx := by
  unfold rgF nxF
  by_cases c : 8 ≤ nx + 1
  · rw [if_pos c, if_pos (by omega)]; omega
  · rw [if_neg c, if_neg (by omega)]; omega
theorem rg_3 {nx e : Int} (hn : 0 ≤ nx ∧ nx < 8) (he : 0 ≤ e ∧ e < 7) : rgF (nxF nx) 8 e = rgF nx 8 (e + 1) ∧ rgF nx 8 (e + 1) ≠ nx := by
  unfold rgF nxF
  by_cases c : 8 ≤ nx + 1
  · rw [if_pos c]
    by_cases c2 : nx - 8 + (e + 1) < 0
    · rw [if_pos c2, if_pos (by omega)]; omega
    · rw [if_neg c2, if_pos (by omega)]; omega
  · rw [if_neg c]
    by_cases c2 : nx - 8 + (e + 1) < 0
    · rw [if_pos c2, if_pos (by omega)]; omega
    · rw [if_neg c2, if_neg (by omega)]; omega
theorem rg_4 {nx : Int} (hn : 0 ≤ nx ∧ nx < 8) : rgF (nxF nx) 8 7 = nx := by
  unfold rgF nxF
  by_cases c : 8 ≤ nx + 1
  · rw [if_pos c, if_pos (by omega)]; omega
  · rw [if_neg c, if_neg (by omega)]; omega
theorem nx_b {nx : Int} (hn : 0 ≤ nx ∧ nx < 8) : 0 ≤ nxF nx ∧ nxF nx < 8 := by
  unfold nxF
  by_cases c : 8 ≤ nx + 1
  · rw [if_pos c]; omega
  · rw [if_neg c]; omega
/-- the class's history: d states, the next goes to row nx -/
def ICh (d nx : Int) (H : Int → SNP) (M : Mm) : Prop := (0 ≤ d ∧ d ≤ 8) ∧ (0 ≤ nx ∧ nx < 8) ∧ M 12 2 = zI d ∧ M 12 1 = zI nx ∧ ∀ e, 0 ≤ e → e < d → CRw M 13 (85 * rgF nx d e) (H e) ∧ SnS (H e)
def IMh (d : Int) (H : Int → SNP) (M : Mm) : Prop := M 32 7 = zI d ∧ ∀ e, 0 ≤ e → e < d → MRw M 36 (85 * e) (H e)
theorem ICh.to {d nx : Int} {H : Int → SNP} {M M' : Mm} (h : ICh d nx H M) (h1 : M' 12 = M 12) (h2 : M' 13 = M 13) : ICh d nx H M' := by
  obtain ⟨a, b, c, e, f⟩ := h
  refine ⟨a, b, by rw [h1]; exact c, by rw [h1]; exact e, fun q q0 q1 => ⟨?_, (f q q0 q1).2⟩⟩
  have hb := rg_b a b ⟨q0, q1⟩
  exact (f q q0 q1).1.to (f q q0 q1).2 (by omega) (fun i _ _ => by rw [h2])
/-- one state more -/
theorem ICh.push {d nx : Int} {H : Int → SNP} {M M' : Mm} {S : SNP} (h : ICh d nx H M) (hS : SnS S) (h1 : M' 12 2 = zI (min (d + 1) 8)) (h2 : M' 12 1 = zI (nxF nx)) (h3 : CRw M' 13 (85 * nx) S) (h4 : ∀ j : Nat, (j : Int) < 85 * nx ∨ 85 * nx + 85 ≤ j → M' 13 j = M 13 j) : ICh (min (d + 1) 8) (nxF nx) (phF d H S) M' := by
  obtain ⟨a, b, c, e, f⟩ := h
  refine ⟨by omega, nx_b b, h1, h2, fun q q0 q1 => ?_⟩
  by_cases c8 : d < 8
  · rw [show min (d + 1) 8 = d + 1 by omega] at q1 ⊢
    by_cases cq : q = d
    · have ev : phF d H S q = S := by unfold phF; rw [if_pos c8, if_pos cq]
      rw [ev, cq, rg_2 ⟨a.1, c8⟩ b]
      exact ⟨h3, hS⟩
    · have ev : phF d H S q = H q := by unfold phF; rw [if_pos c8, if_neg cq]
      have r := rg_1 (e := q) ⟨a.1, c8⟩ b ⟨q0, by omega⟩
      have hb := rg_b (e := q) a b ⟨q0, by omega⟩
      have ff := f q q0 (by omega)
      rw [ev, r.1]
      exact ⟨ff.1.to ff.2 (by omega) (fun i i0 i1 => h4 i (by omega)), ff.2⟩
  · have e8 : d = 8 := by omega
    subst e8
    rw [show min (8 + 1 : Int) 8 = 8 by omega] at q1 ⊢
    by_cases cq : q = 7
    · have ev : phF 8 H S q = S := by unfold phF; rw [if_neg (by omega), if_pos cq]
      rw [ev, cq, rg_4 b]
      exact ⟨h3, hS⟩
    · have ev : phF 8 H S q = H (q + 1) := by unfold phF; rw [if_neg (by omega), if_neg cq]
      have r := rg_3 (e := q) b ⟨q0, by omega⟩
      have hb := rg_b (e := q + 1) a b ⟨by omega, by omega⟩
      have ff := f (q + 1) (by omega) (by omega)
      rw [ev, r.1]
      exact ⟨ff.1.to ff.2 (by omega) (fun i i0 i1 => h4 i (by omega)), ff.2⟩
theorem c_goOn {d nx : Int} {M : Mm} (hd : 0 ≤ d ∧ d ≤ 8) (hn : 0 ≤ nx ∧ nx < 8) (h1 : M 12 2 = zI d) (h2 : M 12 1 = zI nx) : ∃ M1, fn_Hi_goOn M = some (.inl (), M1) ∧ M1 12 2 = zI (min (d + 1) 8) ∧ M1 12 1 = zI (nxF nx) ∧ ∀ j, j ≠ 12 → M1 j = M j := by
  refine ⟨mset (mset M 12 1 (zI (nxF nx))) 12 2 (zI (min (d + 1) 8)), ?_, mset_at _ _ _ _, by rw [mset_oth _ _ _ _ (by decide), mset_at], fun j hj => by rw [mset_ne _ _ _ hj, mset_ne _ _ _ hj]⟩
  have e := fun x => mset_oth M 12 1 x (show 2 ≠ 1 by decide)
  unfold fn_Hi_goOn nxF
  by_cases c : 8 ≤ nx + 1
  · simp (disch := omega) only [zlit, zI_add, zI_sub, zI_mul, zI_neg, zI_lt, zI_le, zI_eq, zI_cl, zI_max, zI_min, zI_abs, bnd_ok, bnd_ex, lm_eq, li_eq, grd_inb, grd_ser, grd_z, grd_lt, if_true, if_false, if_pos, if_neg, h2, fn_Hi_goOn_22, e, h1]
  · simp (disch := omega) only [zlit, zI_add, zI_sub, zI_mul, zI_neg, zI_lt, zI_le, zI_eq, zI_cl, zI_max, zI_min, zI_abs, bnd_ok, bnd_ex, lm_eq, li_eq, grd_inb, grd_ser, grd_z, grd_lt, if_true, if_false, if_pos, if_neg, h2, fn_Hi_goOn_22, e, h1]
theorem c_keep {d nx ap : Int} {H : Int → SNP} {M : Mm} {N : Int → Int} {A : Int → Int → Int} (h : ICh d nx H M) (hs : Cs N A M) (hap : M 1 5 = zI ap) : ∃ M1, fn_Hi_keep M = some (.inl (), M1) ∧ ICh (min (d + 1) 8) (nxF nx) (phF d H (N, A, ap)) M1 ∧ ∀ j, j ≠ 12 → j ≠ 13 → M1 j = M j := by
  obtain ⟨a, b, c, e, f⟩ := id h
  obtain ⟨M1, e1, e2, e3, e4⟩ := hs.store hap (k9 := 13) (L := 680) (b := 85 * nx) (by decide) (by decide) (by decide) (by omega)
  obtain ⟨M2, f1, f2, f3, f4⟩ := c_goOn (M := M1) a b (by rw [e3 12 (by decide)]; exact c) (by rw [e3 12 (by decide)]; exact e)
  refine ⟨M2, ?_, h.push hs.sn f2 f3 (CRow.to e2 hs.sn (by omega) (fun i _ _ => by rw [f4 13 (by decide)])) (fun j hj => by rw [f4 13 (by decide), e4 j hj]), fun j j1 j2 => by rw [f4 j j1, e3 j j2]⟩
  unfold fn_Hi_keep
  have ec : nx * 85 = 85 * nx := by omega
  simp (disch := omega) only [zlit, zI_add, zI_sub, zI_mul, zI_neg, zI_lt, zI_le, zI_eq, zI_cl, zI_max, zI_min, zI_abs, bnd_ok, bnd_ex, lm_eq, li_eq, grd_inb, grd_ser, grd_z, grd_lt, if_true, if_false, if_pos, if_neg, e, ec, e1, f1]
theorem c_keepRow_2 {nx : Int} {M0 : Mm} (hn : 0 ≤ nx ∧ nx < 8) : ∀ (k : Nat) (i : Int) (M : Mm), M 12 1 = zI nx → (∀ x, 0 ≤ x → x < i → M 13 (85 * nx + x).toNat = M0 15 (0 + x).toNat) → (∀ j : Nat, (j : Int) < 85 * nx ∨ 85 * nx + 85 ≤ j → M 13 j = M0 13 j) → (∀ j, j ≠ 13 → M j = M0 j) → 0 ≤ i → i ≤ 85 → 85 - i < k → ∃ M1, fn_Hi_keepRow_2 15 k (zI i) M = fn_Hi_keepRow_35 M1 ∧ (∀ x, 0 ≤ x → x < 85 → M1 13 (85 * nx + x).toNat = M0 15 (0 + x).toNat) ∧ (∀ j : Nat, (j : Int) < 85 * nx ∨ 85 * nx + 85 ≤ j → M1 13 j = M0 13 j) ∧ ∀ j, j ≠ 13 → M1 j = M0 j := by
  intro k
  induction k with
  | zero => intros; omega
  | succ k ih =>
    intro i M hx he hf hg i0 i1 i2
    rw [fn_Hi_keepRow_2]
    by_cases c : 85 ≤ i
    · refine ⟨M, ?_, fun x x0 x1 => he x x0 (by omega), hf, hg⟩
      simp (disch := omega) only [zlit, zI_add, zI_sub, zI_mul, zI_neg, zI_lt, zI_le, zI_eq, zI_cl, zI_max, zI_min, zI_abs, bnd_ok, bnd_ex, lm_eq, li_eq, grd_inb, grd_ser, grd_z, grd_lt, if_true, if_false, if_pos, if_neg]
    · have er := rd (k := 15) (L := 85) (by decide) (by decide) (i := i) (by omega) M
      have ew := wr (k := 13) (L := 680) (by decide) (by decide) (i := nx * 85 + i) (by omega) (M 15 i.toNat) M
      obtain ⟨M1, e1, e2⟩ := ih (i + 1) (mset M 13 (nx * 85 + i).toNat (M 15 i.toNat)) (by rw [mset_ne _ _ _ (by decide)]; exact hx) (fun x x0 x1 => by
        by_cases e : x = i
        · rw [e, show 85 * nx + i = nx * 85 + i by omega, mset_at, hg 15 (by decide), Int.zero_add]
        · rw [mset_oth _ _ _ _ (by omega)]
          exact he x x0 (by omega)) (fun j hj => by rw [mset_oth _ _ _ _ (by omega)]; exact hf j hj) (fun j hj => by rw [mset_ne _ _ _ hj]; exact hg j hj) (by omega) (by omega) (by omega)
      refine ⟨M1, ?_, e2⟩
      simp (disch := omega) only [zlit, zI_add, zI_sub, zI_mul, zI_neg, zI_lt, zI_le, zI_eq, zI_cl, zI_max, zI_min, zI_abs, bnd_ok, bnd_ex, lm_eq, li_eq, grd_inb, grd_ser, grd_z, grd_lt, if_true, if_false, if_pos, if_neg, hx, er, ew, e1]
theorem c_keepRow {d nx : Int} {H : Int → SNP} {M : Mm} {S : SNP} (h : ICh d nx H M) (hS : SnS S) (hr : CRw M 15 0 S) : ∃ M1, fn_Hi_keepRow 15 M = some (.inl (), M1) ∧ ICh (min (d + 1) 8) (nxF nx) (phF d H S) M1 ∧ ∀ j, j ≠ 12 → j ≠ 13 → M1 j = M j := by
  obtain ⟨a, b, c, e, f⟩ := id h
  obtain ⟨M1, e1, e2, e3, e4⟩ := c_keepRow_2 (M0 := M) b 2000 0 M e (fun x x0 x1 => by omega) (fun _ _ => rfl) (fun _ _ => rfl) (by omega) (by omega) (by omega)
  obtain ⟨M2, f1, f2, f3, f4⟩ := c_goOn (M := M1) a b (by rw [e4 12 (by decide)]; exact c) (by rw [e4 12 (by decide)]; exact e)
  have hr1 : CRw M1 13 (85 * nx) S := CRow.copy hr hS e2
  refine ⟨M2, ?_, h.push hS f2 f3 (CRow.to hr1 hS (by omega) (fun i _ _ => by rw [f4 13 (by decide)])) (fun j hj => by rw [f4 13 (by decide), e3 j hj]), fun j j1 j2 => by rw [f4 j j1, e4 j j2]⟩
  unfold fn_Hi_keepRow fuel0
  rw [grd_t (show isIA 15 by decide)]
  simp (disch := omega) only [zlit, zI_add, zI_sub, zI_mul, zI_neg, zI_lt, zI_le, zI_eq, zI_cl, zI_max, zI_min, zI_abs, bnd_ok, bnd_ex, lm_eq, li_eq, grd_inb, grd_ser, grd_z, grd_lt, if_true, if_false, if_pos, if_neg, e1, fn_Hi_keepRow_35, f1]
theorem rg_5 {nx d : Int} (hn : 0 ≤ nx ∧ nx < 8) (hd : 1 ≤ d ∧ d ≤ 8) : rgF nx d (d - 1) = if nx ≤ 0 then 7 else nx - 1 := by
  unfold rgF
  by_cases c : nx ≤ 0
  · rw [if_pos c, if_pos (by omega)]; omega
  · rw [if_neg c, if_neg (by omega)]; omega
theorem rg_6 {nx d e : Int} (hn : 0 ≤ nx ∧ nx < 8) (hd : 1 ≤ d ∧ d ≤ 8) (he : 0 ≤ e ∧ e < d - 1) : rgF (if nx ≤ 0 then 7 else nx - 1) (d - 1) e = rgF nx d e := by
  unfold rgF
  by_cases c : nx ≤ 0
  · rw [if_pos c]
    by_cases c2 : nx - d + e < 0
    · rw [if_pos c2, if_neg (by omega)]; omega
    · omega
  · rw [if_neg c]
    by_cases c2 : nx - d + e < 0
    · rw [if_pos c2, if_pos (by omega)]; omega
    · rw [if_neg c2, if_neg (by omega)]; omega
theorem c_takeBack {d nx : Int} {H : Int → SNP} {M : Mm} (h : ICh d nx H M) (hd : 1 ≤ d) : ∃ M1, fn_Hi_takeBack M = some (.inl (), M1) ∧ Cs (H (d - 1)).1 (H (d - 1)).2.1 M1 ∧ M1 1 5 = zI (H (d - 1)).2.2 ∧ ICh (d - 1) (if nx ≤ 0 then 7 else nx - 1) H M1 ∧ ∀ j, j = 0 ∨ 14 ≤ j → M1 j = M j := by
  obtain ⟨a, b, c, e, f⟩ := id h
  have f9 := f (d - 1) (by omega) (by omega)
  rw [rg_5 b ⟨hd, a.2⟩] at f9
  have hy : 0 ≤ (if nx ≤ 0 then 7 else nx - 1) ∧ (if nx ≤ 0 then (7 : Int) else nx - 1) < 8 := by
    by_cases c9 : nx ≤ 0
    · rw [if_pos c9]; omega
    · rw [if_neg c9]; omega
  have r6 := fun e => rg_6 (nx := nx) (d := d) (e := e) b ⟨hd, a.2⟩
  have key : ∀ y, y = (if nx ≤ 0 then 7 else nx - 1) → ∃ M1, fn_Hi_takeBack_19 (zI y) M = some (.inl (), M1) ∧ Cs (H (d - 1)).1 (H (d - 1)).2.1 M1 ∧ M1 1 5 = zI (H (d - 1)).2.2 ∧ ICh (d - 1) y H M1 ∧ ∀ j, j = 0 ∨ 14 ≤ j → M1 j = M j := by
    intro y hy2
    rw [← hy2] at f9 hy r6
    let M0 := mset (mset M 12 1 (zI y)) 12 2 (zI (d - 1))
    have g13 : M0 13 = M 13 := by show mset (mset M 12 1 _) 12 2 _ 13 = _; rw [mset_ne _ _ _ (by decide), mset_ne _ _ _ (by decide)]
    have hr : CRow M0 13 (85 * y) (H (d - 1)).1 (H (d - 1)).2.1 (H (d - 1)).2.2 := CRow.to f9.1 f9.2 (by omega) (fun i _ _ => by rw [g13])
    obtain ⟨M1, e1, e2, e3, e4⟩ := hr.load (L := 680) f9.2 (by decide) (by decide) (by decide) (by omega)
    have m2 : M0 12 2 = zI (d - 1) := mset_at _ _ _ _
    have m1 : M0 12 1 = zI y := by show mset (mset M 12 1 _) 12 2 _ 12 1 = _; rw [mset_oth _ _ _ _ (by decide), mset_at]
    refine ⟨M1, ?_, e2, e3, ⟨by omega, hy, by rw [e4 12 (by omega)]; exact m2, by rw [e4 12 (by omega)]; exact m1, fun q q0 q1 => ?_⟩, fun j hj => by rw [e4 j (by omega)]; show mset (mset M 12 1 _) 12 2 _ j = _; rw [mset_ne _ _ _ (by omega), mset_ne _ _ _ (by omega)]⟩
    · have m0 : mset M 12 1 (zI y) 12 2 = zI d := by rw [mset_oth _ _ _ _ (by decide)]; exact c
      have m9 : mset (mset M 12 1 (zI y)) 12 2 (zI (d - 1)) 12 1 = zI y := m1
      have e9 : fn_St_load 13 (zI (85 * y)) (mset (mset M 12 1 (zI y)) 12 2 (zI (d - 1))) = some (.inl (), M1) := e1
      unfold fn_Hi_takeBack_19
      have ec : y * 85 = 85 * y := by omega
      simp (disch := omega) only [zlit, zI_add, zI_sub, zI_mul, zI_neg, zI_lt, zI_le, zI_eq, zI_cl, zI_max, zI_min, zI_abs, bnd_ok, bnd_ex, lm_eq, li_eq, grd_inb, grd_ser, grd_z, grd_lt, if_true, if_false, if_pos, if_neg, m0, m9, ec, e9]
    · have hb := rg_b (e := q) a b ⟨q0, by omega⟩
      have ff := f q q0 (by omega)
      rw [r6 q ⟨q0, by omega⟩]
      exact ⟨CRow.to ff.1 ff.2 (by omega) (fun i _ _ => by rw [e4 13 (by omega), g13]), ff.2⟩
  unfold fn_Hi_takeBack
  by_cases c9 : nx ≤ 0
  · have k9 := key 7 (by rw [if_pos c9])
    rw [if_pos c9]
    simp (disch := omega) only [zlit, zI_add, zI_sub, zI_mul, zI_neg, zI_lt, zI_le, zI_eq, zI_cl, zI_max, zI_min, zI_abs, bnd_ok, bnd_ex, lm_eq, li_eq, grd_inb, grd_ser, grd_z, grd_lt, if_true, if_false, if_pos, if_neg, e]
    exact k9
  · have k9 := key (nx - 1) (by rw [if_neg c9])
    rw [if_neg c9]
    simp (disch := omega) only [zlit, zI_add, zI_sub, zI_mul, zI_neg, zI_lt, zI_le, zI_eq, zI_cl, zI_max, zI_min, zI_abs, bnd_ok, bnd_ex, lm_eq, li_eq, grd_inb, grd_ser, grd_z, grd_lt, if_true, if_false, if_pos, if_neg, e]
    exact k9
/-! the model's list -/
theorem m_shiftH_11 {r : Int32} {H : Int → SNP} (hs : ∀ e, 0 ≤ e → e < 8 → SnS (H e)) : ∀ (k : Nat) (i : Int) (M : Mm), (∀ e, 0 ≤ e → e < i - 1 → MRw M 36 (85 * e) (H (e + 1))) → (∀ e, i ≤ e → e < 8 → MRw M 36 (85 * e) (H e)) → 1 ≤ i → i ≤ 8 → 8 - i < k → ∃ M1, fn_Mo_commit_11 r k (zI i) M = fn_Mo_commit_44 r M1 ∧ (∀ e, 0 ≤ e → e < 7 → MRw M1 36 (85 * e) (H (e + 1))) ∧ ∀ j, j ≠ 36 → M1 j = M j := by
  intro k
  induction k with
  | zero => intros; omega
  | succ k ih =>
    intro i M h1 h2 i0 i1 i2
    rw [fn_Mo_commit_11]
    by_cases c : 8 ≤ i
    · refine ⟨M, ?_, fun e e0 e1 => h1 e e0 (by omega), fun _ _ => rfl⟩
      simp (disch := omega) only [zlit, zI_add, zI_sub, zI_mul, zI_neg, zI_lt, zI_le, zI_eq, zI_cl, zI_max, zI_min, zI_abs, bnd_ok, bnd_ex, lm_eq, li_eq, grd_inb, grd_ser, grd_z, grd_lt, if_true, if_false, if_pos, if_neg]
    · obtain ⟨M1, e1, e2, e3, e4⟩ := m_copy M (k1 := 36) (k2 := 36) (L1 := 680) (L2 := 680) (b1 := 85 * i) (b2 := 85 * (i - 1)) (by decide) (by decide) (by omega) (by omega) (by omega)
      obtain ⟨M2, f1, f2, f3⟩ := ih (i + 1) M1 (fun e e0 e9 => by
        by_cases ce : e = i - 1
        · rw [ce, Int.sub_add_cancel]
          exact MRow.copy (h2 i (by omega) (by omega)) (hs i (by omega) (by omega)) e2
        · exact MRow.to (h1 e e0 (by omega)) (hs (e + 1) (by omega) (by omega)) (by omega) (fun j j0 j1 => e3 j (by omega))) (fun e e0 e9 => MRow.to (h2 e (by omega) e9) (hs e (by omega) e9) (by omega) (fun j j0 j1 => e3 j (by omega))) (by omega) (by omega) (by omega)
      refine ⟨M2, ?_, f2, fun j hj => by rw [f3 j hj, e4 j hj]⟩
      simp (disch := omega) only [zlit, zI_add, zI_sub, zI_mul, zI_neg, zI_lt, zI_le, zI_eq, zI_cl, zI_max, zI_min, zI_abs, bnd_ok, bnd_ex, lm_eq, li_eq, grd_inb, grd_ser, grd_z, grd_lt, if_true, if_false, if_pos, if_neg, e1, f1]
theorem m_commit {d : Int} {H : Int → SNP} {M : Mm} {S : SNP} (hd : 0 ≤ d ∧ d ≤ 8) (h : IMh d H M) (hs : ∀ e, 0 ≤ e → e < d → SnS (H e)) (hS : SnS S) (hb : MRw M 34 0 S) (r : Int32) : ∃ M1, fn_Mo_commit r M = some (.inl r, M1) ∧ IMh (min (d + 1) 8) (phF d H S) M1 ∧ (∀ i, i ≠ 7 → M1 32 i = M 32 i) ∧ ∀ j, j ≠ 32 → j ≠ 36 → M1 j = M j := by
  -- the row laid behind d0 others
  have key : ∀ (d0 : Int) (G : Int → SNP) (M0 : Mm), 0 ≤ d0 → d0 ≤ 7 → M0 32 7 = zI d0 → (∀ e, 0 ≤ e → e < d0 → MRw M0 36 (85 * e) (G e) ∧ SnS (G e)) → MRw M0 34 0 S → ∃ M1, fn_Mo_commit_54 r M0 = some (.inl r, M1) ∧ M1 32 7 = zI (d0 + 1) ∧ (∀ e, 0 ≤ e → e < d0 → MRw M1 36 (85 * e) (G e)) ∧ MRw M1 36 (85 * d0) S ∧ (∀ i, i ≠ 7 → M1 32 i = M0 32 i) ∧ ∀ j, j ≠ 32 → j ≠ 36 → M1 j = M0 j := by
    intro d0 G M0 p0 p1 p2 p3 p4
    obtain ⟨M1, e1, e2, e3, e4⟩ := m_copy M0 (k1 := 34) (k2 := 36) (L1 := 85) (L2 := 680) (b1 := 0) (b2 := 85 * d0) (by decide) (by decide) (by omega) (by omega) (by omega)
    have q7 : M1 32 7 = zI d0 := by rw [e4 32 (by decide)]; exact p2
    have g36 : mset M1 32 7 (zI (d0 + 1)) 36 = M1 36 := mset_ne _ _ _ (by decide)
    refine ⟨mset M1 32 7 (zI (d0 + 1)), ?_, mset_at _ _ _ _, fun e e0 e9 => ?_, ?_, fun i hi => by rw [mset_oth _ _ _ _ hi, e4 32 (by decide)], fun j j1 j2 => by rw [mset_ne _ _ _ j1, e4 j j2]⟩
    · unfold fn_Mo_commit_54
      simp (disch := omega) only [zlit, zI_add, zI_sub, zI_mul, zI_neg, zI_lt, zI_le, zI_eq, zI_cl, zI_max, zI_min, zI_abs, bnd_ok, bnd_ex, lm_eq, li_eq, grd_inb, grd_ser, grd_z, grd_lt, if_true, if_false, if_pos, if_neg, p2, e1, q7]
    · exact MRow.to (p3 e e0 e9).1 (p3 e e0 e9).2 (by omega) (fun i i0 i1 => by rw [g36]; exact e3 i (by omega))
    · exact MRow.copy p4 hS (fun i i0 i1 => by rw [g36]; exact e2 i i0 i1)
  unfold fn_Mo_commit fuel0
  by_cases c : d = 8
  · subst c
    obtain ⟨M1, e1, e2, e3⟩ := m_shiftH_11 (r := r) hs 2000 1 M (fun e e0 e9 => by omega) (fun e e0 e9 => h.2 e (by omega) e9) (by omega) (by omega) (by omega)
    have g7 : M1 32 7 = zI 8 := by rw [e3 32 (by decide)]; exact h.1
    have g36 : mset M1 32 7 (zI 7) 36 = M1 36 := mset_ne _ _ _ (by decide)
    obtain ⟨M2, f1, f2, f3, f4, f5, f6⟩ := key 7 (fun e => H (e + 1)) (mset M1 32 7 (zI 7)) (by omega) (by omega) (mset_at _ _ _ _) (fun e e0 e9 => ⟨MRow.to (e2 e e0 e9) (hs (e + 1) (by omega) (by omega)) (by omega) (fun i _ _ => by rw [g36]), hs (e + 1) (by omega) (by omega)⟩) (MRow.to hb hS (by omega) (fun i _ _ => by rw [mset_ne _ _ _ (by decide), e3 34 (by decide)]))
    refine ⟨M2, ?_, ⟨f2, fun e e0 e9 => ?_⟩, fun i hi => by rw [f5 i hi, mset_oth _ _ _ _ hi, e3 32 (by decide)], fun j j1 j2 => by rw [f6 j j1 j2, mset_ne _ _ _ j1, e3 j j2]⟩
    · simp (disch := omega) only [zlit, zI_add, zI_sub, zI_mul, zI_neg, zI_lt, zI_le, zI_eq, zI_cl, zI_max, zI_min, zI_abs, bnd_ok, bnd_ex, lm_eq, li_eq, grd_inb, grd_ser, grd_z, grd_lt, if_true, if_false, if_pos, if_neg, h.1, e1, fn_Mo_commit_44, g7]
      exact f1
    · by_cases ce : e = 7
      · have ev : phF 8 H S e = S := by unfold phF; rw [if_neg (by omega), if_pos ce]
        rw [ev, ce]
        exact f4
      · have ev : phF 8 H S e = H (e + 1) := by unfold phF; rw [if_neg (by omega), if_neg ce]
        rw [ev]
        exact f3 e e0 (by omega)
  · obtain ⟨M2, f1, f2, f3, f4, f5, f6⟩ := key d H M hd.1 (by omega) h.1 (fun e e0 e9 => ⟨h.2 e e0 e9, hs e e0 e9⟩) hb
    refine ⟨M2, ?_, ⟨by rw [show min (d + 1) 8 = d + 1 by omega]; exact f2, fun e e0 e9 => ?_⟩, f5, f6⟩
    · simp (disch := omega) only [zlit, zI_add, zI_sub, zI_mul, zI_neg, zI_lt, zI_le, zI_eq, zI_cl, zI_max, zI_min, zI_abs, bnd_ok, bnd_ex, lm_eq, li_eq, grd_inb, grd_ser, grd_z, grd_lt, if_true, if_false, if_pos, if_neg, h.1]
      exact f1
    · by_cases ce : e = d
      · have ev : phF d H S e = S := by unfold phF; rw [if_pos (by omega), if_pos ce]
        rw [ev, ce]
        exact f4
      · have ev : phF d H S e = H e := by unfold phF; rw [if_pos (by omega), if_neg ce]
        rw [ev]
        exact f3 e e0 (by omega)
