/-! COMPARISONS, TOTALS, THE CHECK OF BOTH WAYS -/
def prP (a b : Int → Int) (n : Int) : Bool := al (fun i => decide (a i - b i = a 0 - b 0)) 1 n
theorem c_along_15 {M : Mm} {v w : Nat} {n : Int} {a b : Int → Int} (h : Ser M v n a) (h' : Ser M w n b) : ∀ (k : Nat) (i : Int), 0 ≤ i → i ≤ max n 1 → max n 1 - i < k → fn_Se_runsAlong_15 v w k (zI i) M = some (.inl (zI (b01 (al (fun i => decide (a i - b i = a 0 - b 0)) i n))), M) := by
  have hv := h.v
  have hn := h.n
  have hw := h'.v
  have b3 := h.b 0
  have b4 := h'.b 0
  intro k
  induction k with
  | zero => intros; omega
  | succ k ih =>
    intro i h0 h1 h2
    have b1 := h.b i
    have b2 := h'.b i
    rw [fn_Se_runsAlong_15]
    by_cases c : n ≤ i
    · simp (disch := omega) only [zlit, zI_add, zI_sub, zI_mul, zI_neg, zI_lt, zI_le, zI_eq, zI_cl, zI_max, zI_min, zI_abs, bnd_ok, bnd_ex, lm_eq, li_eq, grd_inb, grd_ser, grd_z, grd_lt, if_true, if_false, if_pos, if_neg, h.c, al_stop, b01_true]
    · by_cases c2 : a i - b i = a 0 - b 0
      · rw [ad_go (q := fun i => a i - b i = a 0 - b 0) (i := i) (by omega) c2]
        simp (disch := omega) only [zlit, zI_add, zI_sub, zI_mul, zI_neg, zI_lt, zI_le, zI_eq, zI_cl, zI_max, zI_min, zI_abs, bnd_ok, bnd_ex, lm_eq, li_eq, grd_inb, grd_ser, grd_z, grd_lt, if_true, if_false, if_pos, if_neg, h.c, h.at, h'.at]
        exact ih (i + 1) (by omega) (by omega) (by omega)
      · rw [ad_no (q := fun i => a i - b i = a 0 - b 0) (i := i) (by omega) c2]
        simp (disch := omega) only [zlit, zI_add, zI_sub, zI_mul, zI_neg, zI_lt, zI_le, zI_eq, zI_cl, zI_max, zI_min, zI_abs, bnd_ok, bnd_ex, lm_eq, li_eq, grd_inb, grd_ser, grd_z, grd_lt, if_true, if_false, if_pos, if_neg, h.c, h.at, h'.at, b01_false]
theorem Ser.along {M : Mm} {v w : Nat} {n m : Int} {a b : Int → Int} (h : Ser M v n a) (h' : Ser M w m b) : fn_Se_runsAlong v w M = some (.inl (zI (if n = m then b01 (prP a b n) else 0)), M) := by
  have hv := h.v
  have hn := h.n
  have hw := h'.v
  have hm := h'.n
  unfold fn_Se_runsAlong fuel0
  by_cases c : n = m
  · subst c
    have e := c_along_15 h h' 2000 1 (by omega) (by omega) (by omega)
    simp (disch := omega) only [zlit, zI_add, zI_sub, zI_mul, zI_neg, zI_lt, zI_le, zI_eq, zI_cl, zI_max, zI_min, zI_abs, bnd_ok, bnd_ex, lm_eq, li_eq, grd_inb, grd_ser, grd_z, grd_lt, if_true, if_false, if_pos, if_neg, h.c, h'.c, e]
    rfl
  · simp (disch := omega) only [zlit, zI_add, zI_sub, zI_mul, zI_neg, zI_lt, zI_le, zI_eq, zI_cl, zI_max, zI_min, zI_abs, bnd_ok, bnd_ex, lm_eq, li_eq, grd_inb, grd_ser, grd_z, grd_lt, if_true, if_false, if_pos, if_neg, h.c, h'.c]
/-- the model: all differences are y -/
theorem m_along_18 {M : Mm} {v w n y : Int} {a b : Int → Int} (h : Mse M v n a) (h' : Mse M w n b) (hy : -2147483648 ≤ y ∧ y < 2147483648) : ∀ (k : Nat) (i : Int), 0 ≤ i → i ≤ n → n - i < k → fn_Mo_areParallelBy_18 (zI v) (zI w) (zI y) k (zI i) M = some (.inl (zI (b01 (al (fun i => decide (a i - b i = y)) i n))), M) := by
  have hv := h.s
  have hn := h.n
  have hw := h'.s
  intro k
  induction k with
  | zero => intros; omega
  | succ k ih =>
    intro i h0 h1 h2
    have b1 := h.b i
    have b2 := h'.b i
    rw [fn_Mo_areParallelBy_18]
    by_cases c : n ≤ i
    · simp (disch := omega) only [zlit, zI_add, zI_sub, zI_mul, zI_neg, zI_lt, zI_le, zI_eq, zI_cl, zI_max, zI_min, zI_abs, bnd_ok, bnd_ex, lm_eq, li_eq, grd_inb, grd_ser, grd_z, grd_lt, if_true, if_false, if_pos, if_neg, h.many, al_stop, b01_true]
    · by_cases c2 : a i - b i = y
      · rw [ad_go (q := fun i => a i - b i = y) (i := i) (by omega) c2]
        simp (disch := omega) only [zlit, zI_add, zI_sub, zI_mul, zI_neg, zI_lt, zI_le, zI_eq, zI_cl, zI_max, zI_min, zI_abs, bnd_ok, bnd_ex, lm_eq, li_eq, grd_inb, grd_ser, grd_z, grd_lt, if_true, if_false, if_pos, if_neg, h.many, h.at, h'.at]
        exact ih (i + 1) (by omega) (by omega) (by omega)
      · rw [ad_no (q := fun i => a i - b i = y) (i := i) (by omega) c2]
        simp (disch := omega) only [zlit, zI_add, zI_sub, zI_mul, zI_neg, zI_lt, zI_le, zI_eq, zI_cl, zI_max, zI_min, zI_abs, bnd_ok, bnd_ex, lm_eq, li_eq, grd_inb, grd_ser, grd_z, grd_lt, if_true, if_false, if_pos, if_neg, h.many, h.at, h'.at, b01_false]
theorem m_along {M : Mm} {v w n m y : Int} {a b : Int → Int} (h : Mse M v n a) (h' : Mse M w m b) (hy : -2147483648 ≤ y ∧ y < 2147483648) : fn_Mo_areParallelBy (zI v) (zI w) (zI y) M = some (.inl (zI (if n = m then b01 (al (fun i => decide (a i - b i = y)) 0 n) else 0)), M) := by
  have hn := h.n
  have hm := h'.n
  unfold fn_Mo_areParallelBy fuel0
  by_cases c : n = m
  · subst c
    have e := m_along_18 h h' hy 2000 0 (by omega) (by omega) (by omega)
    simp (disch := omega) only [zlit, zI_add, zI_sub, zI_mul, zI_neg, zI_lt, zI_le, zI_eq, zI_cl, zI_max, zI_min, zI_abs, bnd_ok, bnd_ex, lm_eq, li_eq, grd_inb, grd_ser, grd_z, grd_lt, if_true, if_false, if_pos, if_neg, h.many, h'.many, e]
  · simp (disch := omega) only [zlit, zI_add, zI_sub, zI_mul, zI_neg, zI_lt, zI_le, zI_eq, zI_cl, zI_max, zI_min, zI_abs, bnd_ok, bnd_ex, lm_eq, li_eq, grd_inb, grd_ser, grd_z, grd_lt, if_true, if_false, if_pos, if_neg, h.many, h'.many]
theorem b01_eq {p q : Bool} (h : p = true ↔ q = true) : b01 p = b01 q := by
  cases p <;> cases q <;> simp_all
theorem Q_areParallel {p q : Int} (hp : -2147483648 ≤ p ∧ p < 2147483648) (hq : -2147483648 ≤ q ∧ q < 2147483648) : AgR (fn_SA_areParallel (zI p) (zI q)) [(0, 1)] (fn_Mo_areParallel (zI p) (zI q)) := by
  intro M N A H K
  by_cases c : 0 ≤ p ∧ p < 4
  · by_cases c2 : 0 ≤ q ∧ q < 4
    · have h := H p c.1 c.2
      have h' := H q c2.1 c2.2
      have hn := h.n
      have hm := h'.n
      have hz : (if N p = N q then b01 (prP (A p) (A q) (N p)) else 0) = 0 ∨ (if N p = N q then b01 (prP (A p) (A q) (N p)) else 0) = 1 := by
        have := b01_b (prP (A p) (A q) (N p))
        by_cases c3 : N p = N q
        · rw [if_pos c3]; exact this
        · rw [if_neg c3]; exact .inl rfl
      refine .inl ⟨zI (if N p = N q then b01 (prP (A p) (A q) (N p)) else 0), CR.of ?_, MR.of (fun M' K' => ?_)⟩
      · unfold fn_SA_areParallel
        simp (disch := omega) only [zlit, zI_add, zI_sub, zI_mul, zI_neg, zI_lt, zI_le, zI_eq, zI_cl, zI_max, zI_min, zI_abs, bnd_ok, bnd_ex, lm_eq, li_eq, grd_inb, grd_ser, grd_z, grd_lt, if_true, if_false, if_pos, if_neg, SA_in, h.along h']
      · have k := (K' p c.1 c.2).set (k := 32) (by decide) 6 (zI 0)
        have k' := (K' q c2.1 c2.2).set (k := 32) (by decide) 6 (zI 0)
        have e1 := mo_at_raw (M := mset M' 32 6 (zI 0)) (s := p) (i := 0) c (by omega)
        have e2 := mo_at_raw (M := mset M' 32 6 (zI 0)) (s := q) (i := 0) c2 (by omega)
        obtain ⟨y, ey, hy⟩ := zI_ex (mset M' 32 6 (zI 0) 33 (21 * p + 1 + 0).toNat - mset M' 32 6 (zI 0) 33 (21 * q + 1 + 0).toNat)
        have e3 := m_along k k' (y := y) hy
        have e4 : (if N p = N q then b01 (al (fun i => decide (A p i - A q i = y)) 0 (N p)) else 0) = (if N p = N q then b01 (prP (A p) (A q) (N p)) else 0) := by
          by_cases c3 : N p = N q
          · rw [if_pos c3, if_pos c3]
            by_cases c4 : N p = 0
            · unfold prP
              rw [al_stop (by omega), al_stop (by omega)]
            · have ep := k.e 0 (by omega) (by omega)
              have eq := k'.e 0 (by omega) (by omega)
              have b1 := h.b 0
              have b2 := h'.b 0
              rw [ep, eq, zI_sub, zI_eq (by omega) hy] at ey
              rw [← ey]
              refine b01_eq ?_
              unfold prP
              rw [al_iff, al_iff]
              refine ⟨fun hh x x1 x2 => hh x (by omega) x2, fun hh x x1 x2 => ?_⟩
              by_cases c5 : x = 0
              · rw [c5]; exact decide_eq_true rfl
              · exact hh x (by omega) x2
          · rw [if_neg c3, if_neg c3]
        rw [e4] at e3
        unfold fn_Mo_areParallel
        rcases hz with hz | hz
        · rw [hz] at e3 ⊢
          simp (disch := omega) only [zlit, zI_add, zI_sub, zI_mul, zI_neg, zI_lt, zI_le, zI_eq, zI_cl, zI_max, zI_min, zI_abs, bnd_ok, bnd_ex, lm_eq, li_eq, grd_inb, grd_ser, grd_z, grd_lt, if_true, if_false, if_pos, if_neg, mo_slot, fn_Mo_areParallel_20, mo_checked, Int.sub_self, e1, e2, ey, e3]
        · rw [hz] at e3 ⊢
          simp (disch := omega) only [zlit, zI_add, zI_sub, zI_mul, zI_neg, zI_lt, zI_le, zI_eq, zI_cl, zI_max, zI_min, zI_abs, bnd_ok, bnd_ex, lm_eq, li_eq, grd_inb, grd_ser, grd_z, grd_lt, if_true, if_false, if_pos, if_neg, mo_slot, fn_Mo_areParallel_20, mo_checked, Int.sub_self, e1, e2, ey, e3]
    · refine .inr ⟨0, 0, 1, CR.of ?_, rfl, by decide, MR.of (fun M' K' => ?_)⟩
      · unfold fn_SA_areParallel
        simp (disch := omega) only [zlit, zI_add, zI_sub, zI_mul, zI_neg, zI_lt, zI_le, zI_eq, zI_cl, zI_max, zI_min, zI_abs, bnd_ok, bnd_ex, lm_eq, li_eq, grd_inb, grd_ser, grd_z, grd_lt, if_true, if_false, if_pos, if_neg, SA_in, SA_in_no]
      · unfold fn_Mo_areParallel
        simp (disch := omega) only [zlit, zI_add, zI_sub, zI_mul, zI_neg, zI_lt, zI_le, zI_eq, zI_cl, zI_max, zI_min, zI_abs, bnd_ok, bnd_ex, lm_eq, li_eq, grd_inb, grd_ser, grd_z, grd_lt, if_true, if_false, if_pos, if_neg, mo_slot, fn_Mo_areParallel_19, fn_Mo_areParallel_20, mo_checked, Int.sub_zero]
  · refine .inr ⟨0, 0, 1, CR.of ?_, rfl, by decide, MR.of (fun M' K' => ?_)⟩
    · unfold fn_SA_areParallel
      simp (disch := omega) only [zlit, zI_add, zI_sub, zI_mul, zI_neg, zI_lt, zI_le, zI_eq, zI_cl, zI_max, zI_min, zI_abs, bnd_ok, bnd_ex, lm_eq, li_eq, grd_inb, grd_ser, grd_z, grd_lt, if_true, if_false, if_pos, if_neg, SA_in_no]
    · unfold fn_Mo_areParallel
      simp (disch := omega) only [zlit, zI_add, zI_sub, zI_mul, zI_neg, zI_lt, zI_le, zI_eq, zI_cl, zI_max, zI_min, zI_abs, bnd_ok, bnd_ex, lm_eq, li_eq, grd_inb, grd_ser, grd_z, grd_lt, if_true, if_false, if_pos, if_neg, mo_slot, fn_Mo_areParallel_19, fn_Mo_areParallel_20, mo_checked, Int.sub_zero]
def eqB (a b : Int → Int) (n : Int) : Bool := al (fun i => decide (a i - b i = 0)) 0 n
theorem Ser.same {M : Mm} {v w : Nat} {n m : Int} {a b : Int → Int} (h : Ser M v n a) (h' : Ser M w m b) : fn_Se_isSameAs v w M = some (.inl (zI (if n = m then b01 (eqB a b n) else 0)), M) := by
  have hv := h.v
  have hn := h.n
  have hw := h'.v
  have hm := h'.n
  have b1 := h.b 0
  have b2 := h'.b 0
  have e := h.along h'
  unfold fn_Se_isSameAs
  by_cases c : n = m
  · rw [if_pos c] at e ⊢
    by_cases c0 : n = 0
    · have e1 : prP a b n = true := al_stop (by omega)
      have e2 : eqB a b n = true := al_stop (by omega)
      rw [b01_t e1] at e
      rw [b01_t e2]
      simp (disch := omega) only [zlit, zI_add, zI_sub, zI_mul, zI_neg, zI_lt, zI_le, zI_eq, zI_cl, zI_max, zI_min, zI_abs, bnd_ok, bnd_ex, lm_eq, li_eq, grd_inb, grd_ser, grd_z, grd_lt, if_true, if_false, if_pos, if_neg, e, h.c, fn_Se_isSameAs_28]
    · by_cases c1 : prP a b n = true
      · rw [b01_t c1] at e
        by_cases c2 : a 0 = b 0
        · have e2 : eqB a b n = true := by
            unfold eqB
            rw [al_iff]
            intro x x1 x2
            by_cases c5 : x = 0
            · rw [c5]; exact decide_eq_true (by omega)
            · have := of_decide_eq_true (al_iff.mp c1 x (by omega) x2)
              exact decide_eq_true (by omega)
          rw [b01_t e2]
          simp (disch := omega) only [zlit, zI_add, zI_sub, zI_mul, zI_neg, zI_lt, zI_le, zI_eq, zI_cl, zI_max, zI_min, zI_abs, bnd_ok, bnd_ex, lm_eq, li_eq, grd_inb, grd_ser, grd_z, grd_lt, if_true, if_false, if_pos, if_neg, e, h.c, h.at, h'.at, fn_Se_isSameAs_28]
        · have e2 : ¬ eqB a b n = true := fun z => by
            have := of_decide_eq_true (al_iff.mp z 0 (by omega) (by omega))
            omega
          rw [b01_f e2]
          simp (disch := omega) only [zlit, zI_add, zI_sub, zI_mul, zI_neg, zI_lt, zI_le, zI_eq, zI_cl, zI_max, zI_min, zI_abs, bnd_ok, bnd_ex, lm_eq, li_eq, grd_inb, grd_ser, grd_z, grd_lt, if_true, if_false, if_pos, if_neg, e, h.c, h.at, h'.at]
      · rw [b01_f c1] at e
        have e2 : ¬ eqB a b n = true := fun z => c1 (by
          unfold prP
          rw [al_iff]
          intro x x1 x2
          have z1 := of_decide_eq_true (al_iff.mp z x (by omega) x2)
          have z2 := of_decide_eq_true (al_iff.mp z 0 (by omega) (by omega))
          exact decide_eq_true (by omega))
        rw [b01_f e2]
        simp (disch := omega) only [zlit, zI_add, zI_sub, zI_mul, zI_neg, zI_lt, zI_le, zI_eq, zI_cl, zI_max, zI_min, zI_abs, bnd_ok, bnd_ex, lm_eq, li_eq, grd_inb, grd_ser, grd_z, grd_lt, if_true, if_false, if_pos, if_neg, e]
  · rw [if_neg c] at e ⊢
    simp (disch := omega) only [zlit, zI_add, zI_sub, zI_mul, zI_neg, zI_lt, zI_le, zI_eq, zI_cl, zI_max, zI_min, zI_abs, bnd_ok, bnd_ex, lm_eq, li_eq, grd_inb, grd_ser, grd_z, grd_lt, if_true, if_false, if_pos, if_neg, e]
theorem Q_areEqual {p q : Int} (hp : -2147483648 ≤ p ∧ p < 2147483648) (hq : -2147483648 ≤ q ∧ q < 2147483648) : AgR (fn_SA_areEqual (zI p) (zI q)) [(0, 1)] (fn_Mo_areEqual (zI p) (zI q)) := by
  intro M N A H K
  by_cases c : 0 ≤ p ∧ p < 4
  · by_cases c2 : 0 ≤ q ∧ q < 4
    · have h := H p c.1 c.2
      have h' := H q c2.1 c2.2
      have hn := h.n
      have hm := h'.n
      have hz : (if N p = N q then b01 (eqB (A p) (A q) (N p)) else 0) = 0 ∨ (if N p = N q then b01 (eqB (A p) (A q) (N p)) else 0) = 1 := by
        have := b01_b (eqB (A p) (A q) (N p))
        by_cases c3 : N p = N q
        · rw [if_pos c3]; exact this
        · rw [if_neg c3]; exact .inl rfl
      refine .inl ⟨zI (if N p = N q then b01 (eqB (A p) (A q) (N p)) else 0), CR.of ?_, MR.of (fun M' K' => ?_)⟩
      · unfold fn_SA_areEqual
        simp (disch := omega) only [zlit, zI_add, zI_sub, zI_mul, zI_neg, zI_lt, zI_le, zI_eq, zI_cl, zI_max, zI_min, zI_abs, bnd_ok, bnd_ex, lm_eq, li_eq, grd_inb, grd_ser, grd_z, grd_lt, if_true, if_false, if_pos, if_neg, SA_in, h.same h']
      · have k := (K' p c.1 c.2).set (k := 32) (by decide) 6 (zI 0)
        have k' := (K' q c2.1 c2.2).set (k := 32) (by decide) 6 (zI 0)
        have e3 := m_along k k' (y := 0) (by omega)
        have e5 : b01 (al (fun i => decide (A p i - A q i = 0)) 0 (N p)) = b01 (eqB (A p) (A q) (N p)) := rfl
        rw [e5] at e3
        unfold fn_Mo_areEqual
        rcases hz with hz | hz
        · rw [hz] at e3 ⊢
          simp (disch := omega) only [zlit, zI_add, zI_sub, zI_mul, zI_neg, zI_lt, zI_le, zI_eq, zI_cl, zI_max, zI_min, zI_abs, bnd_ok, bnd_ex, lm_eq, li_eq, grd_inb, grd_ser, grd_z, grd_lt, if_true, if_false, if_pos, if_neg, mo_slot, fn_Mo_areEqual_20, mo_checked, Int.sub_self, e3]
        · rw [hz] at e3 ⊢
          simp (disch := omega) only [zlit, zI_add, zI_sub, zI_mul, zI_neg, zI_lt, zI_le, zI_eq, zI_cl, zI_max, zI_min, zI_abs, bnd_ok, bnd_ex, lm_eq, li_eq, grd_inb, grd_ser, grd_z, grd_lt, if_true, if_false, if_pos, if_neg, mo_slot, fn_Mo_areEqual_20, mo_checked, Int.sub_self, e3]
    · refine .inr ⟨0, 0, 1, CR.of ?_, rfl, by decide, MR.of (fun M' K' => ?_)⟩
      · unfold fn_SA_areEqual
        simp (disch := omega) only [zlit, zI_add, zI_sub, zI_mul, zI_neg, zI_lt, zI_le, zI_eq, zI_cl, zI_max, zI_min, zI_abs, bnd_ok, bnd_ex, lm_eq, li_eq, grd_inb, grd_ser, grd_z, grd_lt, if_true, if_false, if_pos, if_neg, SA_in, SA_in_no]
      · unfold fn_Mo_areEqual
        simp (disch := omega) only [zlit, zI_add, zI_sub, zI_mul, zI_neg, zI_lt, zI_le, zI_eq, zI_cl, zI_max, zI_min, zI_abs, bnd_ok, bnd_ex, lm_eq, li_eq, grd_inb, grd_ser, grd_z, grd_lt, if_true, if_false, if_pos, if_neg, mo_slot, fn_Mo_areEqual_19, fn_Mo_areEqual_20, mo_checked, Int.sub_zero]
  · refine .inr ⟨0, 0, 1, CR.of ?_, rfl, by decide, MR.of (fun M' K' => ?_)⟩
    · unfold fn_SA_areEqual
      simp (disch := omega) only [zlit, zI_add, zI_sub, zI_mul, zI_neg, zI_lt, zI_le, zI_eq, zI_cl, zI_max, zI_min, zI_abs, bnd_ok, bnd_ex, lm_eq, li_eq, grd_inb, grd_ser, grd_z, grd_lt, if_true, if_false, if_pos, if_neg, SA_in_no]
    · unfold fn_Mo_areEqual
      simp (disch := omega) only [zlit, zI_add, zI_sub, zI_mul, zI_neg, zI_lt, zI_le, zI_eq, zI_cl, zI_max, zI_min, zI_abs, bnd_ok, bnd_ex, lm_eq, li_eq, grd_inb, grd_ser, grd_z, grd_lt, if_true, if_false, if_pos, if_neg, mo_slot, fn_Mo_areEqual_19, fn_Mo_areEqual_20, mo_checked, Int.sub_zero]
theorem c_falls_2 {M : Mm} {v : Nat} {n : Int} {a : Int → Int} (h : Ser M v n a) : ∀ (k : Nat) (i : Int), 1 ≤ i → i ≤ max n 1 → max n 1 - i < k → fn_Se_neverFalls_2 v k (zI i) M = some (.inl (zI (b01 (al (fun i => decide (a (i - 1) ≤ a i)) i n))), M) := by
  have hv := h.v
  have hn := h.n
  intro k
  induction k with
  | zero => intros; omega
  | succ k ih =>
    intro i h0 h1 h2
    have b1 := h.b i
    have b2 := h.b (i - 1)
    rw [fn_Se_neverFalls_2]
    by_cases c : n ≤ i
    · simp (disch := omega) only [zlit, zI_add, zI_sub, zI_mul, zI_neg, zI_lt, zI_le, zI_eq, zI_cl, zI_max, zI_min, zI_abs, bnd_ok, bnd_ex, lm_eq, li_eq, grd_inb, grd_ser, grd_z, grd_lt, if_true, if_false, if_pos, if_neg, h.c, al_stop, b01_true]
    · by_cases c2 : a (i - 1) ≤ a i
      · rw [ad_go (q := fun i => a (i - 1) ≤ a i) (i := i) (by omega) c2]
        simp (disch := omega) only [zlit, zI_add, zI_sub, zI_mul, zI_neg, zI_lt, zI_le, zI_eq, zI_cl, zI_max, zI_min, zI_abs, bnd_ok, bnd_ex, lm_eq, li_eq, grd_inb, grd_ser, grd_z, grd_lt, if_true, if_false, if_pos, if_neg, h.c, h.at]
        exact ih (i + 1) (by omega) (by omega) (by omega)
      · rw [ad_no (q := fun i => a (i - 1) ≤ a i) (i := i) (by omega) c2]
        simp (disch := omega) only [zlit, zI_add, zI_sub, zI_mul, zI_neg, zI_lt, zI_le, zI_eq, zI_cl, zI_max, zI_min, zI_abs, bnd_ok, bnd_ex, lm_eq, li_eq, grd_inb, grd_ser, grd_z, grd_lt, if_true, if_false, if_pos, if_neg, h.c, h.at, b01_false]
theorem m_asc_15 {M : Mm} {v n : Int} {a : Int → Int} (h : Mse M v n a) : ∀ (k : Nat) (i : Int), 1 ≤ i → i ≤ max n 1 → max n 1 - i < k → fn_Mo_isAscending_15 (zI v) k (zI i) M = some (.inl (zI (b01 (al (fun i => decide (a (i - 1) ≤ a i)) i n))), M) := by
  have hv := h.s
  have hn := h.n
  intro k
  induction k with
  | zero => intros; omega
  | succ k ih =>
    intro i h0 h1 h2
    have b1 := h.b i
    have b2 := h.b (i - 1)
    rw [fn_Mo_isAscending_15]
    by_cases c : n ≤ i
    · simp (disch := omega) only [zlit, zI_add, zI_sub, zI_mul, zI_neg, zI_lt, zI_le, zI_eq, zI_cl, zI_max, zI_min, zI_abs, bnd_ok, bnd_ex, lm_eq, li_eq, grd_inb, grd_ser, grd_z, grd_lt, if_true, if_false, if_pos, if_neg, h.many, al_stop, b01_true]
    · by_cases c2 : a (i - 1) ≤ a i
      · rw [ad_go (q := fun i => a (i - 1) ≤ a i) (i := i) (by omega) c2]
        simp (disch := omega) only [zlit, zI_add, zI_sub, zI_mul, zI_neg, zI_lt, zI_le, zI_eq, zI_cl, zI_max, zI_min, zI_abs, bnd_ok, bnd_ex, lm_eq, li_eq, grd_inb, grd_ser, grd_z, grd_lt, if_true, if_false, if_pos, if_neg, h.many, h.at]
        exact ih (i + 1) (by omega) (by omega) (by omega)
      · rw [ad_no (q := fun i => a (i - 1) ≤ a i) (i := i) (by omega) c2]
        simp (disch := omega) only [zlit, zI_add, zI_sub, zI_mul, zI_neg, zI_lt, zI_le, zI_eq, zI_cl, zI_max, zI_min, zI_abs, bnd_ok, bnd_ex, lm_eq, li_eq, grd_inb, grd_ser, grd_z, grd_lt, if_true, if_false, if_pos, if_neg, h.many, h.at, b01_false]
theorem Q_isAscending {p : Int} (hp : -2147483648 ≤ p ∧ p < 2147483648) : AgR (fn_SA_isAscending (zI p)) [(0, 1)] (fn_Mo_isAscending (zI p)) := by
  intro M N A H K
  by_cases c : 0 ≤ p ∧ p < 4
  · have h := H p c.1 c.2
    have hn := h.n
    have b := b01_b (al (fun i => decide (A p (i - 1) ≤ A p i)) 1 (N p))
    refine .inl ⟨zI (b01 (al (fun i => decide (A p (i - 1) ≤ A p i)) 1 (N p))), CR.of ?_, MR.of (fun M' K' => ?_)⟩
    · have e := c_falls_2 h 2000 1 (by omega) (by omega) (by omega)
      unfold fn_SA_isAscending fn_Se_neverFalls fuel0
      simp (disch := omega) only [zlit, zI_add, zI_sub, zI_mul, zI_neg, zI_lt, zI_le, zI_eq, zI_cl, zI_max, zI_min, zI_abs, bnd_ok, bnd_ex, lm_eq, li_eq, grd_inb, grd_ser, grd_z, grd_lt, if_true, if_false, if_pos, if_neg, SA_in, e]
    · have k := (K' p c.1 c.2).set (k := 32) (by decide) 6 (zI 0)
      have e := m_asc_15 k 2000 1 (by omega) (by omega) (by omega)
      unfold fn_Mo_isAscending fuel0
      simp (disch := omega) only [zlit, zI_add, zI_sub, zI_mul, zI_neg, zI_lt, zI_le, zI_eq, zI_cl, zI_max, zI_min, zI_abs, bnd_ok, bnd_ex, lm_eq, li_eq, grd_inb, grd_ser, grd_z, grd_lt, if_true, if_false, if_pos, if_neg, mo_slot, mo_checked, Int.sub_self, e]
  · refine .inr ⟨0, 0, 1, CR.of ?_, rfl, by decide, MR.of (fun M' K' => ?_)⟩
    · unfold fn_SA_isAscending
      simp (disch := omega) only [zlit, zI_add, zI_sub, zI_mul, zI_neg, zI_lt, zI_le, zI_eq, zI_cl, zI_max, zI_min, zI_abs, bnd_ok, bnd_ex, lm_eq, li_eq, grd_inb, grd_ser, grd_z, grd_lt, if_true, if_false, if_pos, if_neg, SA_in_no]
    · unfold fn_Mo_isAscending
      simp (disch := omega) only [zlit, zI_add, zI_sub, zI_mul, zI_neg, zI_lt, zI_le, zI_eq, zI_cl, zI_max, zI_min, zI_abs, bnd_ok, bnd_ex, lm_eq, li_eq, grd_inb, grd_ser, grd_z, grd_lt, if_true, if_false, if_pos, if_neg, mo_slot, mo_checked, Int.sub_zero]
/-! totals -/
def allF (N : Int → Int) (i s : Int) : Int := lp (fun x s => s + N x) i 4 s
theorem c_count_4 {M : Mm} {N : Int → Int} {A : Int → Int → Int} (H : Cs N A M) : ∀ (k : Nat) (s i : Int), 0 ≤ i → i ≤ 4 → 4 - i < k → fn_St_valueCount_4 k (zI s) (zI i) M = some (.inl (zI (allF N i s)), M) := by
  intro k
  induction k with
  | zero => intros; omega
  | succ k ih =>
    intro s i h0 h1 h2
    rw [fn_St_valueCount_4]
    unfold allF
    by_cases c : 4 ≤ i
    · simp (disch := omega) only [zlit, zI_add, zI_sub, zI_mul, zI_neg, zI_lt, zI_le, zI_eq, zI_cl, zI_max, zI_min, zI_abs, bnd_ok, bnd_ex, lm_eq, li_eq, grd_inb, grd_ser, grd_z, grd_lt, if_true, if_false, if_pos, if_neg, lp_stop]
    · have h := H i h0 (by omega)
      simp (disch := omega) only [zlit, zI_add, zI_sub, zI_mul, zI_neg, zI_lt, zI_le, zI_eq, zI_cl, zI_max, zI_min, zI_abs, bnd_ok, bnd_ex, lm_eq, li_eq, grd_inb, grd_ser, grd_z, grd_lt, if_true, if_false, if_pos, if_neg, St_at_z, h.size]
      rw [ih (s + N i) (i + 1) (by omega) (by omega) (by omega)]
      unfold allF
      rw [lp_step (i := i) (by omega)]
theorem Cs.count {M : Mm} {N : Int → Int} {A : Int → Int → Int} (H : Cs N A M) : fn_St_valueCount M = some (.inl (zI (allF N 0 0)), M) := by
  unfold fn_St_valueCount fuel0
  simp (disch := omega) only [zlit, zI_add, zI_sub, zI_mul, zI_neg, zI_lt, zI_le, zI_eq, zI_cl, zI_max, zI_min, zI_abs, bnd_ok, bnd_ex, lm_eq, li_eq, grd_inb, grd_ser, grd_z, grd_lt, if_true, if_false, if_pos, if_neg]
  exact c_count_4 H 2000 0 0 (by omega) (by omega) (by omega)
theorem m_all_4 {M : Mm} {N : Int → Int} {A : Int → Int → Int} (K : Ms N A M) : ∀ (k : Nat) (s i : Int), 0 ≤ i → i ≤ 4 → 4 - i < k → fn_Mo_all_4 k (zI s) (zI i) M = some (.inl (zI (allF N i s)), M) := by
  intro k
  induction k with
  | zero => intros; omega
  | succ k ih =>
    intro s i h0 h1 h2
    rw [fn_Mo_all_4]
    unfold allF
    by_cases c : 4 ≤ i
    · simp (disch := omega) only [zlit, zI_add, zI_sub, zI_mul, zI_neg, zI_lt, zI_le, zI_eq, zI_cl, zI_max, zI_min, zI_abs, bnd_ok, bnd_ex, lm_eq, li_eq, grd_inb, grd_ser, grd_z, grd_lt, if_true, if_false, if_pos, if_neg, lp_stop]
    · have h := K i h0 (by omega)
      simp (disch := omega) only [zlit, zI_add, zI_sub, zI_mul, zI_neg, zI_lt, zI_le, zI_eq, zI_cl, zI_max, zI_min, zI_abs, bnd_ok, bnd_ex, lm_eq, li_eq, grd_inb, grd_ser, grd_z, grd_lt, if_true, if_false, if_pos, if_neg, h.many]
      rw [ih (s + N i) (i + 1) (by omega) (by omega) (by omega)]
      unfold allF
      rw [lp_step (i := i) (by omega)]
theorem Ms.all {M : Mm} {N : Int → Int} {A : Int → Int → Int} (K : Ms N A M) : fn_Mo_all M = some (.inl (zI (allF N 0 0)), M) := by
  unfold fn_Mo_all fuel0
  simp (disch := omega) only [zlit, zI_add, zI_sub, zI_mul, zI_neg, zI_lt, zI_le, zI_eq, zI_cl, zI_max, zI_min, zI_abs, bnd_ok, bnd_ex, lm_eq, li_eq, grd_inb, grd_ser, grd_z, grd_lt, if_true, if_false, if_pos, if_neg]
  exact m_all_4 K 2000 0 0 (by omega) (by omega) (by omega)
theorem allF_is (N : Int → Int) : allF N 0 0 = N 0 + N 1 + N 2 + N 3 := by
  unfold allF
  rw [lp_step (by omega), lp_step (by omega), lp_step (by omega), lp_step (by omega), lp_stop (by omega)]
  show 0 + N 0 + N (0 + 1) + N (0 + 1 + 1) + N (0 + 1 + 1 + 1) = _
  rw [show (0 + 1 + 1 + 1 : Int) = 3 by omega, show (0 + 1 + 1 : Int) = 2 by omega, show (0 + 1 : Int) = 1 by omega]
  omega
theorem allF_b {M : Mm} {N : Int → Int} {A : Int → Int → Int} (H : Cs N A M) : 0 ≤ allF N 0 0 ∧ allF N 0 0 ≤ 80 := by
  have h0 := (H 0 (by omega) (by omega)).n
  have h1 := (H 1 (by omega) (by omega)).n
  have h2 := (H 2 (by omega) (by omega)).n
  have h3 := (H 3 (by omega) (by omega)).n
  rw [allF_is]
  omega
theorem Q_valueTotal : AgR fn_SA_valueTotal [] fn_Mo_valueTotal := by
  intro M N A H K
  refine .inl ⟨zI (allF N 0 0), CR.of ?_, MR.of (fun M' K' => ?_)⟩
  · unfold fn_SA_valueTotal
    simp (disch := omega) only [zlit, zI_add, zI_sub, zI_mul, zI_neg, zI_lt, zI_le, zI_eq, zI_cl, zI_max, zI_min, zI_abs, bnd_ok, bnd_ex, lm_eq, li_eq, grd_inb, grd_ser, grd_z, grd_lt, if_true, if_false, if_pos, if_neg, H.count]
  · unfold fn_Mo_valueTotal
    simp (disch := omega) only [zlit, zI_add, zI_sub, zI_mul, zI_neg, zI_lt, zI_le, zI_eq, zI_cl, zI_max, zI_min, zI_abs, bnd_ok, bnd_ex, lm_eq, li_eq, grd_inb, grd_ser, grd_z, grd_lt, if_true, if_false, if_pos, if_neg, K'.all, mo_plain]
/-- how many are positive, from series i on -/
def posF (N : Int → Int) (A : Int → Int → Int) (i s : Int) : Int := lp (fun x s => s + cntF (fun y => decide (0 < A x y)) 0 (N x) 0) i 4 s
theorem c_pos_4 {M : Mm} {N : Int → Int} {A : Int → Int → Int} (H : Cs N A M) : ∀ (k : Nat) (s i : Int), 0 ≤ i → i ≤ 4 → 4 - i < k → fn_St_positiveCount_4 k (zI s) (zI i) M = some (.inl (zI (posF N A i s)), M) := by
  intro k
  induction k with
  | zero => intros; omega
  | succ k ih =>
    intro s i h0 h1 h2
    rw [fn_St_positiveCount_4]
    by_cases c : 4 ≤ i
    · unfold posF
      simp (disch := omega) only [zlit, zI_add, zI_sub, zI_mul, zI_neg, zI_lt, zI_le, zI_eq, zI_cl, zI_max, zI_min, zI_abs, bnd_ok, bnd_ex, lm_eq, li_eq, grd_inb, grd_ser, grd_z, grd_lt, if_true, if_false, if_pos, if_neg, lp_stop]
    · have h := H i h0 (by omega)
      simp (disch := omega) only [zlit, zI_add, zI_sub, zI_mul, zI_neg, zI_lt, zI_le, zI_eq, zI_cl, zI_max, zI_min, zI_abs, bnd_ok, bnd_ex, lm_eq, li_eq, grd_inb, grd_ser, grd_z, grd_lt, if_true, if_false, if_pos, if_neg, St_at_z, h.countOver]
      rw [ih _ (i + 1) (by omega) (by omega) (by omega)]
      unfold posF
      rw [lp_step (i := i) (by omega)]
theorem cntF_acc {p : Int → Bool} {j : Int} : ∀ (k : Nat) (i s : Int), k = (j - i).toNat → cntF p i j s = s + cntF p i j 0 := by
  intro k
  induction k with
  | zero => intro i s hk; rw [cd_stop (by omega), cd_stop (by omega)]; omega
  | succ k ih =>
    intro i s hk
    by_cases c : p i = true
    · rw [cb_y (by omega) c, ih (i + 1) _ (by omega), cb_y (s := 0) (by omega) c, ih (i + 1) (0 + 1) (by omega)]
      omega
    · rw [cb_n (by omega) c, ih (i + 1) _ (by omega), cb_n (s := 0) (by omega) c, ih (i + 1) (0 + 0) (by omega)]
      omega
theorem m_pos_32 {M : Mm} {v n : Int} {a : Int → Int} (h : Mse M v n a) (k25 : Int32 → Int32 → Mm → Rs UInt32) : ∀ (k : Nat) (s i : Int), 0 ≤ i → i ≤ n → n - i < k → fn_Mo_positiveShare_32 k25 (zI v) k (zI s) (zI i) M = k25 (zI (cntF (fun y => decide (0 < a y)) i n s)) (zI (v + 1)) M := by
  have hv := h.s
  have hn := h.n
  intro k
  induction k with
  | zero => intros; omega
  | succ k ih =>
    intro s i h0 h1 h2
    have b1 := h.b i
    rw [fn_Mo_positiveShare_32]
    by_cases c : n ≤ i
    · simp (disch := omega) only [zlit, zI_add, zI_sub, zI_mul, zI_neg, zI_lt, zI_le, zI_eq, zI_cl, zI_max, zI_min, zI_abs, bnd_ok, bnd_ex, lm_eq, li_eq, grd_inb, grd_ser, grd_z, grd_lt, if_true, if_false, if_pos, if_neg, h.many, fn_Mo_positiveShare_64, cd_stop]
    · by_cases c2 : 0 < a i
      · simp (disch := omega) only [zlit, zI_add, zI_sub, zI_mul, zI_neg, zI_lt, zI_le, zI_eq, zI_cl, zI_max, zI_min, zI_abs, bnd_ok, bnd_ex, lm_eq, li_eq, grd_inb, grd_ser, grd_z, grd_lt, if_true, if_false, if_pos, if_neg, h.many, h.at, fn_Mo_positiveShare_56]
        simp (disch := omega) only [ih, cd_y, cd_n]
      · simp (disch := omega) only [zlit, zI_add, zI_sub, zI_mul, zI_neg, zI_lt, zI_le, zI_eq, zI_cl, zI_max, zI_min, zI_abs, bnd_ok, bnd_ex, lm_eq, li_eq, grd_inb, grd_ser, grd_z, grd_lt, if_true, if_false, if_pos, if_neg, h.many, h.at, fn_Mo_positiveShare_56]
        simp (disch := omega) only [ih, cd_y, cd_n]
theorem m_pos_25 {M : Mm} {N : Int → Int} {A : Int → Int → Int} (K : Ms N A M) : ∀ (k : Nat) (s i : Int), 0 ≤ i → i ≤ 4 → 4 - i < k → fn_Mo_positiveShare_25 k (zI s) (zI i) M = fn_Mo_positiveShare_70 (zI (posF N A i s)) M := by
  intro k
  induction k with
  | zero => intros; omega
  | succ k ih =>
    intro s i h0 h1 h2
    rw [fn_Mo_positiveShare_25]
    by_cases c : 4 ≤ i
    · unfold posF
      simp (disch := omega) only [zlit, zI_add, zI_sub, zI_mul, zI_neg, zI_lt, zI_le, zI_eq, zI_cl, zI_max, zI_min, zI_abs, bnd_ok, bnd_ex, lm_eq, li_eq, grd_inb, grd_ser, grd_z, grd_lt, if_true, if_false, if_pos, if_neg, lp_stop]
    · have h := K i h0 (by omega)
      have hn := h.n
      have e := m_pos_32 h (fn_Mo_positiveShare_25 k) 2000 s 0 (by omega) (by omega) (by omega)
      unfold fuel0
      simp (disch := omega) only [zlit, zI_add, zI_sub, zI_mul, zI_neg, zI_lt, zI_le, zI_eq, zI_cl, zI_max, zI_min, zI_abs, bnd_ok, bnd_ex, lm_eq, li_eq, grd_inb, grd_ser, grd_z, grd_lt, if_true, if_false, if_pos, if_neg, e]
      rw [ih _ (i + 1) (by omega) (by omega) (by omega), cntF_acc _ _ _ rfl]
      unfold posF
      rw [lp_step (i := i) (by omega)]
theorem posF_b {M : Mm} {N : Int → Int} {A : Int → Int → Int} (H : Cs N A M) : 0 ≤ posF N A 0 0 ∧ posF N A 0 0 ≤ 80 := by
  have h := lp_inv (f := fun x s => s + cntF (fun y => decide (0 < A x y)) 0 (N x) 0) (fun i s => 0 ≤ s ∧ s ≤ 20 * i) (i := 0) (j := 4) (b := 0) (by omega) (by omega) (fun x s x1 x2 hs => by
    have hn := (H x x1 x2).n
    have hc := cntF_b (p := fun y => decide (0 < A x y)) (i := 0) (j := N x) (s := 0) (by omega)
    show 0 ≤ s + cntF (fun y => decide (0 < A x y)) 0 (N x) 0 ∧ s + cntF (fun y => decide (0 < A x y)) 0 (N x) 0 ≤ 20 * (x + 1)
    omega)
  exact h
theorem Q_positiveShare : AgR fn_SA_positiveShare [(4, 1)] fn_Mo_positiveShare := by
  intro M N A H K
  have ha := allF_b H
  by_cases c : allF N 0 0 = 0
  · refine .inr ⟨4, FP.fconst0, 1, CR.of ?_, rfl, by decide, MR.of (fun M' K' => ?_)⟩
    · unfold fn_SA_positiveShare
      simp (disch := omega) only [zlit, zI_add, zI_sub, zI_mul, zI_neg, zI_lt, zI_le, zI_eq, zI_cl, zI_max, zI_min, zI_abs, bnd_ok, bnd_ex, lm_eq, li_eq, grd_inb, grd_ser, grd_z, grd_lt, if_true, if_false, if_pos, if_neg, H.count]
    · unfold fn_Mo_positiveShare
      simp (disch := omega) only [zlit, zI_add, zI_sub, zI_mul, zI_neg, zI_lt, zI_le, zI_eq, zI_cl, zI_max, zI_min, zI_abs, bnd_ok, bnd_ex, lm_eq, li_eq, grd_inb, grd_ser, grd_z, grd_lt, if_true, if_false, if_pos, if_neg, K'.all, fn_Mo_positiveShare_13, mo_checked, Int.sub_zero]
  · have hp := posF_b H
    have hok := share_ok (s := posF N A 0 0) (n := allF N 0 0) hp (by omega)
    have ep := c_pos_4 H 2000 0 0 (by omega) (by omega) (by omega)
    refine .inl ⟨FP.fdiv (FP.i2f (zI (posF N A 0 0))) (FP.i2f (zI (allF N 0 0))), CR.of ?_, MR.of (fun M' K' => ?_)⟩
    · unfold fn_SA_positiveShare fn_St_positiveCount fuel0
      simp (disch := omega) only [zlit, zI_add, zI_sub, zI_mul, zI_neg, zI_lt, zI_le, zI_eq, zI_cl, zI_max, zI_min, zI_abs, bnd_ok, bnd_ex, lm_eq, li_eq, grd_inb, grd_ser, grd_z, grd_lt, if_true, if_false, if_pos, if_neg, H.count, ep]
      exact grd_t hok
    · have K2 : Ms N A (mset M' 32 6 (zI 0)) := K'.off (Off.th M' _)
      have e1 := m_pos_25 K2 2000 0 0 (by omega) (by omega) (by omega)
      unfold fn_Mo_positiveShare
      simp (disch := omega) only [zlit, zI_add, zI_sub, zI_mul, zI_neg, zI_lt, zI_le, zI_eq, zI_cl, zI_max, zI_min, zI_abs, bnd_ok, bnd_ex, lm_eq, li_eq, grd_inb, grd_ser, grd_z, grd_lt, if_true, if_false, if_pos, if_neg, K'.all, fn_Mo_positiveShare_13, mo_checked, Int.sub_self, fuel0, e1, fn_Mo_positiveShare_70, K2.all]
      exact grd_t hok
/-! the check of both ways -/
theorem c_agree_2 {M0 : Mm} {v : Nat} {n : Int} {a : Int → Int} (h0 : Ser M0 v n a) (hv22 : v ≤ 6) : ∀ (k : Nat) (i : Int) (M : Mm), Off M0 M → 0 ≤ i → i ≤ n → n - i < k → ∃ M1, fn_Ra_agreeOn_2 v k (zI i) M = fn_Ra_agreeOn_48 v M1 ∧ Off M0 M1 := by
  have hv := h0.v
  have hn := h0.n
  intro k
  induction k with
  | zero => intros; omega
  | succ k ih =>
    intro i M ho i0 i1 i2
    have h := h0.to (M' := M) (ho.1 _ (by omega)) (ho.1 _ (by omega))
    rw [fn_Ra_agreeOn_2]
    by_cases c : n ≤ i
    · refine ⟨M, ?_, ho⟩
      simp (disch := omega) only [zlit, zI_add, zI_sub, zI_mul, zI_neg, zI_lt, zI_le, zI_eq, zI_cl, zI_max, zI_min, zI_abs, bnd_ok, bnd_ex, lm_eq, li_eq, grd_inb, grd_ser, grd_z, grd_lt, if_true, if_false, if_pos, if_neg, h.size]
    · obtain ⟨M1, e1, o1⟩ := h.byTree (f := 0) (t := i) (by omega) (by omega) (by omega)
      have h1 := h.to (M' := M1) (o1.1 _ (by omega)) (o1.1 _ (by omega))
      obtain ⟨M2, e2, o2⟩ := h1.nextStack (w := i) ⟨i0, by omega⟩
      have h2 := h1.to (M' := M2) (o2.1 _ (by omega)) (o2.1 _ (by omega))
      have e3 := h2.nextScan (t := i) ⟨i0, by omega⟩
      have e4 : fn_Ra_nextAboveByScan v (zI i) M2 = some (.inl (zI (ngF a n i)), M2) := e3
      obtain ⟨M3, e5, o3⟩ := ih (i + 1) M2 ((ho.tr o1).tr o2) (by omega) (by omega) (by omega)
      refine ⟨M3, ?_, o3⟩
      simp (disch := omega) only [zlit, zI_add, zI_sub, zI_mul, zI_neg, zI_lt, zI_le, zI_eq, zI_cl, zI_max, zI_min, zI_abs, bnd_ok, bnd_ex, lm_eq, li_eq, grd_inb, grd_ser, grd_z, grd_lt, if_true, if_false, if_pos, if_neg, h.size, h.total, e1, e2, e4, e5]
theorem Ser.agreeR {M : Mm} {v : Nat} {n : Int} {a : Int → Int} (h : Ser M v n a) : ∃ M1, fn_Ra_agreeOn v M = some (.inl (zI 1), M1) ∧ Off M M1 := by
  have hv := h.v
  have hn := h.n
  obtain ⟨M1, e1, o1⟩ := c_agree_2 h (by omega) 2000 0 M (Off.rf M) (by omega) (by omega) (by omega)
  have h1 := h.to (M' := M1) (o1.1 _ (by omega)) (o1.1 _ (by omega))
  obtain ⟨M2, e2, o2⟩ := h1.falling
  have h2 := h1.to (M' := M2) (o2.1 _ (by omega)) (o2.1 _ (by omega))
  refine ⟨M2, ?_, o1.tr o2⟩
  unfold fn_Ra_agreeOn fuel0
  by_cases c : n = 0
  · simp (disch := omega) only [zlit, zI_add, zI_sub, zI_mul, zI_neg, zI_lt, zI_le, zI_eq, zI_cl, zI_max, zI_min, zI_abs, bnd_ok, bnd_ex, lm_eq, li_eq, grd_inb, grd_ser, grd_z, grd_lt, if_true, if_false, if_pos, if_neg, e1, fn_Ra_agreeOn_48, e2, h2.pairs, h2.emp, fn_Ra_agreeOn_78]
  · obtain ⟨B, b1, b2⟩ := h2.top (by omega)
    simp (disch := omega) only [zlit, zI_add, zI_sub, zI_mul, zI_neg, zI_lt, zI_le, zI_eq, zI_cl, zI_max, zI_min, zI_abs, bnd_ok, bnd_ex, lm_eq, li_eq, grd_inb, grd_ser, grd_z, grd_lt, if_true, if_false, if_pos, if_neg, e1, fn_Ra_agreeOn_48, e2, h2.pairs, h2.emp, b2, h2.topRIs b1, fn_Ra_agreeOn_78]
theorem Ser.agreeP {M : Mm} {v : Nat} {n : Int} {a : Int → Int} (h : Ser M v n a) : ∃ M1, fn_Pa_agreeOn v M = some (.inl (zI 1), M1) ∧ Off M M1 := by
  have hv := h.v
  have hn := h.n
  unfold fn_Pa_agreeOn
  by_cases c : n = 0
  · refine ⟨M, ?_, Off.rf M⟩
    simp (disch := omega) only [zlit, zI_add, zI_sub, zI_mul, zI_neg, zI_lt, zI_le, zI_eq, zI_cl, zI_max, zI_min, zI_abs, bnd_ok, bnd_ex, lm_eq, li_eq, grd_inb, grd_ser, grd_z, grd_lt, if_true, if_false, if_pos, if_neg, h.emp, fn_Pa_agreeOn_19]
  · obtain ⟨p, hp⟩ := h.perEx (by omega)
    obtain ⟨M1, e1, o1⟩ := h.periodK hp
    have h1 := h.to (M' := M1) (o1.1 _ (by omega)) (o1.1 _ (by omega))
    refine ⟨M1, ?_, o1⟩
    simp (disch := omega) only [zlit, zI_add, zI_sub, zI_mul, zI_neg, zI_lt, zI_le, zI_eq, zI_cl, zI_max, zI_min, zI_abs, bnd_ok, bnd_ex, lm_eq, li_eq, grd_inb, grd_ser, grd_z, grd_lt, if_true, if_false, if_pos, if_neg, h.emp, e1, h1.trial hp, fn_Pa_agreeOn_19]
theorem c_consistent_2 {N : Int → Int} {A : Int → Int → Int} {M0 : Mm} (H0 : Cs N A M0) : ∀ (k : Nat) (i : Int) (M : Mm), Off M0 M → 0 ≤ i → i ≤ 4 → 4 - i < k → ∃ M1, fn_SA_isConsistent_2 k (zI i) M = some (.inl (zI 1), M1) ∧ Off M0 M1 := by
  intro k
  induction k with
  | zero => intros; omega
  | succ k ih =>
    intro i M ho h0 h1 h2
    rw [fn_SA_isConsistent_2]
    by_cases c : 4 ≤ i
    · refine ⟨M, ?_, ho⟩
      simp (disch := omega) only [zlit, zI_add, zI_sub, zI_mul, zI_neg, zI_lt, zI_le, zI_eq, zI_cl, zI_max, zI_min, zI_abs, bnd_ok, bnd_ex, lm_eq, li_eq, grd_inb, grd_ser, grd_z, grd_lt, if_true, if_false, if_pos, if_neg]
    · have h := (H0.off ho) i h0 (by omega)
      obtain ⟨M1, e1, o1⟩ := h.agreeR
      have hh := h.to (M' := M1) (o1.1 _ (by omega)) (o1.1 _ (by omega))
      obtain ⟨M2, e2, o2⟩ := hh.agreeP
      obtain ⟨M3, e3, o3⟩ := ih (i + 1) M2 ((ho.tr o1).tr o2) (by omega) (by omega) (by omega)
      refine ⟨M3, ?_, o3⟩
      simp (disch := omega) only [zlit, zI_add, zI_sub, zI_mul, zI_neg, zI_lt, zI_le, zI_eq, zI_cl, zI_max, zI_min, zI_abs, bnd_ok, bnd_ex, lm_eq, li_eq, grd_inb, grd_ser, grd_z, grd_lt, if_true, if_false, if_pos, if_neg, St_at_z, e1, e2, e3]
theorem Q_isConsistent : AgR fn_SA_isConsistent [] fn_Mo_isConsistent := by
  intro M N A H K
  obtain ⟨M1, e1, o1⟩ := c_consistent_2 H 2000 0 M (Off.rf M) (by omega) (by omega) (by omega)
  refine .inl ⟨zI 1, ⟨M1, ?_, o1⟩, MR.of (fun M' K' => ?_)⟩
  · unfold fn_SA_isConsistent fuel0
    simp (disch := omega) only [zlit, zI_add, zI_sub, zI_mul, zI_neg, zI_lt, zI_le, zI_eq, zI_cl, zI_max, zI_min, zI_abs, bnd_ok, bnd_ex, lm_eq, li_eq, grd_inb, grd_ser, grd_z, grd_lt, if_true, if_false, if_pos, if_neg, e1]
  · unfold fn_Mo_isConsistent
    simp (disch := omega) only [zlit, zI_add, zI_sub, zI_mul, zI_neg, zI_lt, zI_le, zI_eq, zI_cl, zI_max, zI_min, zI_abs, bnd_ok, bnd_ex, lm_eq, li_eq, grd_inb, grd_ser, grd_z, grd_lt, if_true, if_false, if_pos, if_neg, mo_plain]
