theorem Q_sum {p f t : Int} (hp : -2147483648 ≤ p ∧ p < 2147483648) (hf : -2147483648 ≤ f ∧ f < 2147483648) (ht : -2147483648 ≤ t ∧ t < 2147483648) : AgR (fn_SA_sum (zI p) (zI f) (zI t)) [(0, 1)] (fn_Mo_sum (zI p) (zI f) (zI t)) := by
  intro M N A H K
  by_cases c : 0 ≤ p ∧ p < 4
  · have h := H p c.1 c.2
    have hn := h.n
    by_cases c2 : 0 ≤ f ∧ f ≤ t ∧ t < N p
    · refine .inl ⟨zI (sumF (A p) f (t + 1) 0), CR.of ?_, MR.of (fun M' K' => ?_)⟩
      · unfold fn_SA_sum
        simp (disch := omega) only [zlit, zI_add, zI_sub, zI_mul, zI_neg, zI_lt, zI_le, zI_eq, zI_cl, zI_max, zI_min, zI_abs, bnd_ok, bnd_ex, lm_eq, li_eq, grd_inb, grd_ser, grd_z, grd_lt, if_true, if_false, if_pos, if_neg, SA_range c h, h.total]
      · have k := K' p c.1 c.2
        have k2 := k.set (k := 32) (by decide) 6 (zI 0)
        unfold fn_Mo_sum fn_Mo_summing
        simp (disch := omega) only [zlit, zI_add, zI_sub, zI_mul, zI_neg, zI_lt, zI_le, zI_eq, zI_cl, zI_max, zI_min, zI_abs, bnd_ok, bnd_ex, lm_eq, li_eq, grd_inb, grd_ser, grd_z, grd_lt, if_true, if_false, if_pos, if_neg, mo_range k, mo_checked, Int.sub_self, k2.total]
    · refine .inr ⟨0, 0, 1, CR.of ?_, rfl, by decide, MR.of (fun M' K' => ?_)⟩
      · unfold fn_SA_sum
        simp (disch := omega) only [zlit, zI_add, zI_sub, zI_mul, zI_neg, zI_lt, zI_le, zI_eq, zI_cl, zI_max, zI_min, zI_abs, bnd_ok, bnd_ex, lm_eq, li_eq, grd_inb, grd_ser, grd_z, grd_lt, if_true, if_false, if_pos, if_neg, SA_range_no c h]
      · have k := K' p c.1 c.2
        unfold fn_Mo_sum fn_Mo_summing
        simp (disch := omega) only [zlit, zI_add, zI_sub, zI_mul, zI_neg, zI_lt, zI_le, zI_eq, zI_cl, zI_max, zI_min, zI_abs, bnd_ok, bnd_ex, lm_eq, li_eq, grd_inb, grd_ser, grd_z, grd_lt, if_true, if_false, if_pos, if_neg, mo_range k, mo_checked, Int.sub_zero]
  · refine .inr ⟨0, 0, 1, CR.of ?_, rfl, by decide, MR.of (fun M' K' => ?_)⟩
    · unfold fn_SA_sum
      simp (disch := omega) only [zlit, zI_add, zI_sub, zI_mul, zI_neg, zI_lt, zI_le, zI_eq, zI_cl, zI_max, zI_min, zI_abs, bnd_ok, bnd_ex, lm_eq, li_eq, grd_inb, grd_ser, grd_z, grd_lt, if_true, if_false, if_pos, if_neg, SA_range_no2]
    · unfold fn_Mo_sum fn_Mo_summing
      simp (disch := omega) only [zlit, zI_add, zI_sub, zI_mul, zI_neg, zI_lt, zI_le, zI_eq, zI_cl, zI_max, zI_min, zI_abs, bnd_ok, bnd_ex, lm_eq, li_eq, grd_inb, grd_ser, grd_z, grd_lt, if_true, if_false, if_pos, if_neg, mo_range_no, mo_checked, Int.sub_zero]
theorem Q_minimum {p f t : Int} (hp : -2147483648 ≤ p ∧ p < 2147483648) (hf : -2147483648 ≤ f ∧ f < 2147483648) (ht : -2147483648 ≤ t ∧ t < 2147483648) : AgR (fn_SA_minimum (zI p) (zI f) (zI t)) [(0, 1)] (fn_Mo_minimum (zI p) (zI f) (zI t)) := by
  intro M N A H K
  by_cases c : 0 ≤ p ∧ p < 4
  · have h := H p c.1 c.2
    have hn := h.n
    by_cases c2 : 0 ≤ f ∧ f ≤ t ∧ t < N p
    · refine .inl ⟨zI (minF (A p) (f + 1) (t + 1) (A p f)), CR.of ?_, MR.of (fun M' K' => ?_)⟩
      · unfold fn_SA_minimum
        simp (disch := omega) only [zlit, zI_add, zI_sub, zI_mul, zI_neg, zI_lt, zI_le, zI_eq, zI_cl, zI_max, zI_min, zI_abs, bnd_ok, bnd_ex, lm_eq, li_eq, grd_inb, grd_ser, grd_z, grd_lt, if_true, if_false, if_pos, if_neg, SA_range c h, h.least]
      · have k := K' p c.1 c.2
        have k2 := k.set (k := 32) (by decide) 6 (zI 0)
        unfold fn_Mo_minimum
        simp (disch := omega) only [zlit, zI_add, zI_sub, zI_mul, zI_neg, zI_lt, zI_le, zI_eq, zI_cl, zI_max, zI_min, zI_abs, bnd_ok, bnd_ex, lm_eq, li_eq, grd_inb, grd_ser, grd_z, grd_lt, if_true, if_false, if_pos, if_neg, mo_range k, mo_checked, Int.sub_self, k2.lowest]
    · refine .inr ⟨0, 0, 1, CR.of ?_, rfl, by decide, MR.of (fun M' K' => ?_)⟩
      · unfold fn_SA_minimum
        simp (disch := omega) only [zlit, zI_add, zI_sub, zI_mul, zI_neg, zI_lt, zI_le, zI_eq, zI_cl, zI_max, zI_min, zI_abs, bnd_ok, bnd_ex, lm_eq, li_eq, grd_inb, grd_ser, grd_z, grd_lt, if_true, if_false, if_pos, if_neg, SA_range_no c h]
      · have k := K' p c.1 c.2
        unfold fn_Mo_minimum
        simp (disch := omega) only [zlit, zI_add, zI_sub, zI_mul, zI_neg, zI_lt, zI_le, zI_eq, zI_cl, zI_max, zI_min, zI_abs, bnd_ok, bnd_ex, lm_eq, li_eq, grd_inb, grd_ser, grd_z, grd_lt, if_true, if_false, if_pos, if_neg, mo_range k, mo_checked, Int.sub_zero]
  · refine .inr ⟨0, 0, 1, CR.of ?_, rfl, by decide, MR.of (fun M' K' => ?_)⟩
    · unfold fn_SA_minimum
      simp (disch := omega) only [zlit, zI_add, zI_sub, zI_mul, zI_neg, zI_lt, zI_le, zI_eq, zI_cl, zI_max, zI_min, zI_abs, bnd_ok, bnd_ex, lm_eq, li_eq, grd_inb, grd_ser, grd_z, grd_lt, if_true, if_false, if_pos, if_neg, SA_range_no2]
    · unfold fn_Mo_minimum
      simp (disch := omega) only [zlit, zI_add, zI_sub, zI_mul, zI_neg, zI_lt, zI_le, zI_eq, zI_cl, zI_max, zI_min, zI_abs, bnd_ok, bnd_ex, lm_eq, li_eq, grd_inb, grd_ser, grd_z, grd_lt, if_true, if_false, if_pos, if_neg, mo_range_no, mo_checked, Int.sub_zero]
theorem Q_maximum {p f t : Int} (hp : -2147483648 ≤ p ∧ p < 2147483648) (hf : -2147483648 ≤ f ∧ f < 2147483648) (ht : -2147483648 ≤ t ∧ t < 2147483648) : AgR (fn_SA_maximum (zI p) (zI f) (zI t)) [(0, 1)] (fn_Mo_maximum (zI p) (zI f) (zI t)) := by
  intro M N A H K
  by_cases c : 0 ≤ p ∧ p < 4
  · have h := H p c.1 c.2
    have hn := h.n
    by_cases c2 : 0 ≤ f ∧ f ≤ t ∧ t < N p
    · refine .inl ⟨zI (maxF (A p) (f + 1) (t + 1) (A p f)), CR.of ?_, MR.of (fun M' K' => ?_)⟩
      · unfold fn_SA_maximum
        simp (disch := omega) only [zlit, zI_add, zI_sub, zI_mul, zI_neg, zI_lt, zI_le, zI_eq, zI_cl, zI_max, zI_min, zI_abs, bnd_ok, bnd_ex, lm_eq, li_eq, grd_inb, grd_ser, grd_z, grd_lt, if_true, if_false, if_pos, if_neg, SA_range c h, h.greatest]
      · have k := K' p c.1 c.2
        have k2 := k.set (k := 32) (by decide) 6 (zI 0)
        unfold fn_Mo_maximum
        simp (disch := omega) only [zlit, zI_add, zI_sub, zI_mul, zI_neg, zI_lt, zI_le, zI_eq, zI_cl, zI_max, zI_min, zI_abs, bnd_ok, bnd_ex, lm_eq, li_eq, grd_inb, grd_ser, grd_z, grd_lt, if_true, if_false, if_pos, if_neg, mo_range k, mo_checked, Int.sub_self, k2.highest]
    · refine .inr ⟨0, 0, 1, CR.of ?_, rfl, by decide, MR.of (fun M' K' => ?_)⟩
      · unfold fn_SA_maximum
        simp (disch := omega) only [zlit, zI_add, zI_sub, zI_mul, zI_neg, zI_lt, zI_le, zI_eq, zI_cl, zI_max, zI_min, zI_abs, bnd_ok, bnd_ex, lm_eq, li_eq, grd_inb, grd_ser, grd_z, grd_lt, if_true, if_false, if_pos, if_neg, SA_range_no c h]
      · have k := K' p c.1 c.2
        unfold fn_Mo_maximum
        simp (disch := omega) only [zlit, zI_add, zI_sub, zI_mul, zI_neg, zI_lt, zI_le, zI_eq, zI_cl, zI_max, zI_min, zI_abs, bnd_ok, bnd_ex, lm_eq, li_eq, grd_inb, grd_ser, grd_z, grd_lt, if_true, if_false, if_pos, if_neg, mo_range k, mo_checked, Int.sub_zero]
  · refine .inr ⟨0, 0, 1, CR.of ?_, rfl, by decide, MR.of (fun M' K' => ?_)⟩
    · unfold fn_SA_maximum
      simp (disch := omega) only [zlit, zI_add, zI_sub, zI_mul, zI_neg, zI_lt, zI_le, zI_eq, zI_cl, zI_max, zI_min, zI_abs, bnd_ok, bnd_ex, lm_eq, li_eq, grd_inb, grd_ser, grd_z, grd_lt, if_true, if_false, if_pos, if_neg, SA_range_no2]
    · unfold fn_Mo_maximum
      simp (disch := omega) only [zlit, zI_add, zI_sub, zI_mul, zI_neg, zI_lt, zI_le, zI_eq, zI_cl, zI_max, zI_min, zI_abs, bnd_ok, bnd_ex, lm_eq, li_eq, grd_inb, grd_ser, grd_z, grd_lt, if_true, if_false, if_pos, if_neg, mo_range_no, mo_checked, Int.sub_zero]
theorem Q_countAbove {p t : Int} (hp : -2147483648 ≤ p ∧ p < 2147483648) (ht : -2147483648 ≤ t ∧ t < 2147483648) : AgR (fn_SA_countAbove (zI p) (zI t)) [(0, 1)] (fn_Mo_countAbove (zI p) (zI t)) := by
  intro M N A H K
  by_cases c : 0 ≤ p ∧ p < 4
  · have h := H p c.1 c.2
    have hn := h.n
    refine .inl ⟨zI (cntF (fun x => decide (t < A p x)) 0 (N p) 0), CR.of ?_, MR.of (fun M' K' => ?_)⟩
    · unfold fn_SA_countAbove
      simp (disch := omega) only [zlit, zI_add, zI_sub, zI_mul, zI_neg, zI_lt, zI_le, zI_eq, zI_cl, zI_max, zI_min, zI_abs, bnd_ok, bnd_ex, lm_eq, li_eq, grd_inb, grd_ser, grd_z, grd_lt, if_true, if_false, if_pos, if_neg, SA_in, h.countOver]
    · have k := K' p c.1 c.2
      have k2 := k.set (k := 32) (by decide) 6 (zI 0)
      unfold fn_Mo_countAbove fuel0
      simp (disch := omega) only [zlit, zI_add, zI_sub, zI_mul, zI_neg, zI_lt, zI_le, zI_eq, zI_cl, zI_max, zI_min, zI_abs, bnd_ok, bnd_ex, lm_eq, li_eq, grd_inb, grd_ser, grd_z, grd_lt, if_true, if_false, if_pos, if_neg, mo_slot, mo_checked, Int.sub_self, m_countAbove_18 k2]
  · refine .inr ⟨0, 0, 1, CR.of ?_, rfl, by decide, MR.of (fun M' K' => ?_)⟩
    · unfold fn_SA_countAbove
      simp (disch := omega) only [zlit, zI_add, zI_sub, zI_mul, zI_neg, zI_lt, zI_le, zI_eq, zI_cl, zI_max, zI_min, zI_abs, bnd_ok, bnd_ex, lm_eq, li_eq, grd_inb, grd_ser, grd_z, grd_lt, if_true, if_false, if_pos, if_neg, SA_in_no]
    · unfold fn_Mo_countAbove
      simp (disch := omega) only [zlit, zI_add, zI_sub, zI_mul, zI_neg, zI_lt, zI_le, zI_eq, zI_cl, zI_max, zI_min, zI_abs, bnd_ok, bnd_ex, lm_eq, li_eq, grd_inb, grd_ser, grd_z, grd_lt, if_true, if_false, if_pos, if_neg, mo_slot, mo_checked, Int.sub_zero]
theorem Q_valueByRank {p r : Int} (hp : -2147483648 ≤ p ∧ p < 2147483648) (hr : -2147483648 ≤ r ∧ r < 2147483648) : AgR (fn_SA_valueByRank (zI p) (zI r)) [(0, 1), (3, 2)] (fn_Mo_valueByRank (zI p) (zI r)) := by
  intro M N A H K
  by_cases c : 0 ≤ p ∧ p < 4
  · have h := H p c.1 c.2
    have hn := h.n
    by_cases c2 : 0 ≤ r ∧ r < N p
    · refine .inl ⟨zI (vrkF (A p) (N p) r 0), CR.of ?_, MR.of (fun M' K' => ?_)⟩
      · unfold fn_SA_valueByRank vrkF
        rcases fs_is (p := fun x => decide (rnkF (A p) (N p) x = r)) 0 (N p) with ⟨e, -⟩ | ⟨e1, e2, -, -⟩
        · simp (disch := omega) only [zlit, zI_add, zI_sub, zI_mul, zI_neg, zI_lt, zI_le, zI_eq, zI_cl, zI_max, zI_min, zI_abs, bnd_ok, bnd_ex, lm_eq, li_eq, grd_inb, grd_ser, grd_z, grd_lt, if_true, if_false, if_pos, if_neg, SA_in, h.has, h.ofRank c2, e, se_at_neg]
        · simp (disch := omega) only [zlit, zI_add, zI_sub, zI_mul, zI_neg, zI_lt, zI_le, zI_eq, zI_cl, zI_max, zI_min, zI_abs, bnd_ok, bnd_ex, lm_eq, li_eq, grd_inb, grd_ser, grd_z, grd_lt, if_true, if_false, if_pos, if_neg, SA_in, h.has, h.ofRank c2, h.at]
      · have k := K' p c.1 c.2
        have k2 := k.set (k := 32) (by decide) 6 (zI 0)
        unfold fn_Mo_valueByRank
        simp (disch := omega) only [zlit, zI_add, zI_sub, zI_mul, zI_neg, zI_lt, zI_le, zI_eq, zI_cl, zI_max, zI_min, zI_abs, bnd_ok, bnd_ex, lm_eq, li_eq, grd_inb, grd_ser, grd_z, grd_lt, if_true, if_false, if_pos, if_neg, mo_slot, mo_in, k.many, fn_Mo_valueByRank_32, mset_at, fuel0, m_valueByRank_46 k2 c2]
    · refine .inr ⟨3, 0, 2, CR.of ?_, rfl, by decide, MR.of (fun M' K' => ?_)⟩
      · unfold fn_SA_valueByRank
        simp (disch := omega) only [zlit, zI_add, zI_sub, zI_mul, zI_neg, zI_lt, zI_le, zI_eq, zI_cl, zI_max, zI_min, zI_abs, bnd_ok, bnd_ex, lm_eq, li_eq, grd_inb, grd_ser, grd_z, grd_lt, if_true, if_false, if_pos, if_neg, SA_in, h.hasn]
      · have k := K' p c.1 c.2
        unfold fn_Mo_valueByRank
        simp (disch := omega) only [zlit, zI_add, zI_sub, zI_mul, zI_neg, zI_lt, zI_le, zI_eq, zI_cl, zI_max, zI_min, zI_abs, bnd_ok, bnd_ex, lm_eq, li_eq, grd_inb, grd_ser, grd_z, grd_lt, if_true, if_false, if_pos, if_neg, mo_slot, mo_in, k.many, fn_Mo_valueByRank_32, mset_at]
  · refine .inr ⟨0, 0, 1, CR.of ?_, rfl, by decide, MR.of (fun M' K' => ?_)⟩
    · unfold fn_SA_valueByRank
      simp (disch := omega) only [zlit, zI_add, zI_sub, zI_mul, zI_neg, zI_lt, zI_le, zI_eq, zI_cl, zI_max, zI_min, zI_abs, bnd_ok, bnd_ex, lm_eq, li_eq, grd_inb, grd_ser, grd_z, grd_lt, if_true, if_false, if_pos, if_neg, SA_in_no]
    · unfold fn_Mo_valueByRank
      simp (disch := omega) only [zlit, zI_add, zI_sub, zI_mul, zI_neg, zI_lt, zI_le, zI_eq, zI_cl, zI_max, zI_min, zI_abs, bnd_ok, bnd_ex, lm_eq, li_eq, grd_inb, grd_ser, grd_z, grd_lt, if_true, if_false, if_pos, if_neg, mo_slot, fn_Mo_valueByRank_32, mset_at]
theorem SA_win {M : Mm} {s w i n : Int} {a : Int → Int} (hs : 0 ≤ s ∧ s < 4) (h : Ser M (s.toNat + 2) n a) (hi : 0 ≤ i ∧ i < n) (hw : 1 ≤ w ∧ w ≤ n) (hiw : 0 ≤ i - w + 1) : fn_SA_seriesWithWindow (zI s) (zI w) (zI i) M = some (.inl (s.toNat + 2), M) := by
  have hn := h.n
  unfold fn_SA_seriesWithWindow
  simp (disch := omega) only [zlit, zI_add, zI_sub, zI_mul, zI_neg, zI_lt, zI_le, zI_eq, zI_cl, zI_max, zI_min, zI_abs, bnd_ok, bnd_ex, lm_eq, li_eq, grd_inb, grd_ser, grd_z, grd_lt, if_true, if_false, if_pos, if_neg, SA_with hs h, h.size]
theorem SA_win_1 {M : Mm} {s w i n : Int} {a : Int → Int} (hs : 0 ≤ s ∧ s < 4) (h : Ser M (s.toNat + 2) n a) (hi : 0 ≤ i ∧ i < n) (hr : -2147483648 ≤ w ∧ w < 2147483648) (hw : ¬ (1 ≤ w ∧ w ≤ n)) : fn_SA_seriesWithWindow (zI s) (zI w) (zI i) M = some (.inr 1, M) := by
  have hn := h.n
  unfold fn_SA_seriesWithWindow
  by_cases c : w < 1
  · simp (disch := omega) only [zlit, zI_add, zI_sub, zI_mul, zI_neg, zI_lt, zI_le, zI_eq, zI_cl, zI_max, zI_min, zI_abs, bnd_ok, bnd_ex, lm_eq, li_eq, grd_inb, grd_ser, grd_z, grd_lt, if_true, if_false, if_pos, if_neg, SA_with hs h, h.size]
  · simp (disch := omega) only [zlit, zI_add, zI_sub, zI_mul, zI_neg, zI_lt, zI_le, zI_eq, zI_cl, zI_max, zI_min, zI_abs, bnd_ok, bnd_ex, lm_eq, li_eq, grd_inb, grd_ser, grd_z, grd_lt, if_true, if_false, if_pos, if_neg, SA_with hs h, h.size]
theorem SA_win_3 {M : Mm} {s w i n : Int} {a : Int → Int} (hs : 0 ≤ s ∧ s < 4) (h : Ser M (s.toNat + 2) n a) (hi : 0 ≤ i ∧ i < n) (hw : 1 ≤ w ∧ w ≤ n) (hiw : i - w + 1 < 0) : fn_SA_seriesWithWindow (zI s) (zI w) (zI i) M = some (.inr 3, M) := by
  have hn := h.n
  unfold fn_SA_seriesWithWindow
  simp (disch := omega) only [zlit, zI_add, zI_sub, zI_mul, zI_neg, zI_lt, zI_le, zI_eq, zI_cl, zI_max, zI_min, zI_abs, bnd_ok, bnd_ex, lm_eq, li_eq, grd_inb, grd_ser, grd_z, grd_lt, if_true, if_false, if_pos, if_neg, SA_with hs h, h.size]
theorem SA_win_0 {M : Mm} {s w i n : Int} {a : Int → Int} (hs : 0 ≤ s ∧ s < 4) (h : Ser M (s.toNat + 2) n a) (hr : -2147483648 ≤ i ∧ i < 2147483648) (hi : ¬ (0 ≤ i ∧ i < n)) : fn_SA_seriesWithWindow (zI s) (zI w) (zI i) M = some (.inr 0, M) := by
  have hn := h.n
  unfold fn_SA_seriesWithWindow
  simp (disch := omega) only [zlit, zI_add, zI_sub, zI_mul, zI_neg, zI_lt, zI_le, zI_eq, zI_cl, zI_max, zI_min, zI_abs, bnd_ok, bnd_ex, lm_eq, li_eq, grd_inb, grd_ser, grd_z, grd_lt, if_true, if_false, if_pos, if_neg, SA_with_no hs h]
theorem SA_win_00 {M : Mm} {s w i : Int} (hr : -2147483648 ≤ s ∧ s < 2147483648) (hs : ¬ (0 ≤ s ∧ s < 4)) : fn_SA_seriesWithWindow (zI s) (zI w) (zI i) M = some (.inr 0, M) := by
  unfold fn_SA_seriesWithWindow
  simp (disch := omega) only [zlit, zI_add, zI_sub, zI_mul, zI_neg, zI_lt, zI_le, zI_eq, zI_cl, zI_max, zI_min, zI_abs, bnd_ok, bnd_ex, lm_eq, li_eq, grd_inb, grd_ser, grd_z, grd_lt, if_true, if_false, if_pos, if_neg, SA_with_no2]
theorem mo_win {N : Int → Int} {A : Int → Int → Int} {p w i : Int} (c : 0 ≤ p ∧ p < 4) (hi : 0 ≤ i ∧ i < N p) (hw : 1 ≤ w ∧ w ≤ N p) (hiw : 0 ≤ i - w + 1) : ∀ M, Ms N A M → fn_Mo_window (zI p) (zI w) (zI i) M = some (.inl (zI (maxF (A p) (i - w + 1 + 1) (i + 1) (A p (i - w + 1)))), mset M 32 6 0) := by
  intro M' K'
  have k := K' p c.1 c.2
  have hn := k.n
  have k2 := k.set (k := 32) (by decide) 6 (zI 0)
  unfold fn_Mo_window
  simp (disch := omega) only [zlit, zI_add, zI_sub, zI_mul, zI_neg, zI_lt, zI_le, zI_eq, zI_cl, zI_max, zI_min, zI_abs, bnd_ok, bnd_ex, lm_eq, li_eq, grd_inb, grd_ser, grd_z, grd_lt, if_true, if_false, if_pos, if_neg, k.index, mo_in, k.many, fn_Mo_window_43, mset_at, k2.highest]
theorem mo_win_1 {N : Int → Int} {A : Int → Int → Int} {p w i : Int} (c : 0 ≤ p ∧ p < 4) (hi : 0 ≤ i ∧ i < N p) (hr : -2147483648 ≤ w ∧ w < 2147483648) (hw : ¬ (1 ≤ w ∧ w ≤ N p)) : ∀ M, Ms N A M → fn_Mo_window (zI p) (zI w) (zI i) M = some (.inl 0, mset M 32 6 2) := by
  intro M' K'
  have k := K' p c.1 c.2
  have hn := k.n
  unfold fn_Mo_window
  simp (disch := omega) only [zlit, zI_add, zI_sub, zI_mul, zI_neg, zI_lt, zI_le, zI_eq, zI_cl, zI_max, zI_min, zI_abs, bnd_ok, bnd_ex, lm_eq, li_eq, grd_inb, grd_ser, grd_z, grd_lt, if_true, if_false, if_pos, if_neg, k.index, mo_in, k.many, fn_Mo_window_43, mset_at]
theorem mo_win_3 {N : Int → Int} {A : Int → Int → Int} {p w i : Int} (c : 0 ≤ p ∧ p < 4) (hi : 0 ≤ i ∧ i < N p) (hw : 1 ≤ w ∧ w ≤ N p) (hiw : i - w + 1 < 0) : ∀ M, Ms N A M → fn_Mo_window (zI p) (zI w) (zI i) M = some (.inl 0, mset M 32 6 3) := by
  intro M' K'
  have k := K' p c.1 c.2
  have hn := k.n
  unfold fn_Mo_window
  simp (disch := omega) only [zlit, zI_add, zI_sub, zI_mul, zI_neg, zI_lt, zI_le, zI_eq, zI_cl, zI_max, zI_min, zI_abs, bnd_ok, bnd_ex, lm_eq, li_eq, grd_inb, grd_ser, grd_z, grd_lt, if_true, if_false, if_pos, if_neg, k.index, mo_in, k.many, fn_Mo_window_43, mset_at]
theorem mo_win_0 {N : Int → Int} {A : Int → Int → Int} {p w i : Int} (c : 0 ≤ p ∧ p < 4) (hr : -2147483648 ≤ i ∧ i < 2147483648) (hi : ¬ (0 ≤ i ∧ i < N p)) : ∀ M, Ms N A M → fn_Mo_window (zI p) (zI w) (zI i) M = some (.inl 0, mset M 32 6 1) := by
  intro M' K'
  have k := K' p c.1 c.2
  have hn := k.n
  unfold fn_Mo_window
  simp (disch := omega) only [zlit, zI_add, zI_sub, zI_mul, zI_neg, zI_lt, zI_le, zI_eq, zI_cl, zI_max, zI_min, zI_abs, bnd_ok, bnd_ex, lm_eq, li_eq, grd_inb, grd_ser, grd_z, grd_lt, if_true, if_false, if_pos, if_neg, k.index, fn_Mo_window_43, mset_at]
theorem mo_win_00 {N : Int → Int} {A : Int → Int → Int} {p w i : Int} (hr : -2147483648 ≤ p ∧ p < 2147483648) (c : ¬ (0 ≤ p ∧ p < 4)) : ∀ M, Ms N A M → fn_Mo_window (zI p) (zI w) (zI i) M = some (.inl 0, mset M 32 6 1) := by
  intro M' K'
  unfold fn_Mo_window
  simp (disch := omega) only [zlit, zI_add, zI_sub, zI_mul, zI_neg, zI_lt, zI_le, zI_eq, zI_cl, zI_max, zI_min, zI_abs, bnd_ok, bnd_ex, lm_eq, li_eq, grd_inb, grd_ser, grd_z, grd_lt, if_true, if_false, if_pos, if_neg, mo_index_no, fn_Mo_window_43, mset_at]
/-- a window's call, out of what the class does where all is fine -/
theorem Q_win {f : Int32 → Int32 → Int32 → Mm → Rs Int32} {g : Int32 → Int32 → Int32 → Mm → Rs Int32} {p w i : Int} (hp : -2147483648 ≤ p ∧ p < 2147483648) (hw : -2147483648 ≤ w ∧ w < 2147483648) (hi : -2147483648 ≤ i ∧ i < 2147483648)
    (hg : ∀ M, g (zI p) (zI w) (zI i) M = bnd (fn_Mo_window (zI p) (zI w) (zI i) M) (fun r M => some (.inl r, M)))
    (hf1 : ∀ M N A, Cs N A M → 0 ≤ p ∧ p < 4 → 0 ≤ i ∧ i < N p → 1 ≤ w ∧ w ≤ N p → 0 ≤ i - w + 1 → CR (f (zI p) (zI w) (zI i) M) M (.inl (zI (maxF (A p) (i - w + 1 + 1) (i + 1) (A p (i - w + 1))))))
    (hf2 : ∀ M q, fn_SA_seriesWithWindow (zI p) (zI w) (zI i) M = some (.inr q, M) → f (zI p) (zI w) (zI i) M = some (.inr q, M)) : AgR (f (zI p) (zI w) (zI i)) [(0, 1), (1, 2), (3, 3)] (g (zI p) (zI w) (zI i)) := by
  intro M N A H K
  by_cases c : 0 ≤ p ∧ p < 4
  · have h := H p c.1 c.2
    have hn := h.n
    by_cases c2 : 0 ≤ i ∧ i < N p
    · by_cases c3 : 1 ≤ w ∧ w ≤ N p
      · by_cases c4 : 0 ≤ i - w + 1
        · exact .inl ⟨_, hf1 M N A H c c2 c3 c4, MR.of (fun M' K' => by rw [hg, mo_win c c2 c3 c4 M' K']; rfl)⟩
        · exact .inr ⟨3, 0, 3, CR.of (hf2 M 3 (SA_win_3 c h c2 c3 (by omega))), rfl, by decide, MR.of (fun M' K' => by rw [hg, mo_win_3 c c2 c3 (by omega) M' K']; rfl)⟩
      · exact .inr ⟨1, 0, 2, CR.of (hf2 M 1 (SA_win_1 c h c2 hw c3)), rfl, by decide, MR.of (fun M' K' => by rw [hg, mo_win_1 c c2 hw c3 M' K']; rfl)⟩
    · exact .inr ⟨0, 0, 1, CR.of (hf2 M 0 (SA_win_0 c h hi c2)), rfl, by decide, MR.of (fun M' K' => by rw [hg, mo_win_0 c hi c2 M' K']; rfl)⟩
  · exact .inr ⟨0, 0, 1, CR.of (hf2 M 0 (SA_win_00 hp c)), rfl, by decide, MR.of (fun M' K' => by rw [hg, mo_win_00 hp c M' K']; rfl)⟩
theorem Q_windowMaximumByScan {p w i : Int} (hp : -2147483648 ≤ p ∧ p < 2147483648) (hw : -2147483648 ≤ w ∧ w < 2147483648) (hi : -2147483648 ≤ i ∧ i < 2147483648) : AgR (fn_SA_windowMaximumByScan (zI p) (zI w) (zI i)) [(0, 1), (1, 2), (3, 3)] (fn_Mo_windowMaximumByScan (zI p) (zI w) (zI i)) := by
  refine Q_win (f := fn_SA_windowMaximumByScan) (g := fn_Mo_windowMaximumByScan) hp hw hi (fun M => rfl) (fun M N A H c c2 c3 c4 => CR.of ?_) (fun M q e => ?_)
  · have h := H p c.1 c.2
    have hn := h.n
    unfold fn_SA_windowMaximumByScan
    simp (disch := omega) only [zlit, zI_add, zI_sub, zI_mul, zI_neg, zI_lt, zI_le, zI_eq, zI_cl, zI_max, zI_min, zI_abs, bnd_ok, bnd_ex, lm_eq, li_eq, grd_inb, grd_ser, grd_z, grd_lt, if_true, if_false, if_pos, if_neg, SA_win c h, h.greatest]
  · unfold fn_SA_windowMaximumByScan
    rw [e]
    rfl
theorem c_nextAboveByScan_4 {M : Mm} {v : Nat} {n : Int} {a : Int → Int} (h : Ser M v n a) {t : Int} (ht : 0 ≤ t ∧ t < n) : ∀ (k : Nat) (i : Int), 0 ≤ i → i ≤ n → n - i < k → fn_Ra_nextAboveByScan_4 v (zI t) k (zI i) M = some (.inl (zI (fs (fun x => decide (a t < a x)) i n)), M) := by
  have hv := h.v
  have hn := h.n
  have b2 := h.b t
  intro k
  induction k with
  | zero => intros; omega
  | succ k ih =>
    intro i h0 h1 h2
    have b1 := h.b i
    rw [fn_Ra_nextAboveByScan_4]
    by_cases c : n ≤ i
    · simp (disch := omega) only [zlit, zI_add, zI_sub, zI_mul, zI_neg, zI_lt, zI_le, zI_eq, zI_cl, zI_max, zI_min, zI_abs, bnd_ok, bnd_ex, lm_eq, li_eq, grd_inb, grd_ser, grd_z, grd_lt, if_true, if_false, if_pos, if_neg, h.size, fd_stop]
    · by_cases c2 : a t < a i
      · simp (disch := omega) only [zlit, zI_add, zI_sub, zI_mul, zI_neg, zI_lt, zI_le, zI_eq, zI_cl, zI_max, zI_min, zI_abs, bnd_ok, bnd_ex, lm_eq, li_eq, grd_inb, grd_ser, grd_z, grd_lt, if_true, if_false, if_pos, if_neg, h.size, h.at, fd_hit]
      · simp (disch := omega) only [zlit, zI_add, zI_sub, zI_mul, zI_neg, zI_lt, zI_le, zI_eq, zI_cl, zI_max, zI_min, zI_abs, bnd_ok, bnd_ex, lm_eq, li_eq, grd_inb, grd_ser, grd_z, grd_lt, if_true, if_false, if_pos, if_neg, h.size, h.at]
        simp (disch := omega) only [ih, fd_miss]
theorem Ser.nextScan {M : Mm} {v : Nat} {n : Int} {a : Int → Int} (h : Ser M v n a) {t : Int} (ht : 0 ≤ t ∧ t < n) : fn_Ra_nextAboveByScan v (zI t) M = some (.inl (zI (fs (fun x => decide (a t < a x)) (t + 1) n)), M) := by
  have hv := h.v
  have hn := h.n
  unfold fn_Ra_nextAboveByScan fuel0
  simp (disch := omega) only [zlit, zI_add, zI_sub, zI_mul, zI_neg, zI_lt, zI_le, zI_eq, zI_cl, zI_max, zI_min, zI_abs, bnd_ok, bnd_ex, lm_eq, li_eq, grd_inb, grd_ser, grd_z, grd_lt, if_true, if_false, if_pos, if_neg, c_nextAboveByScan_4 h ht]
theorem m_later_19 {M : Mm} {v n : Int} {a : Int → Int} (h : Mse M v n a) {t : Int} (ht : 0 ≤ t ∧ t < n) : ∀ (k : Nat) (i : Int), 0 ≤ i → i ≤ n → n - i < k → fn_Mo_later_19 (zI v) (zI t) k (zI i) M = if fs (fun x => decide (a t < a x)) i n = -1 then some (.inl 0, mset M 32 6 2) else some (.inl (zI (fs (fun x => decide (a t < a x)) i n)), M) := by
  have hv := h.s
  have hn := h.n
  have b2 := h.b t
  intro k
  induction k with
  | zero => intros; omega
  | succ k ih =>
    intro i h0 h1 h2
    have b1 := h.b i
    rw [fn_Mo_later_19]
    by_cases c : n ≤ i
    · simp (disch := omega) only [zlit, zI_add, zI_sub, zI_mul, zI_neg, zI_lt, zI_le, zI_eq, zI_cl, zI_max, zI_min, zI_abs, bnd_ok, bnd_ex, lm_eq, li_eq, grd_inb, grd_ser, grd_z, grd_lt, if_true, if_false, if_pos, if_neg, h.many, fn_Mo_later_51, mo_fail, fd_stop]
    · by_cases c2 : a t < a i
      · simp (disch := omega) only [zlit, zI_add, zI_sub, zI_mul, zI_neg, zI_lt, zI_le, zI_eq, zI_cl, zI_max, zI_min, zI_abs, bnd_ok, bnd_ex, lm_eq, li_eq, grd_inb, grd_ser, grd_z, grd_lt, if_true, if_false, if_pos, if_neg, h.many, h.at, fd_hit]
      · simp (disch := omega) only [zlit, zI_add, zI_sub, zI_mul, zI_neg, zI_lt, zI_le, zI_eq, zI_cl, zI_max, zI_min, zI_abs, bnd_ok, bnd_ex, lm_eq, li_eq, grd_inb, grd_ser, grd_z, grd_lt, if_true, if_false, if_pos, if_neg, h.many, h.at]
        simp (disch := omega) only [ih, fd_miss, zlit]
theorem Q_later {f : Int32 → Int32 → Mm → Rs Int32} {g : Int32 → Int32 → Mm → Rs Int32} {p i : Int} (hp : -2147483648 ≤ p ∧ p < 2147483648) (hi : -2147483648 ≤ i ∧ i < 2147483648)
    (hg : ∀ M, g (zI p) (zI i) M = bnd (fn_Mo_later (zI p) (zI i) M) (fun r M => some (.inl r, M)))
    (hf1 : ∀ M N A, Cs N A M → 0 ≤ p ∧ p < 4 → 0 ≤ i ∧ i < N p → ∃ M1, Off M M1 ∧ f (zI p) (zI i) M = fn_SA_found (zI (fs (fun x => decide (A p i < A p x)) (i + 1) (N p))) M1)
    (hf2 : ∀ M q, fn_SA_seriesWith (zI p) (zI i) M = some (.inr q, M) → f (zI p) (zI i) M = some (.inr q, M)) : AgR (f (zI p) (zI i)) [(0, 1), (3, 2)] (g (zI p) (zI i)) := by
  intro M N A H K
  by_cases c : 0 ≤ p ∧ p < 4
  · have h := H p c.1 c.2
    have hn := h.n
    by_cases c2 : 0 ≤ i ∧ i < N p
    · obtain ⟨M1, o1, e1⟩ := hf1 M N A H c c2
      have hm : ∀ M', Ms N A M' → g (zI p) (zI i) M' = bnd (fn_Mo_later_19 (zI p) (zI i) 2000 (zI (i + 1)) (mset M' 32 6 (zI 0))) (fun r M => some (.inl r, M)) := fun M' K' => by
        have k := K' p c.1 c.2
        rw [hg]
        unfold fn_Mo_later fuel0
        simp (disch := omega) only [zlit, zI_add, zI_sub, zI_mul, zI_neg, zI_lt, zI_le, zI_eq, zI_cl, zI_max, zI_min, zI_abs, bnd_ok, bnd_ex, lm_eq, li_eq, grd_inb, grd_ser, grd_z, grd_lt, if_true, if_false, if_pos, if_neg, k.index, mo_checked, Int.sub_self]
      by_cases c3 : fs (fun x => decide (A p i < A p x)) (i + 1) (N p) = -1
      · refine .inr ⟨3, 0, 2, ⟨M1, ?_, o1⟩, rfl, by decide, MR.of (fun M' K' => ?_)⟩
        · rw [e1, c3]
          rfl
        · have k2 := (K' p c.1 c.2).set (k := 32) (by decide) 6 (zI 0)
          rw [hm M' K', m_later_19 k2 c2 2000 (i + 1) (by omega) (by omega) (by omega), if_pos c3, mset_mset]
          rfl
      · have e9 := fs_is (p := fun x => decide (A p i < A p x)) (i + 1) (N p)
        refine .inl ⟨zI (fs (fun x => decide (A p i < A p x)) (i + 1) (N p)), ⟨M1, ?_, o1⟩, MR.of (fun M' K' => ?_)⟩
        · rw [e1]
          unfold fn_SA_found
          rcases e9 with e9 | e9
          · exact absurd e9.1 c3
          · have e91 := e9.1
            have e92 := e9.2.1
            simp (disch := omega) only [zlit, zI_add, zI_sub, zI_mul, zI_neg, zI_lt, zI_le, zI_eq, zI_cl, zI_max, zI_min, zI_abs, bnd_ok, bnd_ex, lm_eq, li_eq, grd_inb, grd_ser, grd_z, grd_lt, if_true, if_false, if_pos, if_neg]
        · have k2 := (K' p c.1 c.2).set (k := 32) (by decide) 6 (zI 0)
          rw [hm M' K', m_later_19 k2 c2 2000 (i + 1) (by omega) (by omega) (by omega), if_neg c3]
          rfl
    · refine .inr ⟨0, 0, 1, CR.of (hf2 M 0 (SA_with_no c h hi (by omega))), rfl, by decide, MR.of (fun M' K' => ?_)⟩
      have k := K' p c.1 c.2
      rw [hg]
      unfold fn_Mo_later
      simp (disch := omega) only [zlit, zI_add, zI_sub, zI_mul, zI_neg, zI_lt, zI_le, zI_eq, zI_cl, zI_max, zI_min, zI_abs, bnd_ok, bnd_ex, lm_eq, li_eq, grd_inb, grd_ser, grd_z, grd_lt, if_true, if_false, if_pos, if_neg, k.index, mo_checked, Int.sub_zero]
  · refine .inr ⟨0, 0, 1, CR.of (hf2 M 0 (SA_with_no2 hp c)), rfl, by decide, MR.of (fun M' K' => ?_)⟩
    rw [hg]
    unfold fn_Mo_later
    simp (disch := omega) only [zlit, zI_add, zI_sub, zI_mul, zI_neg, zI_lt, zI_le, zI_eq, zI_cl, zI_max, zI_min, zI_abs, bnd_ok, bnd_ex, lm_eq, li_eq, grd_inb, grd_ser, grd_z, grd_lt, if_true, if_false, if_pos, if_neg, mo_index_no, mo_checked, Int.sub_zero]
theorem bnd_fnd {x : Rs Int32} : bnd x (fun r M => some (.inl r, M)) = x := by
  cases x with
  | none => rfl
  | some z =>
    obtain ⟨o, M⟩ := z
    cases o <;> rfl
theorem Q_nextGreaterByScan {p i : Int} (hp : -2147483648 ≤ p ∧ p < 2147483648) (hi : -2147483648 ≤ i ∧ i < 2147483648) : AgR (fn_SA_nextGreaterByScan (zI p) (zI i)) [(0, 1), (3, 2)] (fn_Mo_nextGreaterByScan (zI p) (zI i)) := by
  refine Q_later (f := fn_SA_nextGreaterByScan) (g := fn_Mo_nextGreaterByScan) hp hi (fun M => rfl) (fun M N A H c c2 => ⟨M, Off.rf M, ?_⟩) (fun M q e => ?_)
  · have h := H p c.1 c.2
    have hn := h.n
    unfold fn_SA_nextGreaterByScan
    simp (disch := omega) only [zlit, zI_add, zI_sub, zI_mul, zI_neg, zI_lt, zI_le, zI_eq, zI_cl, zI_max, zI_min, zI_abs, bnd_ok, bnd_ex, lm_eq, li_eq, grd_inb, grd_ser, grd_z, grd_lt, if_true, if_false, if_pos, if_neg, SA_with c h, h.nextScan, bnd_fnd]
  · unfold fn_SA_nextGreaterByScan
    rw [e]
    rfl
