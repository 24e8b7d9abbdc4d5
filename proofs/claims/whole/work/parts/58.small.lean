/-! SMALL CALLS: counts, places, typing, the line's letters, undo, save, restore -/
theorem StepOK.ask {x y : Mm → Rs Int32} {cs : List (Nat × Int32)} (h : ∀ M, INV M → (∃ r, x M = some (.inl r, M) ∧ ∀ M' : Mm, (∀ j, j ≠ 45 → M' j = M j) → y M' = some (.inl r, mset M' 32 6 0)) ∨ ∃ q b c, x M = some (.inr q, M) ∧ cod cs q = some c ∧ c ≠ 0 ∧ y M = some (.inl b, mset M 32 6 c)) : StepOK x cs y := by
  intro M hI
  rcases h M hI with ⟨r, e1, e2⟩ | ⟨q, b, c, e1, hc, hc0, e2⟩
  · exact .inl ⟨r, M, _, e1, e2 _ (fun j hj => mset_ne _ _ _ hj), mset_at _ _ _ _, by rw [mset_ne _ _ _ (by decide), mset_at], hI.off ((Off.sc M 45 (upd (M 45) 0 r) (by omega)).tr (Off.th _ 0))⟩
  · exact .inr ⟨q, b, c, M, _, e1, hc, hc0, e2, mset_at _ _ _ _, hI.off (Off.th _ c)⟩
theorem St_appendedTotal : StepOK fn_SA_appendedTotal [] fn_Mo_appendedTotal := by
  refine .ask fun M hI => .inl ?_
  obtain ⟨N, A, ap, d, nx, H, sv, S, ep, fl, cnt, tx, ln, lc, ⟨c1, -⟩, m1, -⟩ := hI
  refine ⟨M 1 5, rfl, fun M' he => ?_⟩
  unfold fn_Mo_appendedTotal
  rw [grd_t (by decide), show (84 : Int32).toNatClampNeg = 84 from rfl, he 33 (by decide), m1.2, ← c1.2]
  rfl
theorem St_undoableCount : StepOK fn_SA_undoableCount [] fn_Mo_undoableCount := by
  refine .ask fun M hI => .inl ?_
  obtain ⟨N, A, ap, d, nx, H, sv, S, ep, fl, cnt, tx, ln, lc, ⟨-, c2, -⟩, -, m2, -⟩ := hI
  refine ⟨M 12 2, rfl, fun M' he => ?_⟩
  unfold fn_Mo_undoableCount
  rw [he 32 (by decide), m2.1, ← c2.2.2.1]
  rfl
theorem St_errorPosition : StepOK fn_SA_errorPosition [(3, 1)] fn_Mo_errorPosition := by
  refine .ask fun M hI => ?_
  obtain ⟨N, A, ap, d, nx, H, sv, S, ep, fl, cnt, tx, ln, lc, ⟨-, -, -, c4, -⟩, -, -, -, m4, -⟩ := hI
  obtain ⟨h1, h2, h3, h4⟩ := c4
  unfold fn_SA_errorPosition fn_SA_found fn_Mo_errorPosition
  by_cases c : ep = -1
  · right
    refine ⟨3, 0, 1, ?_, rfl, by decide, ?_⟩
    · rw [h3, c, if_pos (by decide)]
      rfl
    · rw [m4.1, c]
      rfl
  · left
    refine ⟨zI ep, ?_, fun M' he => ?_⟩
    · rw [h3, if_neg (by rw [show (-1 : Int32) = zI (-1) from rfl, zI_eq (by omega) (by omega)]; exact c)]
      rfl
    · rw [he 32 (by decide), m4.1]
      unfold fn_Mo_present fn_Mo_present_10
      rw [if_neg (by rw [show (0 : Int32) = zI 0 from rfl, zI_lt (by omega) (by omega)]; omega), show (1 : Int32) = zI 1 from rfl, mo_checked (by omega), bnd_ok]
      rfl
theorem St_failedCommand : StepOK fn_SA_failedCommand [(3, 1)] fn_Mo_failedCommand := by
  refine .ask fun M hI => ?_
  obtain ⟨N, A, ap, d, nx, H, sv, S, ep, fl, cnt, tx, ln, lc, ⟨-, -, -, c4, -⟩, -, -, -, m4, -⟩ := hI
  obtain ⟨h1, h2, h3, h4⟩ := c4
  unfold fn_SA_failedCommand fn_SA_found fn_Mo_failedCommand
  by_cases c : fl = -1
  · right
    refine ⟨3, 0, 1, ?_, rfl, by decide, ?_⟩
    · rw [h4, c, if_pos (by decide)]
      rfl
    · rw [m4.2, c]
      rfl
  · left
    refine ⟨zI fl, ?_, fun M' he => ?_⟩
    · rw [h4, if_neg (by rw [show (-1 : Int32) = zI (-1) from rfl, zI_eq (by omega) (by omega)]; exact c)]
      rfl
    · rw [he 32 (by decide), m4.2]
      unfold fn_Mo_present fn_Mo_present_10
      rw [if_neg (by rw [show (0 : Int32) = zI 0 from rfl, zI_lt (by omega) (by omega)]; omega), show (1 : Int32) = zI 1 from rfl, mo_checked (by omega), bnd_ok]
      rfl
theorem nar7 : ∀ n : Fin 128, vp_nar .char (zI (n.val : Int)) = zI (n.val : Int) ∧ ((zI (n.val : Int)).toUInt32 % 65536).toInt32 = zI (n.val : Int) := by decide +kernel
theorem nar_c {v : Int} (h : 0 ≤ v ∧ v < 128) : vp_nar .char (zI v) = zI v ∧ ((zI v).toUInt32 % 65536).toInt32 = zI v := by
  have h2 : ((v.toNat : Nat) : Int) = v := Int.toNat_of_nonneg h.1
  have h3 := nar7 ⟨v.toNat, by omega⟩
  simp only [h2] at h3
  exact h3
theorem St_lineChar {v : Int} (hv : -2147483648 ≤ v ∧ v < 2147483648) : StepOK (fn_SA_lineChar (zI v)) [(0, 1)] (fn_Mo_lineChar (zI v)) := by
  refine .ask fun M hI => ?_
  obtain ⟨N, A, ap, d, nx, H, sv, S, ep, fl, cnt, tx, ln, lc, ⟨-, -, -, -, -, c6⟩, -, -, -, -, -, m6⟩ := hI
  obtain ⟨l1, l2, l3, l4⟩ := c6
  unfold fn_SA_lineChar fn_SB_length fn_SB_charAt fn_Mo_lineChar
  by_cases c : 0 ≤ v ∧ v < ln
  · left
    refine ⟨zI (lc v), ?_, fun M' he => ?_⟩
    · simp (disch := omega) only [zlit, zI_add, zI_sub, zI_mul, zI_neg, zI_lt, zI_le, zI_eq, zI_cl, zI_max, zI_min, zI_abs, bnd_ok, bnd_ex, lm_eq, li_eq, grd_inb, grd_ser, grd_z, grd_lt, if_true, if_false, if_pos, if_neg, l2, l3 v c.1 c.2]
      exact grd_t (nar_c (l4 v)).1
    · have q1 : M' 32 12 = zI ln := by rw [he 32 (by decide)]; exact m6.1
      have q2 : mset M' 32 6 (zI (1 - 1)) 39 v.toNat = zI (lc v) := by rw [mset_ne _ _ _ (by decide), he 39 (by decide)]; exact m6.2 v c.1 c.2
      simp (disch := omega) only [zlit, zI_add, zI_sub, zI_mul, zI_neg, zI_lt, zI_le, zI_eq, zI_cl, zI_max, zI_min, zI_abs, bnd_ok, bnd_ex, lm_eq, li_eq, grd_inb, grd_ser, grd_z, grd_lt, if_true, if_false, if_pos, if_neg, q1, mo_in, mo_checked, q2, (nar_c (l4 v)).2]
      exact grd_t (nar_c (l4 v)).1
  · right
    refine ⟨0, 32, 1, ?_, rfl, by decide, ?_⟩
    · by_cases c2 : v < 0
      · simp (disch := omega) only [zlit, zI_add, zI_sub, zI_mul, zI_neg, zI_lt, zI_le, zI_eq, zI_cl, zI_max, zI_min, zI_abs, bnd_ok, bnd_ex, lm_eq, li_eq, grd_inb, grd_ser, grd_z, grd_lt, if_true, if_false, if_pos, if_neg]
      · simp (disch := omega) only [zlit, zI_add, zI_sub, zI_mul, zI_neg, zI_lt, zI_le, zI_eq, zI_cl, zI_max, zI_min, zI_abs, bnd_ok, bnd_ex, lm_eq, li_eq, grd_inb, grd_ser, grd_z, grd_lt, if_true, if_false, if_pos, if_neg, l2]
    · simp (disch := omega) only [zlit, zI_add, zI_sub, zI_mul, zI_neg, zI_lt, zI_le, zI_eq, zI_cl, zI_max, zI_min, zI_abs, bnd_ok, bnd_ex, lm_eq, li_eq, grd_inb, grd_ser, grd_z, grd_lt, if_true, if_false, if_pos, if_neg, m6.1, mo_in, mo_checked]
      rfl
theorem St_type {v : Int} (hv : 0 ≤ v ∧ v < 65536) : StepOK (fn_SA_type (zI v)) [(1, 1), (2, 2)] (fn_Mo_type (zI v)) := by
  intro M hI
  have hI2 := hI
  obtain ⟨N, A, ap, d, nx, H, sv, S, ep, fl, cnt, tx, ln, lc, ⟨c1, c2, c3, c4, c5, c6⟩, m1, m2, m3, m4, m5, m6⟩ := hI
  have hHs : ∀ q, 0 ≤ q → q < d → SnS (H q) := fun q q0 q1 => (c2.2.2.2.2 q q0 q1).2
  obtain ⟨t1, t2, t3, t4⟩ := id c5
  by_cases c : 32 ≤ v ∧ v ≤ 126
  · by_cases cc : cnt = 60
    · right
      refine ⟨2, 0, 2, M, mset M 32 6 2, ?_, rfl, by decide, ?_, mset_at _ _ _ _, hI2.off (Off.th _ 2)⟩
      · unfold fn_SA_type fn_In_isFull
        simp (disch := omega) only [zlit, zI_add, zI_sub, zI_mul, zI_neg, zI_lt, zI_le, zI_eq, zI_cl, zI_max, zI_min, zI_abs, bnd_ok, bnd_ex, lm_eq, li_eq, grd_inb, grd_ser, grd_z, grd_lt, if_true, if_false, if_pos, if_neg, t2]
      · unfold fn_Mo_type fn_Mo_type_30
        simp (disch := omega) only [zlit, zI_add, zI_sub, zI_mul, zI_neg, zI_lt, zI_le, zI_eq, zI_cl, zI_max, zI_min, zI_abs, bnd_ok, bnd_ex, lm_eq, li_eq, grd_inb, grd_ser, grd_z, grd_lt, if_true, if_false, if_pos, if_neg, m5.1, mo_in, mset_at]
    · left
      have nc := (nar_c (v := v) (by omega)).1
      refine ⟨zI (cnt + 1), mset (mset M 17 cnt.toNat (zI v)) 16 1 (zI (cnt + 1)), mset (mset (mset (mset (mset (mset M 17 cnt.toNat (zI v)) 16 1 (zI (cnt + 1))) 45 0 (zI (cnt + 1))) 32 6 (zI 0)) 40 cnt.toNat (zI v)) 32 18 (zI (cnt + 1)), ?_, ?_, ?_, ?_, ?_⟩
      · have q1 : mset M 17 cnt.toNat (zI v) 16 1 = zI cnt := by rw [mset_ne _ _ _ (by decide)]; exact t2
        unfold fn_SA_type fn_In_add fn_In_isFull fn_In_add_27
        simp (disch := omega) only [zlit, zI_add, zI_sub, zI_mul, zI_neg, zI_lt, zI_le, zI_eq, zI_cl, zI_max, zI_min, zI_abs, bnd_ok, bnd_ex, lm_eq, li_eq, grd_inb, grd_ser, grd_z, grd_lt, if_true, if_false, if_pos, if_neg, t2, nc, q1, mset_at]
      · have q1 : mset (mset (mset M 17 cnt.toNat (zI v)) 16 1 (zI (cnt + 1))) 45 0 (zI (cnt + 1)) 32 18 = zI cnt := by rw [mset_ne _ _ _ (by decide), mset_ne _ _ _ (by decide), mset_ne _ _ _ (by decide)]; exact m5.1
        generalize mset (mset (mset M 17 cnt.toNat (zI v)) 16 1 (zI (cnt + 1))) 45 0 (zI (cnt + 1)) = M' at q1 ⊢
        have q2 : mset M' 32 6 (zI 0) 32 18 = zI cnt := by rw [mset_oth _ _ _ _ (by decide)]; exact q1
        have q3 : mset (mset M' 32 6 (zI 0)) 40 cnt.toNat (zI v) 32 18 = zI cnt := by rw [mset_ne _ _ _ (by decide)]; exact q2
        unfold fn_Mo_type fn_Mo_type_30
        simp (disch := omega) only [zlit, zI_add, zI_sub, zI_mul, zI_neg, zI_lt, zI_le, zI_eq, zI_cl, zI_max, zI_min, zI_abs, bnd_ok, bnd_ex, lm_eq, li_eq, grd_inb, grd_ser, grd_z, grd_lt, if_true, if_false, if_pos, if_neg, q1, mo_in, mset_at, q2, q3]
      · rw [mset_oth _ _ _ _ (by decide), mset_ne _ _ _ (by decide), mset_at]
        rfl
      · rw [mset_ne _ _ _ (by decide), mset_ne _ _ _ (by decide), mset_ne _ _ _ (by decide), mset_at]
      · have ea : ∀ j, j ≠ 16 → j ≠ 17 → j ≠ 32 → j ≠ 40 → j ≠ 45 → mset (mset (mset (mset (mset (mset M 17 cnt.toNat (zI v)) 16 1 (zI (cnt + 1))) 45 0 (zI (cnt + 1))) 32 6 (zI 0)) 40 cnt.toNat (zI v)) 32 18 (zI (cnt + 1)) j = M j := fun j j1 j2 j3 j4 j5 => by
          rw [mset_ne _ _ _ j3, mset_ne _ _ _ j4, mset_ne _ _ _ j3, mset_ne _ _ _ j5, mset_ne _ _ _ j1, mset_ne _ _ _ j2]
        have eb : ∀ i, i ≠ 6 → i ≠ 18 → mset (mset (mset (mset (mset (mset M 17 cnt.toNat (zI v)) 16 1 (zI (cnt + 1))) 45 0 (zI (cnt + 1))) 32 6 (zI 0)) 40 cnt.toNat (zI v)) 32 18 (zI (cnt + 1)) 32 i = M 32 i := fun i i1 i2 => by
          rw [mset_oth _ _ _ _ i2, mset_ne _ _ _ (by decide), mset_oth _ _ _ _ i1, mset_ne _ _ _ (by decide), mset_ne _ _ _ (by decide), mset_ne _ _ _ (by decide)]
        have e16 : mset (mset (mset (mset (mset (mset M 17 cnt.toNat (zI v)) 16 1 (zI (cnt + 1))) 45 0 (zI (cnt + 1))) 32 6 (zI 0)) 40 cnt.toNat (zI v)) 32 18 (zI (cnt + 1)) 16 1 = zI (cnt + 1) := by
          rw [mset_ne _ _ _ (by decide), mset_ne _ _ _ (by decide), mset_ne _ _ _ (by decide), mset_ne _ _ _ (by decide), mset_at]
        have e17 : mset (mset (mset (mset (mset (mset M 17 cnt.toNat (zI v)) 16 1 (zI (cnt + 1))) 45 0 (zI (cnt + 1))) 32 6 (zI 0)) 40 cnt.toNat (zI v)) 32 18 (zI (cnt + 1)) 17 = mset M 17 cnt.toNat (zI v) 17 := by
          rw [mset_ne _ _ _ (by decide), mset_ne _ _ _ (by decide), mset_ne _ _ _ (by decide), mset_ne _ _ _ (by decide), mset_ne _ _ _ (by decide)]
        have e40 : mset (mset (mset (mset (mset (mset M 17 cnt.toNat (zI v)) 16 1 (zI (cnt + 1))) 45 0 (zI (cnt + 1))) 32 6 (zI 0)) 40 cnt.toNat (zI v)) 32 18 (zI (cnt + 1)) 40 = mset M 40 cnt.toNat (zI v) 40 := by
          rw [mset_ne _ _ _ (by decide), mset_eq, mset_eq, mset_ne _ _ _ (by decide), mset_ne _ _ _ (by decide), mset_ne _ _ _ (by decide), mset_ne _ _ _ (by decide)]
        have e18 : mset (mset (mset (mset (mset (mset M 17 cnt.toNat (zI v)) 16 1 (zI (cnt + 1))) 45 0 (zI (cnt + 1))) 32 6 (zI 0)) 40 cnt.toNat (zI v)) 32 18 (zI (cnt + 1)) 32 18 = zI (cnt + 1) := mset_at _ _ _ _
        generalize mset (mset (mset (mset (mset (mset M 17 cnt.toNat (zI v)) 16 1 (zI (cnt + 1))) 45 0 (zI (cnt + 1))) 32 6 (zI 0)) 40 cnt.toNat (zI v)) 32 18 (zI (cnt + 1)) = M2 at *
        refine ⟨N, A, ap, d, nx, H, sv, S, ep, fl, cnt + 1, upI tx cnt v, ln, lc, ⟨c1.to (fun j j0 j1 => ea j (by omega) (by omega) (by omega) (by omega) (by omega)), c2.to (ea 12 (by decide) (by decide) (by decide) (by decide) (by decide)) (ea 13 (by decide) (by decide) (by decide) (by decide) (by decide)), c3.to (by rw [ea 0 (by decide) (by decide) (by decide) (by decide) (by decide)]) (ea 14 (by decide) (by decide) (by decide) (by decide) (by decide)), c4.to (by rw [ea 0 (by decide) (by decide) (by decide) (by decide) (by decide)]) (by rw [ea 0 (by decide) (by decide) (by decide) (by decide) (by decide)]), ⟨by omega, e16, fun i i0 i1 => ?_, fun i => ?_⟩, c6.to (ea 19 (by decide) (by decide) (by decide) (by decide) (by decide))⟩,
          m1.to (ea 33 (by decide) (by decide) (by decide) (by decide) (by decide)), m2.to hHs (eb 7 (by decide) (by decide)) (ea 36 (by decide) (by decide) (by decide) (by decide) (by decide)), m3.to (fun z => (c3.2.2 z).2) (eb 10 (by decide) (by decide)) (ea 35 (by decide) (by decide) (by decide) (by decide) (by decide)), m4.to (eb 8 (by decide) (by decide)) (eb 9 (by decide) (by decide)), ⟨e18, fun i i0 i1 => ?_⟩, m6.to (eb 12 (by decide) (by decide)) (ea 39 (by decide) (by decide) (by decide) (by decide) (by decide))⟩
        · rw [e17]
          unfold upI
          by_cases ci : i = cnt
          · rw [if_pos ci, ci, mset_at]
          · rw [if_neg ci, mset_oth _ _ _ _ (by omega)]
            exact t3 i i0 (by omega)
        · unfold upI
          by_cases ci : i = cnt
          · rw [if_pos ci]; exact c
          · rw [if_neg ci]; exact t4 i
        · rw [e40]
          unfold upI
          by_cases ci : i = cnt
          · rw [if_pos ci, ci, mset_at]
          · rw [if_neg ci, mset_oth _ _ _ _ (by omega)]
            exact m5.2 i i0 (by omega)
  · right
    refine ⟨1, 0, 1, M, mset M 32 6 1, ?_, rfl, by decide, ?_, mset_at _ _ _ _, hI2.off (Off.th _ 1)⟩
    · unfold fn_SA_type
      by_cases c9 : v < 32
      · simp (disch := omega) only [zlit, zI_add, zI_sub, zI_mul, zI_neg, zI_lt, zI_le, zI_eq, zI_cl, zI_max, zI_min, zI_abs, bnd_ok, bnd_ex, lm_eq, li_eq, grd_inb, grd_ser, grd_z, grd_lt, if_true, if_false, if_pos, if_neg]
      · simp (disch := omega) only [zlit, zI_add, zI_sub, zI_mul, zI_neg, zI_lt, zI_le, zI_eq, zI_cl, zI_max, zI_min, zI_abs, bnd_ok, bnd_ex, lm_eq, li_eq, grd_inb, grd_ser, grd_z, grd_lt, if_true, if_false, if_pos, if_neg]
    · unfold fn_Mo_type fn_Mo_type_30
      simp (disch := omega) only [zlit, zI_add, zI_sub, zI_mul, zI_neg, zI_lt, zI_le, zI_eq, zI_cl, zI_max, zI_min, zI_abs, bnd_ok, bnd_ex, lm_eq, li_eq, grd_inb, grd_ser, grd_z, grd_lt, if_true, if_false, if_pos, if_neg, mo_in, mset_at]
