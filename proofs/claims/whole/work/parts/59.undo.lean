/-! UNDO, SAVE, RESTORE as steps of the law -/
theorem MRw.back {M : Mm} {S : SNP} (h : MRw M 33 0 S) (hs : SnS S) : IMs S.1 S.2.1 S.2.2 M := by
  refine ⟨fun s s0 s1 => ⟨⟨s0, s1⟩, (hs s s0 s1).1, ?_, fun i i0 i1 => ?_, (hs s s0 s1).2⟩, ?_⟩
  · have h2 := (h.2 s s0 s1).1
    rw [Int.zero_add] at h2
    exact h2
  · have h2 := (h.2 s s0 s1).2 i i0 i1
    rw [Int.zero_add] at h2
    exact h2
  · have h2 := h.1
    rw [Int.zero_add] at h2
    exact h2
theorem St_undo : StepOK fn_SA_undo [(2, 1)] fn_Mo_undo := by
  intro M hI
  have hI2 := hI
  obtain ⟨N, A, ap, d, nx, H, sv, S, ep, fl, cnt, tx, ln, lc, ⟨c1, c2, c3, c4, c5, c6⟩, m1, m2, m3, m4, m5, m6⟩ := hI
  have hHs : ∀ q, 0 ≤ q → q < d → SnS (H q) := fun q q0 q1 => (c2.2.2.2.2 q q0 q1).2
  have hd := c2.1
  have h12 := c2.2.2.1
  by_cases c : 1 ≤ d
  · left
    obtain ⟨M1, e1, e2, e3, e4, e5⟩ := c_takeBack c2 c
    have f12 := e4.2.2.1
    have k1 : ∀ j, j = 0 ∨ 14 ≤ j → j ≠ 45 → mset M1 45 0 (zI (d - 1)) j = M j := fun j j0 j1 => by rw [mset_ne _ _ _ j1, e5 j j0]
    have k2 : ∀ j, j ≠ 45 → mset M1 45 0 (zI (d - 1)) j = M1 j := fun j j1 => mset_ne _ _ _ j1
    have k45 : mset M1 45 0 (zI (d - 1)) 45 0 = zI (d - 1) := mset_at _ _ _ _
    refine ⟨zI (d - 1), M1, ?_⟩
    generalize mset M1 45 0 (zI (d - 1)) = M' at *
    have g7 : mset M' 32 6 (zI 0) 32 7 = zI d := by rw [mset_oth _ _ _ _ (by decide), k1 32 (by omega) (by decide)]; exact m2.1
    have w7 : mset (mset M' 32 6 (zI 0)) 32 7 (zI (d - 1)) 32 7 = zI (d - 1) := mset_at _ _ _ _
    have w6 : mset (mset M' 32 6 (zI 0)) 32 7 (zI (d - 1)) 32 6 = zI 0 := by rw [mset_oth _ _ _ _ (by decide), mset_at]
    have wo : ∀ i, i ≠ 6 → i ≠ 7 → mset (mset M' 32 6 (zI 0)) 32 7 (zI (d - 1)) 32 i = M 32 i := fun i i1 i2 => by rw [mset_oth _ _ _ _ i2, mset_oth _ _ _ _ i1, k1 32 (by omega) (by decide)]
    have wj : ∀ j, j ≠ 32 → mset (mset M' 32 6 (zI 0)) 32 7 (zI (d - 1)) j = M' j := fun j j1 => by rw [mset_ne _ _ _ j1, mset_ne _ _ _ j1]
    have hw : fn_Mo_undo M' = bnd (fn_Mo_copyAll 36 (85 * (mset (mset M' 32 6 (zI 0)) 32 7 (zI (d - 1)) 32 7)) 33 0 (mset (mset M' 32 6 (zI 0)) 32 7 (zI (d - 1)))) (fun r47 M47 => some (.inl (M47 32 7), M47)) := by
      have g0 : M' 32 7 = zI d := by rw [k1 32 (by omega) (by decide)]; exact m2.1
      unfold fn_Mo_undo fn_Mo_undo_13
      have q1 : ¬ zI d ≤ 0 := by rw [show (0 : Int32) = zI 0 from rfl, zI_le (by omega) (by omega)]; omega
      rw [g0, if_neg q1, show (1 : Int32) = zI 1 from rfl, mo_checked (by omega), bnd_ok, if_pos (by decide), show zI (1 - 1) = zI 0 from rfl, g7, zI_sub, lm_eq]
    generalize mset (mset M' 32 6 (zI 0)) 32 7 (zI (d - 1)) = Mw at *
    obtain ⟨M2, f1, f2, f3, f4⟩ := m_copy Mw (k1 := 36) (k2 := 33) (L1 := 680) (L2 := 85) (b1 := 85 * (d - 1)) (b2 := 0) (by decide) (by decide) (by omega) (by omega) (by omega)
    have hrow : MRw Mw 36 (85 * (d - 1)) (H (d - 1)) := MRow.to (m2.2 (d - 1) (by omega) (by omega)) (hHs (d - 1) (by omega) (by omega)) (by omega) (fun i _ _ => by rw [wj 36 (by decide), k1 36 (by omega) (by decide)])
    have hms : IMs (H (d - 1)).1 (H (d - 1)).2.1 (H (d - 1)).2.2 M2 := MRw.back (MRow.copy hrow (hHs (d - 1) (by omega) (by omega)) f2) (hHs (d - 1) (by omega) (by omega))
    have z : ∀ j, j ≠ 32 → j ≠ 33 → M2 j = M' j := fun j j1 j2 => by rw [f4 j j2, wj j j1]
    have zc : ∀ j, j < 32 → M2 j = M1 j := fun j j1 => by rw [z j (by omega) (by omega), k2 j (by omega)]
    have zd : ∀ j, j = 0 ∨ 14 ≤ j → j ≠ 32 → j ≠ 33 → j ≠ 45 → M2 j = M j := fun j j0 j1 j2 j3 => by rw [z j j1 j2, k1 j j0 j3]
    have zo : ∀ i, i ≠ 6 → i ≠ 7 → M2 32 i = M 32 i := fun i i1 i2 => by rw [f4 32 (by decide), wo i i1 i2]
    refine ⟨M2, ?_, ?_, ?_, ?_, (H (d - 1)).1, (H (d - 1)).2.1, (H (d - 1)).2.2, d - 1, if nx ≤ 0 then 7 else nx - 1, H, sv, S, ep, fl, cnt, tx, ln, lc, ⟨ICs.to ⟨e2, e3⟩ (fun j j0 j1 => zc j (by omega)), e4.to (zc 12 (by decide)) (zc 13 (by decide)), c3.to (by rw [zd 0 (by omega) (by decide) (by decide) (by decide)]) (zd 14 (by omega) (by decide) (by decide) (by decide)), c4.to (by rw [zd 0 (by omega) (by decide) (by decide) (by decide)]) (by rw [zd 0 (by omega) (by decide) (by decide) (by decide)]), c5.to (by rw [zd 16 (by omega) (by decide) (by decide) (by decide)]) (zd 17 (by omega) (by decide) (by decide) (by decide)), c6.to (zd 19 (by omega) (by decide) (by decide) (by decide))⟩, hms, ⟨by rw [f4 32 (by decide)]; exact w7, fun q q0 q1 => MRow.to (m2.2 q q0 (by omega)) (hHs q q0 (by omega)) (by omega) (fun i _ _ => by rw [zd 36 (by omega) (by decide) (by decide) (by decide)])⟩, m3.to (fun z => (c3.2.2 z).2) (zo 10 (by decide) (by decide)) (zd 35 (by omega) (by decide) (by decide) (by decide)), m4.to (zo 8 (by decide) (by decide)) (zo 9 (by decide) (by decide)), m5.to (zo 18 (by decide) (by decide)) (zd 40 (by omega) (by decide) (by decide) (by decide)), m6.to (zo 12 (by decide) (by decide)) (zd 39 (by omega) (by decide) (by decide) (by decide))⟩
    · unfold fn_SA_undo fn_Hi_size
      rw [bnd_ok, if_pos (by rw [h12, show (1 : Int32) = zI 1 from rfl, zI_le (by omega) (by omega)]; exact c), e1, bnd_ok, bnd_ok, f12]
    · rw [hw, w7, show (85 : Int32) = zI 85 from rfl, zI_mul, show (0 : Int32) = zI 0 from rfl, f1, bnd_ok, f4 32 (by decide), w7]
    · rw [f4 32 (by decide), w6]
      rfl
    · rw [z 45 (by decide) (by decide), k45]
  · right
    refine ⟨2, 0, 1, M, mset M 32 6 1, ?_, rfl, by decide, ?_, mset_at _ _ _ _, hI2.off (Off.th _ 1)⟩
    · unfold fn_SA_undo fn_Hi_size
      rw [bnd_ok, if_neg (by rw [h12, show (1 : Int32) = zI 1 from rfl, zI_le (by omega) (by omega)]; exact c)]
    · unfold fn_Mo_undo fn_Mo_undo_13
      rw [m2.1, if_pos (by rw [show (0 : Int32) = zI 0 from rfl, zI_le (by omega) (by omega)]; omega), show (0 : Int32) = zI 0 from rfl, mo_checked (by omega), bnd_ok, if_neg (by decide)]
      rfl
theorem St_save : StepOK fn_SA_save [] fn_Mo_save := by
  intro M hI
  obtain ⟨N, A, ap, d, nx, H, sv, S, ep, fl, cnt, tx, ln, lc, ⟨c1, c2, c3, c4, c5, c6⟩, m1, m2, m3, m4, m5, m6⟩ := hI
  have hHs : ∀ q, 0 ≤ q → q < d → SnS (H q) := fun q q0 q1 => (c2.2.2.2.2 q q0 q1).2
  have hsn := c1.1.sn
  left
  obtain ⟨Ma, e1, e2, e3, -⟩ := c1.1.store c1.2 (k9 := 14) (L := 85) (b := 0) (by decide) (by decide) (by decide) (by omega)
  have a14 : mset Ma 0 3 (zI 1) 14 = Ma 14 := mset_ne _ _ _ (by decide)
  have a0 : mset Ma 0 3 (zI 1) 0 3 = zI 1 := mset_at _ _ _ _
  have a0o : ∀ i, i ≠ 3 → mset Ma 0 3 (zI 1) 0 i = M 0 i := fun i hi => by rw [mset_oth _ _ _ _ hi, e3 0 (by decide)]
  have aj : ∀ j, j ≠ 0 → j ≠ 14 → mset Ma 0 3 (zI 1) j = M j := fun j j1 j2 => by rw [mset_ne _ _ _ j1, e3 j j2]
  have hx : fn_SA_save M = bnd (fn_St_valueCount (mset Ma 0 3 (zI 1))) (fun r21 M21 => some (.inl r21, M21)) := by
    unfold fn_SA_save
    rw [show (0 : Int32) = zI 0 from rfl, e1, bnd_ok, lm_eq]
    rfl
  generalize mset Ma 0 3 (zI 1) = M1 at *
  have C1 : Cs N A M1 := fun s s0 s1 => (c1.1 s s0 s1).to (aj _ (by omega) (by omega)) (aj _ (by omega) (by omega))
  rw [C1.count, bnd_ok] at hx
  have k1 : ∀ j, j ≠ 45 → mset M1 45 0 (zI (allF N 0 0)) j = M1 j := fun j j1 => mset_ne _ _ _ j1
  have k45 : mset M1 45 0 (zI (allF N 0 0)) 45 0 = zI (allF N 0 0) := mset_at _ _ _ _
  refine ⟨zI (allF N 0 0), M1, ?_⟩
  generalize mset M1 45 0 (zI (allF N 0 0)) = M' at *
  have t6 : mset M' 32 6 (zI 0) 32 6 = zI 0 := mset_at _ _ _ _
  have to : ∀ i, i ≠ 6 → mset M' 32 6 (zI 0) 32 i = M 32 i := fun i hi => by rw [mset_oth _ _ _ _ hi, k1 32 (by decide), aj 32 (by decide) (by decide)]
  have tj : ∀ j, j ≠ 32 → mset M' 32 6 (zI 0) j = M' j := fun j j1 => mset_ne _ _ _ j1
  have hy : fn_Mo_save M' = bnd (fn_Mo_copyAll 33 0 35 0 (mset M' 32 6 (zI 0))) (fun r15 M15 => lm (mset M15 32 10 1) (fun M20 => bnd (fn_Mo_all M20) (fun r24 M24 => some (.inl r24, M24)))) := by
    unfold fn_Mo_save
    rw [show (0 : Int32) = zI 0 from rfl, lm_eq]
  generalize mset M' 32 6 (zI 0) = Mw at *
  obtain ⟨Mb, f1, f2, f3, f4⟩ := m_copy Mw (k1 := 33) (k2 := 35) (L1 := 85) (L2 := 85) (b1 := 0) (b2 := 0) (by decide) (by decide) (by omega) (by omega) (by omega)
  have h33 : Mw 33 = M 33 := by rw [tj 33 (by decide), k1 33 (by decide), aj 33 (by decide) (by decide)]
  have W1 : IMs N A ap Mw := m1.to h33
  have hrow : MRw Mb 35 0 (N, A, ap) := MRow.copy (W1.1.row W1.2) hsn f2
  have g10 : mset Mb 32 10 (zI 1) 32 10 = zI 1 := mset_at _ _ _ _
  have go : ∀ i, i ≠ 10 → mset Mb 32 10 (zI 1) 32 i = Mw 32 i := fun i hi => by rw [mset_oth _ _ _ _ hi, f4 32 (by decide)]
  have gj : ∀ j, j ≠ 32 → j ≠ 35 → mset Mb 32 10 (zI 1) j = Mw j := fun j j1 j2 => by rw [mset_ne _ _ _ j1, f4 j j2]
  have g35 : mset Mb 32 10 (zI 1) 35 = Mb 35 := mset_ne _ _ _ (by decide)
  have hz : fn_Mo_save M' = bnd (fn_Mo_all (mset Mb 32 10 (zI 1))) (fun r24 M24 => some (.inl r24, M24)) := by
    rw [hy, show (0 : Int32) = zI 0 from rfl, f1, bnd_ok, lm_eq]
    rfl
  generalize mset Mb 32 10 (zI 1) = M2 at *
  have K2 : IMs N A ap M2 := W1.to (gj 33 (by decide) (by decide))
  rw [K2.1.all, bnd_ok] at hz
  have zj : ∀ j, j ≠ 0 → j ≠ 14 → j ≠ 32 → j ≠ 35 → j ≠ 45 → M2 j = M j := fun j j0 j1 j2 j3 j4 => by rw [gj j j2 j3, tj j j2, k1 j j4, aj j j0 j1]
  have zc : ∀ j, j < 32 → M2 j = M1 j := fun j j1 => by rw [gj j (by omega) (by omega), tj j (by omega), k1 j (by omega)]
  have zo : ∀ i, i ≠ 6 → i ≠ 10 → M2 32 i = M 32 i := fun i i1 i2 => by rw [go i i2, to i i1]
  refine ⟨M2, hx, hz, ?_, ?_, N, A, ap, d, nx, H, 1, (N, A, ap), ep, fl, cnt, tx, ln, lc, ⟨c1.to (fun j j0 j1 => zj j (by omega) (by omega) (by omega) (by omega) (by omega)), c2.to (zj 12 (by decide) (by decide) (by decide) (by decide) (by decide)) (zj 13 (by decide) (by decide) (by decide) (by decide) (by decide)), ⟨.inr rfl, by rw [zc 0 (by decide)]; exact a0, fun _ => ⟨CRow.to e2 hsn (by omega) (fun i _ _ => by rw [zc 14 (by decide), a14]), hsn⟩⟩, c4.to (by rw [zc 0 (by decide), a0o 6 (by decide)]) (by rw [zc 0 (by decide), a0o 7 (by decide)]), c5.to (by rw [zj 16 (by decide) (by decide) (by decide) (by decide) (by decide)]) (zj 17 (by decide) (by decide) (by decide) (by decide) (by decide)), c6.to (zj 19 (by decide) (by decide) (by decide) (by decide) (by decide))⟩,
    K2, m2.to hHs (zo 7 (by decide) (by decide)) (zj 36 (by decide) (by decide) (by decide) (by decide) (by decide)), ⟨g10, fun _ => MRow.to hrow hsn (by omega) (fun i _ _ => by rw [g35])⟩, m4.to (zo 8 (by decide) (by decide)) (zo 9 (by decide) (by decide)), m5.to (zo 18 (by decide) (by decide)) (zj 40 (by decide) (by decide) (by decide) (by decide) (by decide)), m6.to (zo 12 (by decide) (by decide)) (zj 39 (by decide) (by decide) (by decide) (by decide) (by decide))⟩
  · rw [go 6 (by decide), t6]
    rfl
  · rw [gj 45 (by decide) (by decide), tj 45 (by decide), k45]
theorem St_restore : StepOK fn_SA_restore [(2, 1)] fn_Mo_restore := by
  intro M hI
  have hI2 := hI
  obtain ⟨N, A, ap, d, nx, H, sv, S, ep, fl, cnt, tx, ln, lc, ⟨c1, c2, c3, c4, c5, c6⟩, m1, m2, m3, m4, m5, m6⟩ := hI
  rcases c3.1 with c | c
  · right
    refine ⟨2, 0, 1, M, mset M 32 6 1, ?_, rfl, by decide, ?_, mset_at _ _ _ _, hI2.off (Off.th _ 1)⟩
    · unfold fn_SA_restore
      rw [c3.2.1, c, if_pos (by decide)]
    · unfold fn_Mo_restore
      rw [m3.1, c, mo_checked (by omega), bnd_ok, if_neg (by decide)]
      rfl
  · left
    have hsn := (c3.2.2 c).2
    obtain ⟨Ma, e1, e2, e3, e4⟩ := (c3.2.2 c).1.load hsn (L := 85) (by decide) (by decide) (by decide) (by omega)
    have a2 : mset Ma 12 2 (zI 0) 12 2 = zI 0 := mset_at _ _ _ _
    have a1 : mset Ma 12 2 (zI 0) 12 1 = M 12 1 := by rw [mset_oth _ _ _ _ (by decide), e4 12 (by omega)]
    have aj : ∀ j, j = 0 ∨ 13 ≤ j → mset Ma 12 2 (zI 0) j = M j := fun j j1 => by rw [mset_ne _ _ _ (by omega), e4 j (by omega)]
    have ac : ∀ j, j ≠ 12 → mset Ma 12 2 (zI 0) j = Ma j := fun j j1 => mset_ne _ _ _ j1
    have hx : fn_SA_restore M = bnd (fn_St_valueCount (mset Ma 12 2 (zI 0))) (fun r41 M41 => some (.inl r41, M41)) := by
      unfold fn_SA_restore fn_Hi_clear
      rw [c3.2.1, c, if_neg (by decide), show (0 : Int32) = zI 0 from rfl, e1, bnd_ok, lm_eq, bnd_ok]
    generalize mset Ma 12 2 (zI 0) = M1 at *
    have C1 : ICs S.1 S.2.1 S.2.2 M1 := ICs.to ⟨e2, e3⟩ (fun j j0 j1 => ac j (by omega))
    rw [C1.1.count, bnd_ok] at hx
    have k1 : ∀ j, j ≠ 45 → mset M1 45 0 (zI (allF S.1 0 0)) j = M1 j := fun j j1 => mset_ne _ _ _ j1
    have k45 : mset M1 45 0 (zI (allF S.1 0 0)) 45 0 = zI (allF S.1 0 0) := mset_at _ _ _ _
    refine ⟨zI (allF S.1 0 0), M1, ?_⟩
    generalize mset M1 45 0 (zI (allF S.1 0 0)) = M' at *
    have t6 : mset M' 32 6 (zI 0) 32 6 = zI 0 := mset_at _ _ _ _
    have to : ∀ i, i ≠ 6 → mset M' 32 6 (zI 0) 32 i = M 32 i := fun i hi => by rw [mset_oth _ _ _ _ hi, k1 32 (by decide), aj 32 (by omega)]
    have tj : ∀ j, j ≠ 32 → mset M' 32 6 (zI 0) j = M' j := fun j j1 => mset_ne _ _ _ j1
    have hy : fn_Mo_restore M' = bnd (fn_Mo_copyAll 35 0 33 0 (mset M' 32 6 (zI 0))) (fun r23 M23 => lm (mset M23 32 7 0) (fun M28 => bnd (fn_Mo_all M28) (fun r32 M32 => some (.inl r32, M32)))) := by
      have g0 : M' 32 10 = zI sv := by rw [k1 32 (by decide), aj 32 (by omega)]; exact m3.1
      unfold fn_Mo_restore
      rw [g0, c, mo_checked (by omega), bnd_ok, if_pos (by decide)]
      rfl
    generalize mset M' 32 6 (zI 0) = Mw at *
    obtain ⟨Mb, f1, f2, f3, f4⟩ := m_copy Mw (k1 := 35) (k2 := 33) (L1 := 85) (L2 := 85) (b1 := 0) (b2 := 0) (by decide) (by decide) (by omega) (by omega) (by omega)
    have hrw : MRw Mw 35 0 S := MRow.to (m3.2 c) hsn (by omega) (fun i _ _ => by rw [tj 35 (by decide), k1 35 (by decide), aj 35 (by omega)])
    have hms : IMs S.1 S.2.1 S.2.2 Mb := MRw.back (MRow.copy hrw hsn f2) hsn
    have g7 : mset Mb 32 7 (zI 0) 32 7 = zI 0 := mset_at _ _ _ _
    have go : ∀ i, i ≠ 7 → mset Mb 32 7 (zI 0) 32 i = Mw 32 i := fun i hi => by rw [mset_oth _ _ _ _ hi, f4 32 (by decide)]
    have gj : ∀ j, j ≠ 32 → j ≠ 33 → mset Mb 32 7 (zI 0) j = Mw j := fun j j1 j2 => by rw [mset_ne _ _ _ j1, f4 j j2]
    have g33 : mset Mb 32 7 (zI 0) 33 = Mb 33 := mset_ne _ _ _ (by decide)
    have hz : fn_Mo_restore M' = bnd (fn_Mo_all (mset Mb 32 7 (zI 0))) (fun r24 M24 => some (.inl r24, M24)) := by
      rw [hy, show (0 : Int32) = zI 0 from rfl, f1, bnd_ok, lm_eq]
    generalize mset Mb 32 7 (zI 0) = M2 at *
    have K2 : IMs S.1 S.2.1 S.2.2 M2 := hms.to g33
    rw [K2.1.all, bnd_ok] at hz
    have zc : ∀ j, j < 32 → M2 j = M1 j := fun j j1 => by rw [gj j (by omega) (by omega), tj j (by omega), k1 j (by omega)]
    have zj : ∀ j, j = 0 ∨ 13 ≤ j → j ≠ 32 → j ≠ 33 → j ≠ 45 → M2 j = M j := fun j j0 j2 j3 j4 => by rw [gj j j2 j3, tj j j2, k1 j j4, aj j j0]
    have zo : ∀ i, i ≠ 6 → i ≠ 7 → M2 32 i = M 32 i := fun i i1 i2 => by rw [go i i2, to i i1]
    refine ⟨M2, hx, hz, ?_, ?_, S.1, S.2.1, S.2.2, 0, nx, H, sv, S, ep, fl, cnt, tx, ln, lc, ⟨C1.to (fun j j0 j1 => zc j (by omega)), ⟨by omega, c2.2.1, by rw [zc 12 (by decide)]; exact a2, by rw [zc 12 (by decide), a1]; exact c2.2.2.2.1, fun q q0 q1 => absurd q1 (by omega)⟩, c3.to (by rw [zj 0 (by omega) (by decide) (by decide) (by decide)]) (zj 14 (by omega) (by decide) (by decide) (by decide)), c4.to (by rw [zj 0 (by omega) (by decide) (by decide) (by decide)]) (by rw [zj 0 (by omega) (by decide) (by decide) (by decide)]), c5.to (by rw [zj 16 (by omega) (by decide) (by decide) (by decide)]) (zj 17 (by omega) (by decide) (by decide) (by decide)), c6.to (zj 19 (by omega) (by decide) (by decide) (by decide))⟩,
      K2, ⟨g7, fun q q0 q1 => absurd q1 (by omega)⟩, m3.to (fun z => (c3.2.2 z).2) (zo 10 (by decide) (by decide)) (zj 35 (by omega) (by decide) (by decide) (by decide)), m4.to (zo 8 (by decide) (by decide)) (zo 9 (by decide) (by decide)), m5.to (zo 18 (by decide) (by decide)) (zj 40 (by omega) (by decide) (by decide) (by decide)), m6.to (zo 12 (by decide) (by decide)) (zj 39 (by omega) (by decide) (by decide) (by decide))⟩
    · rw [go 6 (by decide), t6]
      rfl
    · rw [gj 45 (by decide) (by decide), tj 45 (by decide), k45]
