/-! run: a program -/
theorem run_B {M : Mm} {N : Int → Int} {A : Int → Int → Int} {ap d nx : Int} {H : Int → SNP} {sv : Int} {S : SNP} {ep fl cnt : Int} {tx : Int → Int} {ln : Int} {lc : Int → Int} (c1 : ICs N A ap M) (c2 : ICh d nx H M) (c3 : ICv sv S M) (c4 : ICe ep fl M) (c5 : ICt cnt tx M) (c6 : ICl ln lc M) (m1 : IMs N A ap M) (m2 : IMh d H M) (m3 : IMv sv S M) (m4 : IMe ep fl M) (m5 : IMt cnt tx M) (m6 : IMl ln lc M) (yes : (prR cnt tx 61 0 1).1 = true) : RunAt M := by
  have hHs : ∀ q, 0 ≤ q → q < d → SnS (H q) := fun q q0 q1 => (c2.2.2.2.2 q q0 q1).2
  have hsn := c1.1.sn
  have hb := prR_b (cnt := cnt) (tx := tx) 61 0 1 (by omega) c5.1.1 (by omega) (by omega)
  obtain ⟨M1, e1, e2, e4⟩ := (In_count c5).1 yes
  have hbc := hb.2.2 yes
  have hcn := c5.1
  have hpr : prR cnt tx 61 (psF cnt tx 0) (((0 : Nat) : Int) + 1) = (true, (prR cnt tx 61 0 1).2) := Prod.ext yes rfl
  have hcm0 := (pr_ps 61 0 _ (Int.le_refl _) c5.1.1 hpr).2
  have hP := fun {M'} (t : IMt cnt tx M') => (Mo_parse c5.1 c5.2.2.2 t).1 yes
  generalize (prR cnt tx 61 0 1).2 = e at *
  obtain ⟨C, rfl⟩ : ∃ C : Nat, e = (C : Int) := ⟨e.toNat, by omega⟩
  have hcm : ∀ q : Nat, q < C → (cmd cnt tx (psF cnt tx q)).1 = true ∧ 0 ≤ psF cnt tx q ∧ psF cnt tx q ≤ cnt := fun q hq => by
    have z := hcm0 q (by omega) (by omega)
    exact ⟨z.1, z.2.1, z.2.2.1⟩
  have n1 : ICs N A ap M1 := c1.to (fun j j0 j1 => e4 j (by omega) (by omega))
  obtain ⟨Ma, s1, s2, s3, -⟩ := n1.1.store n1.2 (k9 := 15) (L := 85) (b := 0) (by decide) (by decide) (by decide) (by omega)
  have n2 : ICs N A ap Ma := n1.to (fun j j0 j1 => s3 j (by omega))
  have t2 : ICt cnt tx Ma := e2.to (by rw [s3 16 (by decide)]) (s3 17 (by decide))
  have aj : ∀ j, j ≠ 15 → j ≠ 16 → j ≠ 18 → Ma j = M j := fun j j1 j2 j3 => by rw [s3 j j1, e4 j j2 j3]
  have hxe : fn_SA_execute (zI (C : Int)) M1 = fn_SA_execute_16 (zI (C : Int)) 2000 (zI (psF cnt tx 0)) (zI ((0 : Nat) : Int)) Ma := by
    unfold fn_SA_execute
    rw [show (0 : Int32) = zI 0 from rfl, s1, bnd_ok]
    rfl
  have hrun : fn_SA_run M = bnd (fn_SA_execute_16 (zI (C : Int)) 2000 (zI (psF cnt tx 0)) (zI ((0 : Nat) : Int)) Ma) (fun r44 M44 => bnd (fn_In_clear M44) (fun r52 M52 => if r44 = (-1) then (some (.inl (zI (C : Int)), M52)) else (lm (mset M52 0 7 r44) (fun M62 => some (.inr 2, M62))))) := by
    unfold fn_SA_run
    rw [e1, bnd_ok, if_neg (by rw [show (-1 : Int32) = zI (-1) from rfl, zI_eq (by omega) (by omega)]; omega), hxe]
  have hM : ∀ M', (∀ j, 32 ≤ j → j ≠ 45 → M' j = M j) → ∃ Mb Mp, fn_Mo_begin M' = some (.inl (), Mb) ∧ fn_Mo_run M' = fn_Mo_run_33 2000 (zI ((0 : Nat) : Int)) Mp ∧ IMs N A ap Mp ∧ MRw Mp 34 0 (N, A, ap) ∧ Mp 32 6 = 0 ∧ ARs cnt tx C Mp ∧ Mp 32 21 = zI (C : Int) ∧ Mp 32 18 = zI 0 ∧ (∀ i, i ≠ 6 → i ≠ 18 → i ≠ 19 → i ≠ 20 → i ≠ 21 → i ≠ 22 → Mp 32 i = M 32 i) ∧ ∀ j, j ≠ 32 → j ≠ 34 → j ≠ 41 → j ≠ 42 → j ≠ 43 → j ≠ 44 → Mp j = M' j := by
    intro M' he
    have q1 : IMs N A ap M' := m1.to (he 33 (by decide) (by decide))
    obtain ⟨Mb, b1, b2, b3, b4, b5⟩ := m_begin q1.1 hsn q1.2
    have t5 : IMt cnt tx Mb := m5.to (by rw [b4 18 (by decide), he 32 (by decide) (by decide)]) (by rw [b5 40 (by decide) (by decide), he 40 (by decide) (by decide)])
    obtain ⟨Mp, f1, f2, f3, f4, f5⟩ := hP t5
    refine ⟨Mb, Mp, b1, ?_, q1.to (by rw [f5.1 33 (by decide) (by decide) (by decide) (by decide) (by decide), b5 33 (by decide) (by decide)]), MRow.to b2 hsn (by omega) (fun i _ _ => by rw [f5.1 34 (by decide) (by decide) (by decide) (by decide) (by decide)]), by rw [f5.2.1 6 (by decide) (by decide) (by decide) (by decide) (by decide)]; exact b3, f4, f3, f5.2.2, fun i i1 i2 i3 i4 i5 i6 => by rw [f5.2.1 i i2 i3 i4 i5 i6, b4 i i1, he 32 (by decide) (by decide)], fun j j1 j2 j3 j4 j5 j6 => by rw [f5.1 j j1 j3 j4 j5 j6, b5 j j1 j2]⟩
    unfold fn_Mo_run
    rw [b1, bnd_ok, f1, bnd_ok, f2, if_pos (by decide)]
    rfl
  rcases Exec (cnt := cnt) (tx := tx) (C := C) (by omega) hcm C 2000 0 N A ap Ma (by omega) (by omega) n2 t2 with ⟨N', A', ap', M2, x1, x2, x3, x4, x5⟩ | ⟨v, M2, x0, x1, x3, x4, x5⟩
  · left
    have h2 : ICh d nx H M2 := c2.to (by rw [x4 12 (by omega) (by decide) (by decide), aj 12 (by decide) (by decide) (by decide)]) (by rw [x4 13 (by omega) (by decide) (by decide), aj 13 (by decide) (by decide) (by decide)])
    have r2 : CRw M2 15 0 (N, A, ap) := CRow.to s2 hsn (by omega) (fun i _ _ => by rw [x4 15 (by omega) (by decide) (by decide)])
    obtain ⟨M3, y1, y2, y3⟩ := c_keepRow (S := (N, A, ap)) h2 hsn r2
    have k16 : mset M3 16 1 (zI 0) 16 1 = zI 0 := mset_at _ _ _ _
    have kj : ∀ j, j ≠ 16 → mset M3 16 1 (zI 0) j = M3 j := fun j j1 => mset_ne _ _ _ j1
    have hx : fn_SA_run M = some (.inl (zI (C : Int)), mset M3 16 1 (zI 0)) := by
      rw [hrun, x1]
      unfold fn_SA_execute_132 fn_In_clear
      rw [y1, bnd_ok, bnd_ok, lm_eq, bnd_ok, if_pos rfl]
      rfl
    generalize mset M3 16 1 (zI 0) = M4 at *
    have w45 : mset M4 45 0 (zI (C : Int)) 45 0 = zI (C : Int) := mset_at _ _ _ _
    have wj : ∀ j, j ≠ 45 → mset M4 45 0 (zI (C : Int)) j = M4 j := fun j j1 => mset_ne _ _ _ j1
    refine ⟨zI (C : Int), M4, ?_⟩
    generalize mset M4 45 0 (zI (C : Int)) = M' at *
    have all : ∀ j, j = 0 ∨ 14 ≤ j → j ≠ 15 → j ≠ 16 → j ≠ 18 → j ≠ 45 → M' j = M j := fun j j0 j1 j2 j3 j4 => by rw [wj j j4, kj j j2, y3 j (by omega) (by omega), x4 j (by omega) j2 j3, aj j j1 j2 j3]
    obtain ⟨Mb, Mp, b1, b2, p1, p2, p3, p4, p5, p6, p7, p8⟩ := hM M' (fun j j0 j1 => all j (by omega) (by omega) (by omega) (by omega) j1)
    obtain ⟨Mm, u1, u2, u3⟩ := x5 2000 Mp (by omega) p1 p4 p5
    have hrow : MRw Mm 34 0 (N, A, ap) := MRow.to p2 hsn (by omega) (fun i _ _ => by rw [u3 34 (by decide) (by decide)])
    have hist : IMh d H Mm := m2.to hHs (by rw [u3 32 (by decide) (by decide), p7 7 (by decide) (by decide) (by decide) (by decide) (by decide) (by decide)]) (by rw [u3 36 (by decide) (by decide), p8 36 (by decide) (by decide) (by decide) (by decide) (by decide) (by decide), all 36 (by omega) (by decide) (by decide) (by decide) (by decide)])
    obtain ⟨Me, h1, h2', h3, h4⟩ := m_commit (S := (N, A, ap)) c2.1 hist hHs hsn hrow (zI (C : Int))
    have hy : fn_Mo_run M' = some (.inl (zI (C : Int)), Me) := by
      rw [b2, u1]
      unfold fn_Mo_run_134
      rw [u3 32 (by decide) (by decide), p5, h1, bnd_ok]
    have z32 : ∀ i, i ≠ 6 → i ≠ 7 → i ≠ 18 → i ≠ 19 → i ≠ 20 → i ≠ 21 → i ≠ 22 → Me 32 i = M 32 i := fun i i1 i2 i3 i4 i5 i6 i7 => by rw [h3 i i2, u3 32 (by decide) (by decide), p7 i i1 i3 i4 i5 i6 i7]
    have zm : ∀ j, j ≠ 32 → j ≠ 33 → j ≠ 34 → j ≠ 36 → j ≠ 38 → j ≠ 41 → j ≠ 42 → j ≠ 43 → j ≠ 44 → Me j = M' j := fun j j1 j2 j3 j4 j5 j6 j7 j8 j9 => by rw [h4 j j1 j4, u3 j j2 j5, p8 j j1 j3 j6 j7 j8 j9]
    have zc : ∀ j, j < 32 → Me j = M4 j := fun j j1 => by rw [zm j (by omega) (by omega) (by omega) (by omega) (by omega) (by omega) (by omega) (by omega) (by omega), wj j (by omega)]
    have za : ∀ j, j = 0 ∨ j = 14 ∨ j = 17 ∨ j = 19 ∨ j = 35 ∨ j = 39 ∨ j = 40 → Me j = M j := fun j j1 => by rw [zm j (by omega) (by omega) (by omega) (by omega) (by omega) (by omega) (by omega) (by omega) (by omega), all j (by omega) (by omega) (by omega) (by omega) (by omega)]
    refine ⟨Me, hx, hy, by rw [h3 6 (by decide), u3 32 (by decide) (by decide)]; exact p3, by rw [zm 45 (by decide) (by decide) (by decide) (by decide) (by decide) (by decide) (by decide) (by decide) (by decide)]; exact w45, N', A', ap', min (d + 1) 8, nxF nx, phF d H (N, A, ap), sv, S, ep, fl, 0, tx, ln, lc, ⟨x2.to (fun j j0 j1 => by rw [zc j (by omega), kj j (by omega), y3 j (by omega) (by omega)]), y2.to (by rw [zc 12 (by decide), kj 12 (by decide)]) (by rw [zc 13 (by decide), kj 13 (by decide)]), c3.to (by rw [za 0 (by omega)]) (za 14 (by omega)), c4.to (by rw [za 0 (by omega)]) (by rw [za 0 (by omega)]), ⟨by omega, by rw [zc 16 (by decide)]; exact k16, fun i i0 i1 => absurd i1 (by omega), c5.2.2.2⟩, c6.to (za 19 (by omega))⟩,
      u2.to (h4 33 (by decide) (by decide)), h2', m3.to (fun z => (c3.2.2 z).2) (z32 10 (by decide) (by decide) (by decide) (by decide) (by decide) (by decide) (by decide)) (za 35 (by omega)), m4.to (z32 8 (by decide) (by decide) (by decide) (by decide) (by decide) (by decide) (by decide)) (z32 9 (by decide) (by decide) (by decide) (by decide) (by decide) (by decide) (by decide)), ⟨by rw [h3 18 (by decide), u3 32 (by decide) (by decide)]; exact p6, fun i i0 i1 => absurd i1 (by omega)⟩, m6.to (z32 12 (by decide) (by decide) (by decide) (by decide) (by decide) (by decide) (by decide)) (za 39 (by omega))⟩
  · right
    have r2 : CRw M2 15 0 (N, A, ap) := CRow.to s2 hsn (by omega) (fun i _ _ => by rw [x4 15 (by omega) (by decide) (by decide)])
    obtain ⟨M3, y1, y2, y3, y4⟩ := CRow.load (k9 := 15) (L := 85) (b := 0) r2 hsn (by decide) (by decide) (by decide) (by omega)
    have k16 : mset (mset M3 16 1 (zI 0)) 0 7 (zI (v : Int)) 16 1 = zI 0 := by rw [mset_ne _ _ _ (by decide), mset_at]
    have k07 : mset (mset M3 16 1 (zI 0)) 0 7 (zI (v : Int)) 0 7 = zI (v : Int) := mset_at _ _ _ _
    have k0 : ∀ i, i ≠ 7 → mset (mset M3 16 1 (zI 0)) 0 7 (zI (v : Int)) 0 i = M 0 i := fun i hi => by rw [mset_oth _ _ _ _ hi, mset_ne _ _ _ (by decide), y4 0 (by omega), x4 0 (by omega) (by decide) (by decide), aj 0 (by decide) (by decide) (by decide)]
    have kj : ∀ j, j ≠ 0 → j ≠ 16 → mset (mset M3 16 1 (zI 0)) 0 7 (zI (v : Int)) j = M3 j := fun j j0 j1 => by rw [mset_ne _ _ _ j0, mset_ne _ _ _ j1]
    have hx : fn_SA_run M = some (.inr 2, mset (mset M3 16 1 (zI 0)) 0 7 (zI (v : Int))) := by
      rw [hrun, x1]
      unfold fn_SA_execute_91 fn_In_clear
      rw [show (0 : Int32) = zI 0 from rfl, y1, bnd_ok, bnd_ok, lm_eq, bnd_ok, if_neg (by rw [show (-1 : Int32) = zI (-1) from rfl, zI_eq (by omega) (by omega)]; omega), lm_eq]
    generalize mset (mset M3 16 1 (zI 0)) 0 7 (zI (v : Int)) = M4 at *
    have all : ∀ j, 12 ≤ j → j ≠ 15 → j ≠ 16 → j ≠ 18 → M4 j = M j := fun j j0 j1 j2 j3 => by rw [kj j (by omega) j2, y4 j (by omega), x4 j (by omega) j2 j3, aj j j1 j2 j3]
    obtain ⟨Mb, Mp, b1, b2, p1, p2, p3, p4, p5, p6, p7, p8⟩ := hM M4 (fun j j0 j1 => all j (by omega) (by omega) (by omega) (by omega))
    obtain ⟨Mm, u1, u3⟩ := x5 2000 Mp (by omega) p1 p4 p5
    have hrow : MRw Mm 34 0 (N, A, ap) := MRow.to p2 hsn (by omega) (fun i _ _ => by rw [u3 34 (by decide) (by decide)])
    obtain ⟨Mc, h1, h2, h3, h4⟩ := m_copy Mm (k1 := 34) (k2 := 33) (L1 := 85) (L2 := 85) (b1 := 0) (b2 := 0) (by decide) (by decide) (by omega) (by omega) (by omega)
    have hms : IMs N A ap Mc := MRw.back (S := (N, A, ap)) (MRow.copy hrow hsn h2) hsn
    have g6 : mset (mset Mc 32 9 (zI (v : Int))) 32 6 2 32 6 = 2 := mset_at _ _ _ _
    have g9 : mset (mset Mc 32 9 (zI (v : Int))) 32 6 2 32 9 = zI (v : Int) := by rw [mset_oth _ _ _ _ (by decide), mset_at]
    have gi : ∀ i, i ≠ 6 → i ≠ 9 → mset (mset Mc 32 9 (zI (v : Int))) 32 6 2 32 i = Mp 32 i := fun i i1 i2 => by rw [mset_oth _ _ _ _ i1, mset_oth _ _ _ _ i2, h4 32 (by decide), u3 32 (by decide) (by decide)]
    have gj : ∀ j, j ≠ 32 → mset (mset Mc 32 9 (zI (v : Int))) 32 6 2 j = Mc j := fun j j1 => by rw [mset_ne _ _ _ j1, mset_ne _ _ _ j1]
    have hy : fn_Mo_run M4 = some (.inl 0, mset (mset Mc 32 9 (zI (v : Int))) 32 6 2) := by
      rw [b2, u1]
      unfold fn_Mo_run_104
      rw [show (0 : Int32) = zI 0 from rfl, h1, bnd_ok, lm_eq]
      rfl
    generalize mset (mset Mc 32 9 (zI (v : Int))) 32 6 2 = Me at *
    have z32 : ∀ i, i ≠ 6 → i ≠ 9 → i ≠ 18 → i ≠ 19 → i ≠ 20 → i ≠ 21 → i ≠ 22 → Me 32 i = M 32 i := fun i i1 i2 i3 i4 i5 i6 i7 => by rw [gi i i1 i2, p7 i i1 i3 i4 i5 i6 i7]
    have zm : ∀ j, j ≠ 32 → j ≠ 33 → j ≠ 34 → j ≠ 38 → j ≠ 41 → j ≠ 42 → j ≠ 43 → j ≠ 44 → Me j = M4 j := fun j j1 j2 j3 j5 j6 j7 j8 j9 => by rw [gj j j1, h4 j j2, u3 j j2 j5, p8 j j1 j3 j6 j7 j8 j9]
    have zc : ∀ j, j < 32 → Me j = M4 j := fun j j1 => zm j (by omega) (by omega) (by omega) (by omega) (by omega) (by omega) (by omega) (by omega)
    have za : ∀ j, j = 12 ∨ j = 13 ∨ j = 14 ∨ j = 17 ∨ j = 19 ∨ j = 35 ∨ j = 36 ∨ j = 39 ∨ j = 40 → Me j = M j := fun j j1 => by rw [zm j (by omega) (by omega) (by omega) (by omega) (by omega) (by omega) (by omega) (by omega), all j (by omega) (by omega) (by omega) (by omega)]
    refine ⟨2, 0, 2, M4, Me, hx, rfl, by decide, hy, g6, N, A, ap, d, nx, H, sv, S, ep, (v : Int), 0, tx, ln, lc, ⟨ICs.to (M := M3) ⟨y2, y3⟩ (fun j j0 j1 => by rw [zc j (by omega), kj j (by omega) (by omega)]), c2.to (za 12 (by omega)) (za 13 (by omega)), c3.to (by rw [zc 0 (by decide), k0 3 (by decide)]) (za 14 (by omega)), ⟨c4.1, by omega, by rw [zc 0 (by decide), k0 6 (by decide)]; exact c4.2.2.1, by rw [zc 0 (by decide)]; exact k07⟩, ⟨by omega, by rw [zc 16 (by decide)]; exact k16, fun i i0 i1 => absurd i1 (by omega), c5.2.2.2⟩, c6.to (za 19 (by omega))⟩,
      hms.to (gj 33 (by decide)), m2.to hHs (z32 7 (by decide) (by decide) (by decide) (by decide) (by decide) (by decide) (by decide)) (za 36 (by omega)), m3.to (fun z => (c3.2.2 z).2) (z32 10 (by decide) (by decide) (by decide) (by decide) (by decide) (by decide) (by decide)) (za 35 (by omega)), ⟨by rw [z32 8 (by decide) (by decide) (by decide) (by decide) (by decide) (by decide) (by decide)]; exact m4.1, g9⟩, ⟨by rw [gi 18 (by decide) (by decide)]; exact p6, fun i i0 i1 => absurd i1 (by omega)⟩, m6.to (z32 12 (by decide) (by decide) (by decide) (by decide) (by decide) (by decide) (by decide)) (za 39 (by omega))⟩
theorem St_run : StepOK fn_SA_run [(1, 1), (2, 2)] fn_Mo_run := by
  intro M hI
  obtain ⟨N, A, ap, d, nx, H, sv, S, ep, fl, cnt, tx, ln, lc, ⟨c1, c2, c3, c4, c5, c6⟩, m1, m2, m3, m4, m5, m6⟩ := hI
  by_cases c : (prR cnt tx 61 0 1).1 = true
  · exact run_B c1 c2 c3 c4 c5 c6 m1 m2 m3 m4 m5 m6 c
  · exact run_A c1 c2 c3 c4 c5 c6 m1 m2 m3 m4 m5 m6 (bool_f c)
