/-! run: a text that is no program -/
theorem bool_t {b : Bool} (h : ¬ b = false) : b = true := by
  cases b with
  | true => rfl
  | false => exact absurd rfl h
def RunAt (M : Mm) : Prop := (∃ r M1 M2, fn_SA_run M = some (.inl r, M1) ∧ fn_Mo_run (mset M1 45 0 r) = some (.inl r, M2) ∧ M2 32 6 = 0 ∧ M2 45 0 = r ∧ INV M2) ∨ ∃ q b c M1 M2, fn_SA_run M = some (.inr q, M1) ∧ cod [(1, 1), (2, 2)] q = some c ∧ c ≠ 0 ∧ fn_Mo_run M1 = some (.inl b, M2) ∧ M2 32 6 = c ∧ INV M2
theorem run_A {M : Mm} {N : Int → Int} {A : Int → Int → Int} {ap d nx : Int} {H : Int → SNP} {sv : Int} {S : SNP} {ep fl cnt : Int} {tx : Int → Int} {ln : Int} {lc : Int → Int} (c1 : ICs N A ap M) (c2 : ICh d nx H M) (c3 : ICv sv S M) (c4 : ICe ep fl M) (c5 : ICt cnt tx M) (c6 : ICl ln lc M) (m1 : IMs N A ap M) (m2 : IMh d H M) (m3 : IMv sv S M) (m4 : IMe ep fl M) (m5 : IMt cnt tx M) (m6 : IMl ln lc M) (no : (prR cnt tx 61 0 1).1 = false) : RunAt M := by
  have hHs : ∀ q, 0 ≤ q → q < d → SnS (H q) := fun q q0 q1 => (c2.2.2.2.2 q q0 q1).2
  have hsn := c1.1.sn
  have hb := prR_b (cnt := cnt) (tx := tx) 61 0 1 (by omega) c5.1.1 (by omega) (by omega)
  obtain ⟨M1, e1, e2, e3, e4⟩ := (In_count c5).2 no
  have he := hb.2.1 no
  have hcn := c5.1
  generalize hee : (prR cnt tx 61 0 1).2 = e at *
  right
  have k16 : mset (mset M1 0 6 (zI e)) 16 1 (zI 0) 16 1 = zI 0 := mset_at _ _ _ _
  have k06 : mset (mset M1 0 6 (zI e)) 16 1 (zI 0) 0 6 = zI e := by rw [mset_ne _ _ _ (by decide), mset_at]
  have k0 : ∀ i, i ≠ 6 → mset (mset M1 0 6 (zI e)) 16 1 (zI 0) 0 i = M 0 i := fun i hi => by rw [mset_ne _ _ _ (by decide), mset_oth _ _ _ _ hi, e4 0 (by decide) (by decide)]
  have kj : ∀ j, j ≠ 0 → j ≠ 16 → j ≠ 18 → mset (mset M1 0 6 (zI e)) 16 1 (zI 0) j = M j := fun j j1 j2 j3 => by rw [mset_ne _ _ _ j2, mset_ne _ _ _ j1, e4 j j2 j3]
  have hx : fn_SA_run M = some (.inr 1, mset (mset M1 0 6 (zI e)) 16 1 (zI 0)) := by
    unfold fn_SA_run fn_In_errorPlace fn_In_clear
    rw [e1, bnd_ok, if_pos (by decide), bnd_ok, e3, lm_eq, lm_eq, bnd_ok]
    rfl
  generalize mset (mset M1 0 6 (zI e)) 16 1 (zI 0) = M2 at *
  have n1 : IMs N A ap M2 := m1.to (kj 33 (by decide) (by decide) (by decide))
  obtain ⟨Mb, b1, b2, b3, b4, b5⟩ := m_begin n1.1 hsn n1.2
  have t5 : IMt cnt tx Mb := m5.to (by rw [b4 18 (by decide), kj 32 (by decide) (by decide) (by decide)]) (by rw [b5 40 (by decide) (by decide), kj 40 (by decide) (by decide) (by decide)])
  obtain ⟨Mp, f1, f2, f3, f4⟩ := (Mo_parse c5.1 c5.2.2.2 t5).2 no
  rw [hee] at f3
  have g6 : mset (mset Mp 32 8 (zI e)) 32 6 1 32 6 = 1 := mset_at _ _ _ _
  have g8 : mset (mset Mp 32 8 (zI e)) 32 6 1 32 8 = zI e := by rw [mset_oth _ _ _ _ (by decide), mset_at]
  have gi : ∀ i, i ≠ 6 → i ≠ 8 → mset (mset Mp 32 8 (zI e)) 32 6 1 32 i = Mp 32 i := fun i i1 i2 => by rw [mset_oth _ _ _ _ i1, mset_oth _ _ _ _ i2]
  have gj : ∀ j, j ≠ 32 → mset (mset Mp 32 8 (zI e)) 32 6 1 j = Mp j := fun j j1 => by rw [mset_ne _ _ _ j1, mset_ne _ _ _ j1]
  have hy : fn_Mo_run M2 = some (.inl 0, mset (mset Mp 32 8 (zI e)) 32 6 1) := by
    unfold fn_Mo_run
    rw [b1, bnd_ok, f1, bnd_ok, f2, if_neg (by decide), f3, lm_eq]
    rfl
  generalize mset (mset Mp 32 8 (zI e)) 32 6 1 = M3 at *
  have z32 : ∀ i, i ≠ 6 → i ≠ 8 → i ≠ 18 → i ≠ 19 → i ≠ 20 → i ≠ 21 → i ≠ 22 → M3 32 i = M 32 i := fun i i1 i2 i3 i4 i5 i6 i7 => by rw [gi i i1 i2, f4.2.1 i i3 i4 i5 i6 i7, b4 i i1, kj 32 (by decide) (by decide) (by decide)]
  have zm : ∀ j, j ≠ 32 → j ≠ 34 → j ≠ 41 → j ≠ 42 → j ≠ 43 → j ≠ 44 → M3 j = M2 j := fun j j1 j2 j3 j4 j5 j6 => by rw [gj j j1, f4.1 j j1 j3 j4 j5 j6, b5 j j1 j2]
  have zc : ∀ j, j < 32 → M3 j = M2 j := fun j j1 => zm j (by omega) (by omega) (by omega) (by omega) (by omega) (by omega)
  have zz : ∀ j, j < 32 → j ≠ 0 → j ≠ 16 → j ≠ 18 → M3 j = M j := fun j j1 j2 j3 j4 => by rw [zc j j1, kj j j2 j3 j4]
  have zo : ∀ j, j = 33 ∨ j = 35 ∨ j = 36 ∨ j = 39 ∨ j = 40 → M3 j = M j := fun j j1 => by rw [zm j (by omega) (by omega) (by omega) (by omega) (by omega) (by omega), kj j (by omega) (by omega) (by omega)]
  refine ⟨1, 0, 1, M2, M3, hx, rfl, by decide, hy, g6, N, A, ap, d, nx, H, sv, S, e, fl, 0, tx, ln, lc, ⟨c1.to (fun j j0 j1 => zz j (by omega) (by omega) (by omega) (by omega)), c2.to (zz 12 (by decide) (by decide) (by decide) (by decide)) (zz 13 (by decide) (by decide) (by decide) (by decide)), c3.to (by rw [zc 0 (by decide), k0 3 (by decide)]) (zz 14 (by decide) (by decide) (by decide) (by decide)), ⟨by omega, c4.2.1, by rw [zc 0 (by decide)]; exact k06, by rw [zc 0 (by decide), k0 7 (by decide)]; exact c4.2.2.2⟩, ⟨by omega, by rw [zc 16 (by decide)]; exact k16, fun i i0 i1 => absurd i1 (by omega), c5.2.2.2⟩, c6.to (zz 19 (by decide) (by decide) (by decide) (by decide))⟩,
    m1.to (zo 33 (by omega)), m2.to hHs (z32 7 (by decide) (by decide) (by decide) (by decide) (by decide) (by decide) (by decide)) (zo 36 (by omega)), m3.to (fun z => (c3.2.2 z).2) (z32 10 (by decide) (by decide) (by decide) (by decide) (by decide) (by decide) (by decide)) (zo 35 (by omega)), ⟨g8, by rw [z32 9 (by decide) (by decide) (by decide) (by decide) (by decide) (by decide) (by decide)]; exact m4.2⟩, ⟨by rw [gi 18 (by decide) (by decide)]; exact f4.2.2, fun i i0 i1 => absurd i1 (by omega)⟩, m6.to (z32 12 (by decide) (by decide) (by decide) (by decide) (by decide) (by decide) (by decide)) (zo 39 (by omega))⟩
