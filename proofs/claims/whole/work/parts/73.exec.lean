/-! EXECUTING A PROGRAM'S COMMANDS: class and model side by side -/
def FE (M M1 : Mm) : Prop := ∀ j, j = 0 ∨ 12 ≤ j → j ≠ 16 → j ≠ 18 → M1 j = M j
theorem FE.tr {A B C : Mm} (h : FE A B) (k : FE B C) : FE A C := fun j j1 j2 j3 => (k j j1 j2 j3).trans (h j j1 j2 j3)
theorem FI.e {M M1 : Mm} (h : FI M M1) : FE M M1 := fun j _ j2 j3 => h j j2 j3
theorem kc_1 : ∀ k : Fin 9, 1 ≤ kcF (pzS k.val) := by decide +kernel
theorem arg_z {M : Mm} {i : Nat} (hi : i < 3) : fn_In_argument (zI (i : Int)) M = some (.inl (M 18 i), M) := by
  unfold fn_In_argument
  rw [rd (k := 18) (L := 3) (by decide) (by decide) (by omega), bnd_ok, show ((i : Int)).toNat = i from Int.toNat_natCast i]
/-- a value of the arguments: what the command says where it says it, whatever stands there where not -/
theorem arg_ex {M : Mm} {i : Nat} {m : Int} {ag : Int → Int} (h : ∀ i, 0 ≤ i → i < m → M 18 i.toNat = zI (ag i)) (hb : ∀ i, -99 ≤ ag i ∧ ag i ≤ 99) : ∃ a, M 18 i = zI a ∧ (-2147483648 ≤ a ∧ a < 2147483648) ∧ ((i : Int) < m → a = ag i) := by
  by_cases c : (i : Int) < m
  · have h1 := h i (by omega) c
    rw [show ((i : Int)).toNat = i from Int.toNat_natCast i] at h1
    have h2 := hb i
    exact ⟨ag i, h1, by omega, fun _ => rfl⟩
  · obtain ⟨z, z1, z2⟩ := zI_ex (M 18 i)
    exact ⟨z, z1, z2, fun y => absurd y c⟩
theorem Exec {cnt : Int} {tx : Int → Int} {C : Nat} (hC : C < 32) (hcm : ∀ q : Nat, q < C → (cmd cnt tx (psF cnt tx q)).1 = true ∧ 0 ≤ psF cnt tx q ∧ psF cnt tx q ≤ cnt) : ∀ (r n q : Nat) (N : Int → Int) (A : Int → Int → Int) (ap : Int) (M : Mm), q + r = C → r < n → ICs N A ap M → ICt cnt tx M →
    (∃ N' A' ap' M1, fn_SA_execute_16 (zI (C : Int)) n (zI (psF cnt tx q)) (zI (q : Int)) M = fn_SA_execute_132 M1 ∧ ICs N' A' ap' M1 ∧ ICt cnt tx M1 ∧ FE M M1 ∧ ∀ (m : Nat) (Mm0 : Mm), r < m → IMs N A ap Mm0 → ARs cnt tx C Mm0 → Mm0 32 21 = zI (C : Int) → ∃ Mm1, fn_Mo_run_33 m (zI (q : Int)) Mm0 = fn_Mo_run_134 Mm1 ∧ IMs N' A' ap' Mm1 ∧ ∀ j, j ≠ 33 → j ≠ 38 → Mm1 j = Mm0 j)
    ∨ ∃ (v : Nat) (M1 : Mm), v < C ∧ fn_SA_execute_16 (zI (C : Int)) n (zI (psF cnt tx q)) (zI (q : Int)) M = fn_SA_execute_91 (zI (v : Int)) M1 ∧ ICt cnt tx M1 ∧ FE M M1 ∧ ∀ (m : Nat) (Mm0 : Mm), r < m → IMs N A ap Mm0 → ARs cnt tx C Mm0 → Mm0 32 21 = zI (C : Int) → ∃ Mm1, fn_Mo_run_33 m (zI (q : Int)) Mm0 = fn_Mo_run_104 (zI (v : Int)) Mm1 ∧ ∀ j, j ≠ 33 → j ≠ 38 → Mm1 j = Mm0 j := by
  intro r
  induction r with
  | zero =>
    intro n q N A ap M hq hn h ht
    left
    cases n with
    | zero => exact absurd hn (by omega)
    | succ n =>
      refine ⟨N, A, ap, M, ?_, h, ht, fun _ _ _ _ => rfl, fun m Mm0 hm hM hA h21 => ?_⟩
      · rw [fn_SA_execute_16, if_pos (by rw [zI_le (by omega) (by omega)]; omega)]
      · cases m with
        | zero => exact absurd hm (by omega)
        | succ m =>
          refine ⟨Mm0, ?_, hM, fun _ _ _ => rfl⟩
          rw [fn_Mo_run_33, h21, if_pos (by rw [zI_le (by omega) (by omega)]; omega)]
  | succ r ih =>
    intro n q N A ap M hq hn h ht
    cases n with
    | zero => exact absurd hn (by omega)
    | succ n =>
      obtain ⟨ok, p0, p1⟩ := hcm q (by omega)
      have hcb := cmd_b (cnt := cnt) (tx := tx) ⟨p0, p1⟩
      have hk := (hcb.2.2.1 ok).2
      have hag := hcb.2.2.2
      obtain ⟨M1, e1, f1, f2, f3, f4⟩ := (In_readCommand ⟨p0, p1⟩ ht).1 ok
      have hps : psF cnt tx (q + 1) = (cmd cnt tx (psF cnt tx q)).2.1 + 1 := rfl
      generalize hkd : (cmd cnt tx (psF cnt tx q)).2.2.1 = k at *
      generalize hga : (cmd cnt tx (psF cnt tx q)).2.2.2 = ag at *
      have hk1 : 1 ≤ kcF (pzS k) := kc_1 ⟨k, hk⟩
      obtain ⟨a0, b0, r0, g0⟩ := arg_ex (M := M1) (i := 0) f2.2.2.2.2.2 hag
      obtain ⟨a1, b1, r1, g1⟩ := arg_ex (M := M1) (i := 1) f2.2.2.2.2.2 hag
      obtain ⟨a2, b2, r2, g2⟩ := arg_ex (M := M1) (i := 2) f2.2.2.2.2.2 hag
      have h1 : ICs N A ap M1 := h.to (fun j j0 j1 => f4 j (by omega) (by omega))
      have hF := F_c hk r0 r1 r2 h1.1
      have hft := ftR k a0 a1 a2 N A
      have hx : fn_SA_execute_16 (zI (C : Int)) (n + 1) (zI (psF cnt tx q)) (zI (q : Int)) M = if ftF k a0 a1 a2 N A = 0 then (bnd (fn_St_apply k (zI a0) (zI a1) (zI a2) M1) (fun r117 M117 => fn_SA_execute_16 (zI (C : Int)) n (zI (psF cnt tx (q + 1))) (zI ((q + 1 : Nat) : Int)) M117)) else (fn_SA_execute_91 (zI (q : Int)) M1) := by
        have x0 : fn_In_argument 0 M1 = some (.inl (M1 18 0), M1) := arg_z (by decide)
        have x1 : fn_In_argument 1 M1 = some (.inl (M1 18 1), M1) := arg_z (by decide)
        have x2 : fn_In_argument 2 M1 = some (.inl (M1 18 2), M1) := arg_z (by decide)
        rw [fn_SA_execute_16, if_neg (by rw [zI_le (by omega) (by omega)]; omega), f1, bnd_ok]
        unfold fn_In_kind
        rw [f3, zI_cl (by omega) (by omega), show ((k : Int)).toNat = k from Int.toNat_natCast k, grd_lt hk, bnd_ok, grd_lt hk, x0, bnd_ok, x1, bnd_ok, x2, bnd_ok, b0, b1, b2, hF, bnd_ok, grd_lt (by omega), hps, show ((q + 1 : Nat) : Int) = (q : Int) + 1 from rfl, show (1 : Int32) = zI 1 from rfl, zI_add, zI_add]
        rfl
      have hmod : ∀ (m : Nat) (Mm0 : Mm), IMs N A ap Mm0 → ARs cnt tx C Mm0 → Mm0 32 21 = zI (C : Int) → fn_Mo_run_33 (m + 1) (zI (q : Int)) Mm0 = if ftF k a0 a1 a2 N A = 0 then (bnd (fn_Mo_does (zI (k : Int)) (zI a0) (zI a1) (zI a2) Mm0) (fun r97 M97 => fn_Mo_run_33 m (zI ((q + 1 : Nat) : Int)) M97)) else (fn_Mo_run_104 (zI (q : Int)) Mm0) := by
        intro m Mm0 hM hA h21
        have hAR := hA q (by omega)
        rw [hkd, hga] at hAR
        unfold AR at hAR
        rw [show ((q : Int)).toNat = q from Int.toNat_natCast q] at hAR
        obtain ⟨w1, w2, w3, w4⟩ := hAR
        have hcl : (zI (q : Int)).toNatClampNeg = q := by rw [zI_cl (by omega) (by omega), show ((q : Int)).toNat = q from Int.toNat_natCast q]
        have y1 : Mm0 41 (zI (q : Int)).toNatClampNeg = zI (k : Int) := by rw [hcl]; exact w1
        have y2 : Mm0 42 (zI (q : Int)).toNatClampNeg = zI (ag 0) := by rw [hcl]; exact w2
        have y3 : 2 ≤ kcF (pzS k) → Mm0 43 (zI (q : Int)).toNatClampNeg = zI (ag 1) := by rw [hcl]; exact w3
        have y4 : 3 ≤ kcF (pzS k) → Mm0 44 (zI (q : Int)).toNatClampNeg = zI (ag 2) := by rw [hcl]; exact w4
        have z0 : zI (ag 0) = zI a0 := by rw [g0 (by omega)]; rfl
        have hA2 := mo_args hk (p := zI a0) (x := zI a1) (y := zI a2) (x' := Mm0 43 (zI (q : Int)).toNatClampNeg) (y' := Mm0 44 (zI (q : Int)).toNatClampNeg) (fun z => by rw [y3 z, g1 (by omega)]; rfl) (fun z => by rw [y4 z, g2 (by omega)]; rfl) Mm0
        have hFm := F_m hk r0 r1 r2 hM.1
        have i32 : ∀ {t : Rs Int32} {d : Decidable (inb (zI (q : Int)) 32)}, @grd _ (inb (zI (q : Int)) 32) d t = t := fun {t} {d} => grd_inb (by omega) (by omega) (by omega)
        rw [fn_Mo_run_33, h21, if_neg (by rw [zI_le (by omega) (by omega)]; omega), i32, i32, i32, i32, y1, y2, z0, hA2.1, hFm, bnd_ok]
        by_cases c : ftF k a0 a1 a2 N A = 0
        · rw [if_pos c, whR0' k a0 a1 a2 N A c, if_pos (by decide), i32, i32, i32, i32, y1, y2, z0, hA2.2, show (1 : Int32) = zI 1 from rfl, zI_add]
          rfl
        · have w := (whR0 k a0 a1 a2 N A).1 c
          rw [if_neg c, if_neg (by rw [show (0 : Int32) = zI 0 from rfl, zI_eq (whR k a0 a1 a2 N A) (by omega)]; omega)]
      by_cases c : ftF k a0 a1 a2 N A = 0
      · obtain ⟨n', a', w, hCl, hMo⟩ := E_all hk c
        obtain ⟨M2, d1, d2, d3, d4, d5⟩ := hCl M1 h1.1
        have h2 : ICs (upN N a0 n') (upA A a0 a') (if k = 0 then ap + 1 else ap) M2 := by
          refine ⟨upCs d2 d3, ?_⟩
          rw [d4, h1.2]
          by_cases c9 : k = 0
          · rw [if_pos c9, if_pos c9, show (1 : Int32) = zI 1 from rfl, zI_add]
          · rw [if_neg c9, if_neg c9]
        have ht2 : ICt cnt tx M2 := f2.1.to (by rw [d5 16 (by omega)]) (d5 17 (by omega))
        have fe : FE M M2 := f4.e.tr (fun j j1 _ _ => d5 j j1)
        have hmm : ∀ (m : Nat) (Mm0 : Mm), IMs N A ap Mm0 → ARs cnt tx C Mm0 → Mm0 32 21 = zI (C : Int) → ∃ Mm2, fn_Mo_run_33 (m + 1) (zI (q : Int)) Mm0 = fn_Mo_run_33 m (zI ((q + 1 : Nat) : Int)) Mm2 ∧ IMs (upN N a0 n') (upA A a0 a') (if k = 0 then ap + 1 else ap) Mm2 ∧ ∀ j, j ≠ 33 → j ≠ 38 → Mm2 j = Mm0 j := by
          intro m Mm0 hM hA h21
          obtain ⟨Mm2, v1, v2, v3, v4, v5⟩ := hMo Mm0 hM.1
          refine ⟨Mm2, ?_, ⟨upMs v2 v3, ?_⟩, v5⟩
          · rw [hmod m Mm0 hM hA h21, if_pos c, v1, bnd_ok]
          · rw [v4, hM.2]
            by_cases c9 : k = 0
            · rw [if_pos c9, if_pos c9, show (1 : Int32) = zI 1 from rfl, zI_add]
            · rw [if_neg c9, if_neg c9]
        rw [hx, if_pos c, d1, bnd_ok]
        rcases ih n (q + 1) _ _ _ M2 (by omega) (by omega) h2 ht2 with ⟨N', A', ap', M3, j1, j2, j3, j4, j5⟩ | ⟨v, M3, j0, j1, j3, j4, j5⟩
        · refine .inl ⟨N', A', ap', M3, j1, j2, j3, fe.tr j4, fun m Mm0 hm hM hA h21 => ?_⟩
          cases m with
          | zero => exact absurd hm (by omega)
          | succ m =>
            obtain ⟨Mm2, v1, v2, v3⟩ := hmm m Mm0 hM hA h21
            obtain ⟨Mm3, u1, u2, u3⟩ := j5 m Mm2 (by omega) v2 (fun i hi => (hA i hi).to (fun j j1 j2 => by rw [v3 j (by omega) (by omega)])) (by rw [v3 32 (by decide) (by decide)]; exact h21)
            exact ⟨Mm3, by rw [v1, u1], u2, fun j j1 j2 => by rw [u3 j j1 j2, v3 j j1 j2]⟩
        · refine .inr ⟨v, M3, j0, j1, j3, fe.tr j4, fun m Mm0 hm hM hA h21 => ?_⟩
          cases m with
          | zero => exact absurd hm (by omega)
          | succ m =>
            obtain ⟨Mm2, v1, v2, v3⟩ := hmm m Mm0 hM hA h21
            obtain ⟨Mm3, u1, u3⟩ := j5 m Mm2 (by omega) v2 (fun i hi => (hA i hi).to (fun j j1 j2 => by rw [v3 j (by omega) (by omega)])) (by rw [v3 32 (by decide) (by decide)]; exact h21)
            exact ⟨Mm3, by rw [v1, u1], fun j j1 j2 => by rw [u3 j j1 j2, v3 j j1 j2]⟩
      · refine .inr ⟨q, M1, by omega, by rw [hx, if_neg c], f2.1, f4.e, fun m Mm0 hm hM hA h21 => ?_⟩
        cases m with
        | zero => exact absurd hm (by omega)
        | succ m => exact ⟨Mm0, by rw [hmod m Mm0 hM hA h21, if_neg c], fun _ _ _ => rfl⟩
