/-! THE LAW'S LOOP -/
def RET (x : Rs Int32) : Prop := ∃ M1, x = some (.inl 1, M1)
theorem cix_cod : ∀ (cs : List (Nat × Int32)) (q : Nat), cix cs q = cod cs q
  | [], _ => rfl
  | a :: t, q => by
    show (if a.1 = q then some a.2 else cix t q) = (if a.1 = q then some a.2 else cod t q)
    rw [cix_cod t q]
theorem lg_same (x : Int32) : lg_cmp x.toInt64 x.toInt64 = 0 := by
  unfold lg_cmp
  rw [if_neg (fun h => Int64.lt_irrefl h), if_pos rfl]
theorem cat_ok {β : Type} (cs : List (Nat × Int32)) (a : β) (M : Mm) (k : β → Mm → Rs Int32) : cat cs (some (.inl a, M)) k = k a M := rfl
theorem cat_ex {β : Type} {cs : List (Nat × Int32)} {q : Nat} {v : Int32} (h : cod cs q = some v) (M : Mm) (k : β → Mm → Rs Int32) : cat cs (some (.inr q, M)) k = some (.inl v, M) := by
  show (match cix cs q with | some v => (some (.inl v, M) : Rs Int32) | none => none) = _
  rw [cix_cod, h]
theorem k4 {k28 : Int32 → Mm → Rs Int32} {i : Int} (hK : ∀ M', INV M' → RET (k28 (zI (i + 4)) M')) : ∀ M', INV M' → RET (li (zI i + 4) (fun x => k28 x M')) := by
  intro M' h
  rw [li_eq, show (4 : Int32) = zI 4 from rfl, zI_add]
  exact hK M' h
theorem g1 {i : Int} {sl : Nat} (h0 : 0 ≤ i) (h1 : i + 4 ≤ (sl : Int)) (h2 : (sl : Int) ≤ 2048) : inb (zI i + 1) sl := by
  rw [show (1 : Int32) = zI 1 from rfl, zI_add]
  exact inb_z (by omega) (by omega) (by omega)
theorem g2 {i : Int} {sl : Nat} (h0 : 0 ≤ i) (h1 : i + 4 ≤ (sl : Int)) (h2 : (sl : Int) ≤ 2048) : inb (zI i + 2) sl := by
  rw [show (2 : Int32) = zI 2 from rfl, zI_add]
  exact inb_z (by omega) (by omega) (by omega)
theorem g3 {i : Int} {sl : Nat} (h0 : 0 ≤ i) (h1 : i + 4 ≤ (sl : Int)) (h2 : (sl : Int) ≤ 2048) : inb (zI i + 3) sl := by
  rw [show (3 : Int32) = zI 3 from rfl, zI_add]
  exact inb_z (by omega) (by omega) (by omega)
theorem chr_ex (x : Int32) : ∃ v : Int, (x.toUInt32 % 65536).toInt32 = zI v ∧ 0 ≤ v ∧ v < 65536 := by
  have hu : (x.toUInt32 % 65536).toNat < 65536 := by
    show x.toUInt32.toNat % 65536 < 65536
    exact Nat.mod_lt _ (by decide)
  refine ⟨((x.toUInt32 % 65536).toNat : Int), ?_, by omega, by omega⟩
  generalize x.toUInt32 % 65536 = u at hu ⊢
  have hb : u.toInt32.toBitVec = (zI (u.toNat : Int)).toBitVec := by
    show u.toBitVec = BitVec.ofInt 32 (u.toNat : Int)
    apply BitVec.eq_of_toNat_eq
    rw [BitVec.ofInt_natCast, BitVec.toNat_ofNat]
    show u.toNat = u.toNat % 2 ^ 32
    exact (Nat.mod_eq_of_lt (by omega)).symm
  exact Int32.toBitVec.inj hb
theorem Case {x y : Mm → Rs Int32} {cs : List (Nat × Int32)} (h : StepOK x cs y) {K : Mm → Rs Int32} (hK : ∀ M', INV M' → RET (K M')) {M : Mm} (hI : INV M) : RET (bnd (cat cs (x M) (fun r M1 => lm (mset M1 45 0 r) (fun M2 => some (.inl 0, M2)))) (fun r M1 => bnd (y M1) (fun b M2 => bnd (fn_Mo_thrown M2) (fun t M3 => if t = r then (if r = 0 then (if (lg_cmp ((M3 45 0)).toInt64 (b).toInt64) = 0 then K M3 else (some (.inl 0, M3))) else K M3) else (some (.inl 0, M3)))))) := by
  rcases h M hI with ⟨r, M1, M2, e1, e2, e3, e4, e5⟩ | ⟨q, b, c, M1, M2, e1, hc, hc0, e2, e3, e4⟩
  · rw [e1, cat_ok, lm_eq, bnd_ok, e2, bnd_ok]
    unfold fn_Mo_thrown
    rw [bnd_ok, e3, if_pos rfl, if_pos rfl, e4, if_pos (lg_same r)]
    exact hK _ e5
  · rw [e1, cat_ex hc, bnd_ok, e2, bnd_ok]
    unfold fn_Mo_thrown
    rw [bnd_ok, e3, if_pos rfl, if_neg hc0]
    exact hK _ e4
theorem CaseB {x y : Mm → Rs Int32} {cs : List (Nat × Int32)} (h : AgR x cs y) {K : Mm → Rs Int32} (hK : ∀ M', INV M' → RET (K M')) {M : Mm} (hI : INV M) : RET (bnd (cat cs (x M) (fun r M1 => if r = 0 then (lm (mset M1 45 0 0) (fun M2 => some (.inl 0, M2))) else (lm (mset M1 45 0 1) (fun M2 => some (.inl 0, M2))))) (fun r M1 => bnd (y M1) (fun b M2 => bnd (fn_Mo_thrown M2) (fun t M3 => if t = r then (if r = 0 then (if b = 0 then (if (lg_cmp ((M3 45 0)).toInt64 ((0 : Int32)).toInt64) = 0 then K M3 else (some (.inl 0, M3))) else (if (lg_cmp ((M3 45 0)).toInt64 ((1 : Int32)).toInt64) = 0 then K M3 else (some (.inl 0, M3)))) else K M3) else (some (.inl 0, M3)))))) := by
  obtain ⟨N, A, hC, hM⟩ := hI.cs
  rcases h M N A hC hM with ⟨r, ⟨M1, e1, o1⟩, hy⟩ | ⟨q, b, c, ⟨M1, e1, o1⟩, hc, hc0, hy⟩
  · rw [e1, cat_ok]
    by_cases k : r = 0
    · have o2 := o1.tr (Off.sc M1 45 (upd (M1 45) 0 0) (by omega))
      obtain ⟨M2, f1, f2, f3, f4, -⟩ := hy (mset M1 45 0 0) (hM.off o2)
      rw [if_pos k, lm_eq, bnd_ok, f1, bnd_ok]
      unfold fn_Mo_thrown
      rw [bnd_ok, f3, if_pos rfl, if_pos rfl, if_pos k, f4, mset_at, if_pos (lg_same 0)]
      exact hK _ (hI.off (o2.tr f2))
    · have o2 := o1.tr (Off.sc M1 45 (upd (M1 45) 0 1) (by omega))
      obtain ⟨M2, f1, f2, f3, f4, -⟩ := hy (mset M1 45 0 1) (hM.off o2)
      rw [if_neg k, lm_eq, bnd_ok, f1, bnd_ok]
      unfold fn_Mo_thrown
      rw [bnd_ok, f3, if_pos rfl, if_pos rfl, if_neg k, f4, mset_at, if_pos (lg_same 1)]
      exact hK _ (hI.off (o2.tr f2))
  · obtain ⟨M2, f1, f2, f3, -, -⟩ := hy M1 (hM.off o1)
    rw [e1, cat_ex hc, bnd_ok, f1, bnd_ok]
    unfold fn_Mo_thrown
    rw [bnd_ok, f3, if_pos rfl, if_neg hc0]
    exact hK _ (hI.off (o1.tr f2))
/-- both answer the same number, and nothing is thrown -/
def SameOK (x y : Mm → Rs Int32) : Prop := ∀ M, INV M → ∃ r M1 M2, x M = some (.inl r, M1) ∧ y M1 = some (.inl r, M2) ∧ INV M2
theorem CaseS {x y : Mm → Rs Int32} (h : SameOK x y) {K : Mm → Rs Int32} (hK : ∀ M', INV M' → RET (K M')) {M : Mm} (hI : INV M) : RET (bnd (x M) (fun r M1 => bnd (y M1) (fun b M2 => if r = b then K M2 else (some (.inl 0, M2))))) := by
  obtain ⟨r, M1, M2, e1, e2, e3⟩ := h M hI
  rw [e1, bnd_ok, e2, bnd_ok, if_pos rfl]
  exact hK _ e3
theorem Same_of {x y : Mm → Rs Int32} (h : AgR x [] y) : SameOK x y := by
  intro M hI
  obtain ⟨N, A, hC, hM⟩ := hI.cs
  rcases h M N A hC hM with ⟨r, ⟨M1, e1, o1⟩, hy⟩ | ⟨q, b, c, -, hc, -⟩
  · obtain ⟨M2, f1, f2, -⟩ := hy M1 (hM.off o1)
    exact ⟨r, M1, M2, e1, f1, hI.off (o1.tr f2)⟩
  · cases hc
theorem Sm_appendedTotal : SameOK fn_SA_appendedTotal fn_Mo_appendedTotal := by
  intro M hI
  have hI2 := hI
  obtain ⟨N, A, ap, d, nx, H, sv, S, ep, fl, cnt, tx, ln, lc, ⟨c1, -⟩, m1, -⟩ := hI
  refine ⟨M 1 5, M, mset M 32 6 0, rfl, ?_, hI2.off (Off.th M 0)⟩
  unfold fn_Mo_appendedTotal
  rw [grd_t (by decide), show (84 : Int32).toNatClampNeg = 84 from rfl, m1.2, ← c1.2]
  rfl
theorem Sm_undoableCount : SameOK fn_SA_undoableCount fn_Mo_undoableCount := by
  intro M hI
  have hI2 := hI
  obtain ⟨N, A, ap, d, nx, H, sv, S, ep, fl, cnt, tx, ln, lc, ⟨-, c2, -⟩, -, m2, -⟩ := hI
  refine ⟨M 12 2, M, mset M 32 6 0, rfl, ?_, hI2.off (Off.th M 0)⟩
  unfold fn_Mo_undoableCount
  rw [m2.1, ← c2.2.2.1]
  rfl
theorem Sm_save : SameOK fn_SA_save fn_Mo_save := by
  intro M hI
  obtain ⟨N, A, ap, d, nx, H, sv, S, ep, fl, cnt, tx, ln, lc, ⟨c1, c2, c3, c4, c5, c6⟩, m1, m2, m3, m4, m5, m6⟩ := hI
  have hHs : ∀ q, 0 ≤ q → q < d → SnS (H q) := fun q q0 q1 => (c2.2.2.2.2 q q0 q1).2
  have hsn := c1.1.sn
  obtain ⟨Ma, e1, e2, e3, -⟩ := c1.1.store c1.2 (k9 := 14) (L := 85) (b := 0) (by decide) (by decide) (by decide) (by omega)
  have a14 : mset Ma 0 3 (zI 1) 14 = Ma 14 := mset_ne _ _ _ (by decide)
  have a0 : mset Ma 0 3 (zI 1) 0 3 = zI 1 := mset_at _ _ _ _
  have a0o : ∀ i, i ≠ 3 → mset Ma 0 3 (zI 1) 0 i = M 0 i := fun i hi => by rw [mset_oth _ _ _ _ hi, e3 0 (by decide)]
  have aj : ∀ j, j ≠ 0 → j ≠ 14 → mset Ma 0 3 (zI 1) j = M j := fun j j1 j2 => by rw [mset_ne _ _ _ j1, e3 j j2]
  have hx : fn_SA_save M = bnd (fn_St_valueCount (mset Ma 0 3 (zI 1))) (fun r21 M21 => some (.inl r21, M21)) := by
    unfold fn_SA_save
    rw [show (0 : Int32) = zI 0 from rfl, e1, bnd_ok, lm_eq]
    rfl
  generalize mset Ma 0 3 (zI 1) = M1 at *
  have C1 : Cs N A M1 := fun s s0 s1 => (c1.1 s s0 s1).to (aj _ (by omega) (by omega)) (aj _ (by omega) (by omega))
  rw [C1.count, bnd_ok] at hx
  refine ⟨zI (allF N 0 0), M1, ?_⟩
  have k1 : ∀ j, j ≠ 45 → M1 j = M1 j := fun _ _ => rfl
  have t6 : mset M1 32 6 (zI 0) 32 6 = zI 0 := mset_at _ _ _ _
  have to : ∀ i, i ≠ 6 → mset M1 32 6 (zI 0) 32 i = M 32 i := fun i hi => by rw [mset_oth _ _ _ _ hi, k1 32 (by decide), aj 32 (by decide) (by decide)]
  have tj : ∀ j, j ≠ 32 → mset M1 32 6 (zI 0) j = M1 j := fun j j1 => mset_ne _ _ _ j1
  have hy : fn_Mo_save M1 = bnd (fn_Mo_copyAll 33 0 35 0 (mset M1 32 6 (zI 0))) (fun r15 M15 => lm (mset M15 32 10 1) (fun M20 => bnd (fn_Mo_all M20) (fun r24 M24 => some (.inl r24, M24)))) := by
    unfold fn_Mo_save
    rw [show (0 : Int32) = zI 0 from rfl, lm_eq]
  generalize mset M1 32 6 (zI 0) = Mw at *
  obtain ⟨Mb, f1, f2, f3, f4⟩ := m_copy Mw (k1 := 33) (k2 := 35) (L1 := 85) (L2 := 85) (b1 := 0) (b2 := 0) (by decide) (by decide) (by omega) (by omega) (by omega)
  have h33 : Mw 33 = M 33 := by rw [tj 33 (by decide), k1 33 (by decide), aj 33 (by decide) (by decide)]
  have W1 : IMs N A ap Mw := m1.to h33
  have hrow : MRw Mb 35 0 (N, A, ap) := MRow.copy (W1.1.row W1.2) hsn f2
  have g10 : mset Mb 32 10 (zI 1) 32 10 = zI 1 := mset_at _ _ _ _
  have go : ∀ i, i ≠ 10 → mset Mb 32 10 (zI 1) 32 i = Mw 32 i := fun i hi => by rw [mset_oth _ _ _ _ hi, f4 32 (by decide)]
  have gj : ∀ j, j ≠ 32 → j ≠ 35 → mset Mb 32 10 (zI 1) j = Mw j := fun j j1 j2 => by rw [mset_ne _ _ _ j1, f4 j j2]
  have g35 : mset Mb 32 10 (zI 1) 35 = Mb 35 := mset_ne _ _ _ (by decide)
  have hz : fn_Mo_save M1 = bnd (fn_Mo_all (mset Mb 32 10 (zI 1))) (fun r24 M24 => some (.inl r24, M24)) := by
    rw [hy, show (0 : Int32) = zI 0 from rfl, f1, bnd_ok, lm_eq]
    rfl
  generalize mset Mb 32 10 (zI 1) = M2 at *
  have K2 : IMs N A ap M2 := W1.to (gj 33 (by decide) (by decide))
  rw [K2.1.all, bnd_ok] at hz
  have zj : ∀ j, j ≠ 0 → j ≠ 14 → j ≠ 32 → j ≠ 35 → j ≠ 45 → M2 j = M j := fun j j0 j1 j2 j3 j4 => by rw [gj j j2 j3, tj j j2, k1 j j4, aj j j0 j1]
  have zc : ∀ j, j < 32 → M2 j = M1 j := fun j j1 => by rw [gj j (by omega) (by omega), tj j (by omega), k1 j (by omega)]
  have zo : ∀ i, i ≠ 6 → i ≠ 10 → M2 32 i = M 32 i := fun i i1 i2 => by rw [go i i2, to i i1]
  refine ⟨M2, hx, hz, N, A, ap, d, nx, H, 1, (N, A, ap), ep, fl, cnt, tx, ln, lc, ⟨c1.to (fun j j0 j1 => zj j (by omega) (by omega) (by omega) (by omega) (by omega)), c2.to (zj 12 (by decide) (by decide) (by decide) (by decide) (by decide)) (zj 13 (by decide) (by decide) (by decide) (by decide) (by decide)), ⟨.inr rfl, by rw [zc 0 (by decide)]; exact a0, fun _ => ⟨CRow.to e2 hsn (by omega) (fun i _ _ => by rw [zc 14 (by decide), a14]), hsn⟩⟩, c4.to (by rw [zc 0 (by decide), a0o 6 (by decide)]) (by rw [zc 0 (by decide), a0o 7 (by decide)]), c5.to (by rw [zj 16 (by decide) (by decide) (by decide) (by decide) (by decide)]) (zj 17 (by decide) (by decide) (by decide) (by decide) (by decide)), c6.to (zj 19 (by decide) (by decide) (by decide) (by decide) (by decide))⟩,
    K2, m2.to hHs (zo 7 (by decide) (by decide)) (zj 36 (by decide) (by decide) (by decide) (by decide) (by decide)), ⟨g10, fun _ => MRow.to hrow hsn (by omega) (fun i _ _ => by rw [g35])⟩, m4.to (zo 8 (by decide) (by decide)) (zo 9 (by decide) (by decide)), m5.to (zo 18 (by decide) (by decide)) (zj 40 (by decide) (by decide) (by decide) (by decide) (by decide)), m6.to (zo 12 (by decide) (by decide)) (zj 39 (by decide) (by decide) (by decide) (by decide) (by decide))⟩
/-! doubles -/
theorem bnd_inv {α β : Type} {x : Rs β} {k : β → Mm → Rs α} {r : α} {M1 : Mm} (h : bnd x k = some (.inl r, M1)) : ∃ a M', x = some (.inl a, M') ∧ k a M' = some (.inl r, M1) := by
  match x, h with
  | some (.inl a, M'), h => exact ⟨a, M', rfl, h⟩
  | some (.inr q, M'), h => cases h
  | none, h => cases h
theorem grd_inv {α : Type} {g : Prop} {d : Decidable g} {t : Option α} {z : α} (h : @grd α g d t = some z) : g ∧ t = some z := by
  by_cases c : g
  · rw [grd_t c] at h
    exact ⟨c, h⟩
  · have e : @grd α g d t = none := if_neg c
    rw [e] at h
    cases h
theorem mean_n64 {v : Int32} {M : Mm} {r : UInt64} {M1 : Mm} (h : fn_SA_mean v M = some (.inl r, M1)) : zz_n64 r := by
  unfold fn_SA_mean at h
  obtain ⟨s, Ms, -, h⟩ := bnd_inv h
  obtain ⟨-, h⟩ := grd_inv h
  obtain ⟨b, Mb, -, h⟩ := bnd_inv h
  by_cases c : b = 0
  · have h : bnd (fn_Se_size s Mb) _ = _ := Eq.trans (if_pos c).symm h
    obtain ⟨n1, Mn, -, h⟩ := bnd_inv h
    obtain ⟨n2, Mo, -, h⟩ := bnd_inv h
    obtain ⟨n3, Mp, -, h⟩ := bnd_inv h
    obtain ⟨hn, h⟩ := grd_inv h
    cases h
    exact hn
  · have h : (some (.inr 4, Mb) : Rs UInt64) = some (.inl r, M1) := Eq.trans (if_neg c).symm h
    cases h
theorem share_n32 {M : Mm} {r : UInt32} {M1 : Mm} (h : fn_SA_positiveShare M = some (.inl r, M1)) : zz_n32 r := by
  unfold fn_SA_positiveShare at h
  obtain ⟨s, Ms, -, h⟩ := bnd_inv h
  by_cases c : (1 : Int32) ≤ s
  · have h : bnd (fn_St_positiveCount Ms) _ = _ := Eq.trans (if_pos c).symm h
    obtain ⟨n1, Mn, -, h⟩ := bnd_inv h
    obtain ⟨hn, h⟩ := grd_inv h
    cases h
    exact hn
  · have h : (some (.inr 4, Ms) : Rs UInt32) = some (.inl r, M1) := Eq.trans (if_neg c).symm h
    cases h
theorem dset_at (M : Mm) (r : UInt64) : dbl (dset M r 46 0) (dset M r 46 1) = r := by
  have e0 : dset M r 46 0 = hiD r := by
    unfold dset
    rw [mrow_eq, upd_ne _ _ (by decide), upd_eq]
  have e1 : dset M r 46 1 = loD r := by
    unfold dset
    rw [mrow_eq, upd_eq]
  rw [e0, e1]
  exact dbl_hl r
theorem cmp_eq0 : Op.cmpValue (some .eq) .l = 0 := by decide
theorem CaseMean {p : Int} (hp : -2147483648 ≤ p ∧ p < 2147483648) {K : Mm → Rs Int32} (hK : ∀ M', INV M' → RET (K M')) {M : Mm} (hI : INV M) : RET (bnd (cat [(0, 1), (4, 2)] (fn_SA_mean (zI p) M) (fun r M1 => lm (dset M1 r) (fun M2 => some (.inl 0, M2)))) (fun r1501 M1501 => bnd (fn_Mo_mean (zI p) M1501) (fun r1513 M1513 => bnd (fn_Mo_thrown M1513) (fun r1519 M1519 => if r1519 = r1501 then (if r1501 = 0 then (if (Op.cmpValue (FP.dcmp (dbl (M1519 46 0) (M1519 46 1)) r1513) .l) = 0 then K M1519 else (if (Op.cmpValue (FP.dcmp (dbl (M1519 46 0) (M1519 46 1)) (dbl (M1519 46 0) (M1519 46 1))) .l) = 0 then (some (.inl 0, M1519)) else (if (Op.cmpValue (FP.dcmp r1513 r1513) .l) = 0 then (some (.inl 0, M1519)) else K M1519))) else K M1519) else (some (.inl 0, M1519)))))) := by
  obtain ⟨N, A, hC, hM⟩ := hI.cs
  rcases Q_mean hp M N A hC hM with ⟨r, ⟨M1, e1, o1⟩, hy⟩ | ⟨q, b, c, ⟨M1, e1, o1⟩, hc, hc0, hy⟩
  · have hn := mean_n64 e1
    have o2 := o1.tr (Off.sc M1 46 (upd (upd (M1 46) 0 (hiD r)) 1 (loD r)) (by omega))
    obtain ⟨M2, f1, f2, f3, f4, f5⟩ := hy (dset M1 r) (hM.off o2)
    rw [e1, cat_ok, lm_eq, bnd_ok, f1, bnd_ok]
    unfold fn_Mo_thrown
    rw [bnd_ok, f3, if_pos rfl, if_pos rfl, f5, dset_at, dcmp_self hn, if_pos cmp_eq0]
    exact hK _ (hI.off (o2.tr f2))
  · obtain ⟨M2, f1, f2, f3, -, -⟩ := hy M1 (hM.off o1)
    rw [e1, cat_ex hc, bnd_ok, f1, bnd_ok]
    unfold fn_Mo_thrown
    rw [bnd_ok, f3, if_pos rfl, if_neg hc0]
    exact hK _ (hI.off (o1.tr f2))
theorem CaseShare {K : Mm → Rs Int32} (hK : ∀ M', INV M' → RET (K M')) {M : Mm} (hI : INV M) : RET (bnd (cat [(4, 1)] (fn_SA_positiveShare M) (fun r M1 => grd (zz_n64 (FP.f2d r)) (lm (dset M1 (FP.f2d r)) (fun M2 => some (.inl 0, M2))))) (fun r3378 M3378 => bnd (fn_Mo_positiveShare M3378) (fun r3384 M3384 => bnd (fn_Mo_thrown M3384) (fun r3390 M3390 => if r3390 = r3378 then (if r3378 = 0 then (grd (zz_n64 (FP.f2d r3384)) (if (Op.cmpValue (FP.dcmp (dbl (M3390 46 0) (M3390 46 1)) (FP.f2d r3384)) .l) = 0 then K M3390 else (if (Op.cmpValue (FP.dcmp (dbl (M3390 46 0) (M3390 46 1)) (dbl (M3390 46 0) (M3390 46 1))) .l) = 0 then (some (.inl 0, M3390)) else (if (Op.cmpValue (FP.fcmp r3384 r3384) .l) = 0 then (some (.inl 0, M3390)) else K M3390)))) else K M3390) else (some (.inl 0, M3390)))))) := by
  obtain ⟨N, A, hC, hM⟩ := hI.cs
  rcases Q_positiveShare M N A hC hM with ⟨r, ⟨M1, e1, o1⟩, hy⟩ | ⟨q, b, c, ⟨M1, e1, o1⟩, hc, hc0, hy⟩
  · have hn := f2d_ok (share_n32 e1)
    have o2 := o1.tr (Off.sc M1 46 (upd (upd (M1 46) 0 (hiD (FP.f2d r))) 1 (loD (FP.f2d r))) (by omega))
    obtain ⟨M2, f1, f2, f3, f4, f5⟩ := hy (dset M1 (FP.f2d r)) (hM.off o2)
    rw [e1, cat_ok, grd_t hn, lm_eq, bnd_ok, f1, bnd_ok]
    unfold fn_Mo_thrown
    rw [bnd_ok, f3, if_pos rfl, if_pos rfl, grd_t hn, f5, dset_at, dcmp_self hn, if_pos cmp_eq0]
    exact hK _ (hI.off (o2.tr f2))
  · obtain ⟨M2, f1, f2, f3, -, -⟩ := hy M1 (hM.off o1)
    rw [e1, cat_ex hc, bnd_ok, f1, bnd_ok]
    unfold fn_Mo_thrown
    rw [bnd_ok, f3, if_pos rfl, if_neg hc0]
    exact hK _ (hI.off (o1.tr f2))
/-! the first memory -/
def M00 : Mm := fun k j => if (k = 0 ∧ (j = 6 ∨ j = 7)) ∨ (k = 32 ∧ (j = 8 ∨ j = 9)) then -1 else 0
theorem M00_0 {k j : Nat} (h : ¬ ((k = 0 ∧ (j = 6 ∨ j = 7)) ∨ (k = 32 ∧ (j = 8 ∨ j = 9)))) : M00 k j = zI 0 := if_neg h
theorem M00_m {k j : Nat} (h : (k = 0 ∧ (j = 6 ∨ j = 7)) ∨ (k = 32 ∧ (j = 8 ∨ j = 9))) : M00 k j = zI (-1) := if_pos h
theorem z20 : 0 ≤ (0 : Int) ∧ (0 : Int) ≤ 20 := by decide
theorem z99 : -99 ≤ (0 : Int) ∧ (0 : Int) ≤ 99 := by decide
theorem z32 : 32 ≤ (32 : Int) ∧ (32 : Int) ≤ 126 := by decide
theorem z128 : 0 ≤ (0 : Int) ∧ (0 : Int) < 128 := by decide
theorem INV_first : INV M00 := by
  refine ⟨fun _ => 0, fun _ _ => 0, 0, 0, 0, fun _ => (fun _ => 0, fun _ _ => 0, 0), 0, (fun _ => 0, fun _ _ => 0, 0), -1, -1, 0, fun _ => 32, 0, fun _ => 0,
    ⟨⟨fun s s0 s1 => ⟨by omega, z20, M00_0 (by omega), fun i i0 i1 => absurd (show i < 0 from i1) (by omega), fun i => z99⟩, M00_0 (by decide)⟩, ⟨by decide, by decide, M00_0 (by decide), M00_0 (by decide), fun e e0 e1 => absurd (show e < 0 from e1) (by omega)⟩, ⟨.inl rfl, M00_0 (by decide), fun e => absurd (show (0 : Int) = 1 from e) (by decide)⟩, ⟨by decide, by decide, M00_m (by decide), M00_m (by decide)⟩, ⟨by decide, M00_0 (by decide), fun i i0 i1 => absurd (show i < 0 from i1) (by omega), fun i => z32⟩, ⟨by decide, M00_0 (by decide), fun i i0 i1 => absurd (show i < 0 from i1) (by omega), fun i => z128⟩⟩,
    ⟨fun s s0 s1 => ⟨⟨s0, s1⟩, z20, M00_0 (by omega), fun i i0 i1 => absurd (show i < 0 from i1) (by omega), fun i => z99⟩, M00_0 (by decide)⟩, ⟨M00_0 (by decide), fun e e0 e1 => absurd (show e < 0 from e1) (by omega)⟩, ⟨M00_0 (by decide), fun e => absurd (show (0 : Int) = 1 from e) (by decide)⟩, ⟨M00_m (by decide), M00_m (by decide)⟩, ⟨M00_0 (by decide), fun i i0 i1 => absurd (show i < 0 from i1) (by omega)⟩, ⟨M00_0 (by decide), fun i i0 i1 => absurd (show i < 0 from i1) (by omega)⟩⟩
/-! the cases -/
theorem LC_0 {xs : Nat → Int32} {sl : Nat} {k28 : Int32 → Mm → Rs Int32} {i : Int} {M : Mm} (h0 : 0 ≤ i) (h1 : i + 4 ≤ (sl : Int)) (h2 : (sl : Int) ≤ 2048) (hI : INV M) (hK : ∀ M', INV M' → RET (k28 (zI (i + 4)) M')) : RET (fn_La_law_300 xs sl k28 (zI i) M) := by
  obtain ⟨p, hp, bp⟩ := zI_ex (xs (zI i + 1).toNatClampNeg)
  obtain ⟨q, hq, bq⟩ := zI_ex (xs (zI i + 2).toNatClampNeg)
  have c := Case (St_append bp bq) (K := fun M => li (zI i + 4) (fun x => k28 x M)) (k4 hK) hI
  unfold fn_La_law_300 fn_La_law_365 fn_La_law_3926 fn_La_append
  simp only [grd_t (g1 h0 h1 h2), grd_t (g2 h0 h1 h2), hp, hq]
  exact c
theorem LC_1 {xs : Nat → Int32} {sl : Nat} {k28 : Int32 → Mm → Rs Int32} {i : Int} {M : Mm} (h0 : 0 ≤ i) (h1 : i + 4 ≤ (sl : Int)) (h2 : (sl : Int) ≤ 2048) (hI : INV M) (hK : ∀ M', INV M' → RET (k28 (zI (i + 4)) M')) : RET (fn_La_law_368 xs sl k28 (zI i) M) := by
  obtain ⟨p, hp, bp⟩ := zI_ex (xs (zI i + 1).toNatClampNeg)
  obtain ⟨q, hq, bq⟩ := zI_ex (xs (zI i + 2).toNatClampNeg)
  obtain ⟨r, hr, br⟩ := zI_ex (xs (zI i + 3).toNatClampNeg)
  have c := Case (St_setValue bp bq br) (K := fun M => li (zI i + 4) (fun x => k28 x M)) (k4 hK) hI
  unfold fn_La_law_368 fn_La_law_445 fn_La_law_3926 fn_La_setValue
  simp only [grd_t (g1 h0 h1 h2), grd_t (g2 h0 h1 h2), grd_t (g3 h0 h1 h2), hp, hq, hr]
  exact c
theorem LC_2 {xs : Nat → Int32} {sl : Nat} {k28 : Int32 → Mm → Rs Int32} {i : Int} {M : Mm} (h0 : 0 ≤ i) (h1 : i + 4 ≤ (sl : Int)) (h2 : (sl : Int) ≤ 2048) (hI : INV M) (hK : ∀ M', INV M' → RET (k28 (zI (i + 4)) M')) : RET (fn_La_law_448 xs sl k28 (zI i) M) := by
  obtain ⟨p, hp, bp⟩ := zI_ex (xs (zI i + 1).toNatClampNeg)
  obtain ⟨q, hq, bq⟩ := zI_ex (xs (zI i + 2).toNatClampNeg)
  have c := Case (St_removeFirst bp bq) (K := fun M => li (zI i + 4) (fun x => k28 x M)) (k4 hK) hI
  unfold fn_La_law_448 fn_La_law_513 fn_La_law_3926 fn_La_removeFirst
  simp only [grd_t (g1 h0 h1 h2), grd_t (g2 h0 h1 h2), hp, hq]
  exact c
theorem LC_3 {xs : Nat → Int32} {sl : Nat} {k28 : Int32 → Mm → Rs Int32} {i : Int} {M : Mm} (h0 : 0 ≤ i) (h1 : i + 4 ≤ (sl : Int)) (h2 : (sl : Int) ≤ 2048) (hI : INV M) (hK : ∀ M', INV M' → RET (k28 (zI (i + 4)) M')) : RET (fn_La_law_516 xs sl k28 (zI i) M) := by
  obtain ⟨p, hp, bp⟩ := zI_ex (xs (zI i + 1).toNatClampNeg)
  obtain ⟨q, hq, bq⟩ := zI_ex (xs (zI i + 2).toNatClampNeg)
  have c := Case (St_copy bp bq) (K := fun M => li (zI i + 4) (fun x => k28 x M)) (k4 hK) hI
  unfold fn_La_law_516 fn_La_law_581 fn_La_law_3926 fn_La_copy
  simp only [grd_t (g1 h0 h1 h2), grd_t (g2 h0 h1 h2), hp, hq]
  exact c
theorem LC_4 {xs : Nat → Int32} {sl : Nat} {k28 : Int32 → Mm → Rs Int32} {i : Int} {M : Mm} (h0 : 0 ≤ i) (h1 : i + 4 ≤ (sl : Int)) (h2 : (sl : Int) ≤ 2048) (hI : INV M) (hK : ∀ M', INV M' → RET (k28 (zI (i + 4)) M')) : RET (fn_La_law_584 xs sl k28 (zI i) M) := by
  obtain ⟨p, hp, bp⟩ := zI_ex (xs (zI i + 1).toNatClampNeg)
  have c := Case (St_reverse bp) (K := fun M => li (zI i + 4) (fun x => k28 x M)) (k4 hK) hI
  unfold fn_La_law_584 fn_La_law_637 fn_La_law_3926 fn_La_reverse
  simp only [grd_t (g1 h0 h1 h2), hp]
  exact c
theorem LC_5 {xs : Nat → Int32} {sl : Nat} {k28 : Int32 → Mm → Rs Int32} {i : Int} {M : Mm} (h0 : 0 ≤ i) (h1 : i + 4 ≤ (sl : Int)) (h2 : (sl : Int) ≤ 2048) (hI : INV M) (hK : ∀ M', INV M' → RET (k28 (zI (i + 4)) M')) : RET (fn_La_law_640 xs sl k28 (zI i) M) := by
  obtain ⟨p, hp, bp⟩ := zI_ex (xs (zI i + 1).toNatClampNeg)
  obtain ⟨q, hq, bq⟩ := zI_ex (xs (zI i + 2).toNatClampNeg)
  have c := Case (St_shift bp bq) (K := fun M => li (zI i + 4) (fun x => k28 x M)) (k4 hK) hI
  unfold fn_La_law_640 fn_La_law_705 fn_La_law_3926 fn_La_shift
  simp only [grd_t (g1 h0 h1 h2), grd_t (g2 h0 h1 h2), hp, hq]
  exact c
theorem LC_6 {xs : Nat → Int32} {sl : Nat} {k28 : Int32 → Mm → Rs Int32} {i : Int} {M : Mm} (h0 : 0 ≤ i) (h1 : i + 4 ≤ (sl : Int)) (h2 : (sl : Int) ≤ 2048) (hI : INV M) (hK : ∀ M', INV M' → RET (k28 (zI (i + 4)) M')) : RET (fn_La_law_708 xs sl k28 (zI i) M) := by
  obtain ⟨p, hp, bp⟩ := zI_ex (xs (zI i + 1).toNatClampNeg)
  obtain ⟨q, hq, bq⟩ := zI_ex (xs (zI i + 2).toNatClampNeg)
  have c := Case (St_smooth bp bq) (K := fun M => li (zI i + 4) (fun x => k28 x M)) (k4 hK) hI
  unfold fn_La_law_708 fn_La_law_773 fn_La_law_3926 fn_La_smooth
  simp only [grd_t (g1 h0 h1 h2), grd_t (g2 h0 h1 h2), hp, hq]
  exact c
theorem LC_7 {xs : Nat → Int32} {sl : Nat} {k28 : Int32 → Mm → Rs Int32} {i : Int} {M : Mm} (h0 : 0 ≤ i) (h1 : i + 4 ≤ (sl : Int)) (h2 : (sl : Int) ≤ 2048) (hI : INV M) (hK : ∀ M', INV M' → RET (k28 (zI (i + 4)) M')) : RET (fn_La_law_776 xs sl k28 (zI i) M) := by
  obtain ⟨p, hp, bp⟩ := zI_ex (xs (zI i + 1).toNatClampNeg)
  have c := Case (St_toSteps bp) (K := fun M => li (zI i + 4) (fun x => k28 x M)) (k4 hK) hI
  unfold fn_La_law_776 fn_La_law_829 fn_La_law_3926 fn_La_toSteps
  simp only [grd_t (g1 h0 h1 h2), hp]
  exact c
theorem LC_8 {xs : Nat → Int32} {sl : Nat} {k28 : Int32 → Mm → Rs Int32} {i : Int} {M : Mm} (h0 : 0 ≤ i) (h1 : i + 4 ≤ (sl : Int)) (h2 : (sl : Int) ≤ 2048) (hI : INV M) (hK : ∀ M', INV M' → RET (k28 (zI (i + 4)) M')) : RET (fn_La_law_832 xs sl k28 (zI i) M) := by
  obtain ⟨p, hp, bp⟩ := zI_ex (xs (zI i + 1).toNatClampNeg)
  obtain ⟨q, hq, bq⟩ := zI_ex (xs (zI i + 2).toNatClampNeg)
  obtain ⟨r, hr, br⟩ := zI_ex (xs (zI i + 3).toNatClampNeg)
  have c := Case (St_clip bp bq br) (K := fun M => li (zI i + 4) (fun x => k28 x M)) (k4 hK) hI
  unfold fn_La_law_832 fn_La_law_909 fn_La_law_3926 fn_La_clip
  simp only [grd_t (g1 h0 h1 h2), grd_t (g2 h0 h1 h2), grd_t (g3 h0 h1 h2), hp, hq, hr]
  exact c
theorem LC_9 {xs : Nat → Int32} {sl : Nat} {k28 : Int32 → Mm → Rs Int32} {i : Int} {M : Mm} (h0 : 0 ≤ i) (h1 : i + 4 ≤ (sl : Int)) (h2 : (sl : Int) ≤ 2048) (hI : INV M) (hK : ∀ M', INV M' → RET (k28 (zI (i + 4)) M')) : RET (fn_La_law_912 xs sl k28 (zI i) M) := by
  obtain ⟨p, hp, bp⟩ := zI_ex (xs (zI i + 1).toNatClampNeg)
  have c := Case ((Q_length bp).step) (K := fun M => li (zI i + 4) (fun x => k28 x M)) (k4 hK) hI
  unfold fn_La_law_912 fn_La_law_965 fn_La_law_3926 fn_La_length
  simp only [grd_t (g1 h0 h1 h2), hp]
  exact c
theorem LC_10 {xs : Nat → Int32} {sl : Nat} {k28 : Int32 → Mm → Rs Int32} {i : Int} {M : Mm} (h0 : 0 ≤ i) (h1 : i + 4 ≤ (sl : Int)) (h2 : (sl : Int) ≤ 2048) (hI : INV M) (hK : ∀ M', INV M' → RET (k28 (zI (i + 4)) M')) : RET (fn_La_law_968 xs sl k28 (zI i) M) := by
  obtain ⟨p, hp, bp⟩ := zI_ex (xs (zI i + 1).toNatClampNeg)
  obtain ⟨q, hq, bq⟩ := zI_ex (xs (zI i + 2).toNatClampNeg)
  have c := Case ((Q_value bp bq).step) (K := fun M => li (zI i + 4) (fun x => k28 x M)) (k4 hK) hI
  unfold fn_La_law_968 fn_La_law_1033 fn_La_law_3926 fn_La_value
  simp only [grd_t (g1 h0 h1 h2), grd_t (g2 h0 h1 h2), hp, hq]
  exact c
theorem LC_11 {xs : Nat → Int32} {sl : Nat} {k28 : Int32 → Mm → Rs Int32} {i : Int} {M : Mm} (h0 : 0 ≤ i) (h1 : i + 4 ≤ (sl : Int)) (h2 : (sl : Int) ≤ 2048) (hI : INV M) (hK : ∀ M', INV M' → RET (k28 (zI (i + 4)) M')) : RET (fn_La_law_1036 xs sl k28 (zI i) M) := by
  obtain ⟨p, hp, bp⟩ := zI_ex (xs (zI i + 1).toNatClampNeg)
  obtain ⟨q, hq, bq⟩ := zI_ex (xs (zI i + 2).toNatClampNeg)
  obtain ⟨r, hr, br⟩ := zI_ex (xs (zI i + 3).toNatClampNeg)
  have c := Case ((Q_sum bp bq br).step) (K := fun M => li (zI i + 4) (fun x => k28 x M)) (k4 hK) hI
  unfold fn_La_law_1036 fn_La_law_1113 fn_La_law_3926 fn_La_sum
  simp only [grd_t (g1 h0 h1 h2), grd_t (g2 h0 h1 h2), grd_t (g3 h0 h1 h2), hp, hq, hr]
  exact c
theorem LC_12 {xs : Nat → Int32} {sl : Nat} {k28 : Int32 → Mm → Rs Int32} {i : Int} {M : Mm} (h0 : 0 ≤ i) (h1 : i + 4 ≤ (sl : Int)) (h2 : (sl : Int) ≤ 2048) (hI : INV M) (hK : ∀ M', INV M' → RET (k28 (zI (i + 4)) M')) : RET (fn_La_law_1116 xs sl k28 (zI i) M) := by
  obtain ⟨p, hp, bp⟩ := zI_ex (xs (zI i + 1).toNatClampNeg)
  obtain ⟨q, hq, bq⟩ := zI_ex (xs (zI i + 2).toNatClampNeg)
  obtain ⟨r, hr, br⟩ := zI_ex (xs (zI i + 3).toNatClampNeg)
  have c := Case ((Q_sumByTree bp bq br).step) (K := fun M => li (zI i + 4) (fun x => k28 x M)) (k4 hK) hI
  unfold fn_La_law_1116 fn_La_law_1193 fn_La_law_3926 fn_La_sumByTree
  simp only [grd_t (g1 h0 h1 h2), grd_t (g2 h0 h1 h2), grd_t (g3 h0 h1 h2), hp, hq, hr]
  exact c
theorem LC_13 {xs : Nat → Int32} {sl : Nat} {k28 : Int32 → Mm → Rs Int32} {i : Int} {M : Mm} (h0 : 0 ≤ i) (h1 : i + 4 ≤ (sl : Int)) (h2 : (sl : Int) ≤ 2048) (hI : INV M) (hK : ∀ M', INV M' → RET (k28 (zI (i + 4)) M')) : RET (fn_La_law_1196 xs sl k28 (zI i) M) := by
  obtain ⟨p, hp, bp⟩ := zI_ex (xs (zI i + 1).toNatClampNeg)
  obtain ⟨q, hq, bq⟩ := zI_ex (xs (zI i + 2).toNatClampNeg)
  obtain ⟨r, hr, br⟩ := zI_ex (xs (zI i + 3).toNatClampNeg)
  have c := Case ((Q_minimum bp bq br).step) (K := fun M => li (zI i + 4) (fun x => k28 x M)) (k4 hK) hI
  unfold fn_La_law_1196 fn_La_law_1273 fn_La_law_3926 fn_La_minimum
  simp only [grd_t (g1 h0 h1 h2), grd_t (g2 h0 h1 h2), grd_t (g3 h0 h1 h2), hp, hq, hr]
  exact c
theorem LC_14 {xs : Nat → Int32} {sl : Nat} {k28 : Int32 → Mm → Rs Int32} {i : Int} {M : Mm} (h0 : 0 ≤ i) (h1 : i + 4 ≤ (sl : Int)) (h2 : (sl : Int) ≤ 2048) (hI : INV M) (hK : ∀ M', INV M' → RET (k28 (zI (i + 4)) M')) : RET (fn_La_law_1276 xs sl k28 (zI i) M) := by
  obtain ⟨p, hp, bp⟩ := zI_ex (xs (zI i + 1).toNatClampNeg)
  obtain ⟨q, hq, bq⟩ := zI_ex (xs (zI i + 2).toNatClampNeg)
  obtain ⟨r, hr, br⟩ := zI_ex (xs (zI i + 3).toNatClampNeg)
  have c := Case ((Q_maximum bp bq br).step) (K := fun M => li (zI i + 4) (fun x => k28 x M)) (k4 hK) hI
  unfold fn_La_law_1276 fn_La_law_1353 fn_La_law_3926 fn_La_maximum
  simp only [grd_t (g1 h0 h1 h2), grd_t (g2 h0 h1 h2), grd_t (g3 h0 h1 h2), hp, hq, hr]
  exact c
theorem LC_15 {xs : Nat → Int32} {sl : Nat} {k28 : Int32 → Mm → Rs Int32} {i : Int} {M : Mm} (h0 : 0 ≤ i) (h1 : i + 4 ≤ (sl : Int)) (h2 : (sl : Int) ≤ 2048) (hI : INV M) (hK : ∀ M', INV M' → RET (k28 (zI (i + 4)) M')) : RET (fn_La_law_1356 xs sl k28 (zI i) M) := by
  obtain ⟨p, hp, bp⟩ := zI_ex (xs (zI i + 1).toNatClampNeg)
  obtain ⟨q, hq, bq⟩ := zI_ex (xs (zI i + 2).toNatClampNeg)
  have c := Case ((Q_countAbove bp bq).step) (K := fun M => li (zI i + 4) (fun x => k28 x M)) (k4 hK) hI
  unfold fn_La_law_1356 fn_La_law_1421 fn_La_law_3926 fn_La_countAbove
  simp only [grd_t (g1 h0 h1 h2), grd_t (g2 h0 h1 h2), hp, hq]
  exact c
theorem LC_16 {xs : Nat → Int32} {sl : Nat} {k28 : Int32 → Mm → Rs Int32} {i : Int} {M : Mm} (h0 : 0 ≤ i) (h1 : i + 4 ≤ (sl : Int)) (h2 : (sl : Int) ≤ 2048) (hI : INV M) (hK : ∀ M', INV M' → RET (k28 (zI (i + 4)) M')) : RET (fn_La_law_1424 xs sl k28 (zI i) M) := by
  obtain ⟨p, hp, bp⟩ := zI_ex (xs (zI i + 1).toNatClampNeg)
  obtain ⟨q, hq, bq⟩ := zI_ex (xs (zI i + 2).toNatClampNeg)
  have c := Case ((Q_valueByRank bp bq).step) (K := fun M => li (zI i + 4) (fun x => k28 x M)) (k4 hK) hI
  unfold fn_La_law_1424 fn_La_law_1489 fn_La_law_3926 fn_La_valueByRank
  simp only [grd_t (g1 h0 h1 h2), grd_t (g2 h0 h1 h2), hp, hq]
  exact c
theorem LC_17 {xs : Nat → Int32} {sl : Nat} {k28 : Int32 → Mm → Rs Int32} {i : Int} {M : Mm} (h0 : 0 ≤ i) (h1 : i + 4 ≤ (sl : Int)) (h2 : (sl : Int) ≤ 2048) (hI : INV M) (hK : ∀ M', INV M' → RET (k28 (zI (i + 4)) M')) : RET (fn_La_law_1492 xs sl k28 (zI i) M) := by
  obtain ⟨p, hp, bp⟩ := zI_ex (xs (zI i + 1).toNatClampNeg)
  have c := CaseMean (p := p) bp (K := fun M => li (zI i + 4) (fun x => k28 x M)) (k4 hK) hI
  unfold fn_La_law_1492 fn_La_law_1566 fn_La_law_3926 fn_La_mean
  simp only [grd_t (g1 h0 h1 h2), hp]
  exact c
theorem LC_18 {xs : Nat → Int32} {sl : Nat} {k28 : Int32 → Mm → Rs Int32} {i : Int} {M : Mm} (h0 : 0 ≤ i) (h1 : i + 4 ≤ (sl : Int)) (h2 : (sl : Int) ≤ 2048) (hI : INV M) (hK : ∀ M', INV M' → RET (k28 (zI (i + 4)) M')) : RET (fn_La_law_1569 xs sl k28 (zI i) M) := by
  obtain ⟨p, hp, bp⟩ := zI_ex (xs (zI i + 1).toNatClampNeg)
  obtain ⟨q, hq, bq⟩ := zI_ex (xs (zI i + 2).toNatClampNeg)
  obtain ⟨r, hr, br⟩ := zI_ex (xs (zI i + 3).toNatClampNeg)
  have c := Case ((Q_windowMaximum bp bq br).step) (K := fun M => li (zI i + 4) (fun x => k28 x M)) (k4 hK) hI
  unfold fn_La_law_1569 fn_La_law_1646 fn_La_law_3926 fn_La_windowMaximum
  simp only [grd_t (g1 h0 h1 h2), grd_t (g2 h0 h1 h2), grd_t (g3 h0 h1 h2), hp, hq, hr]
  exact c
theorem LC_19 {xs : Nat → Int32} {sl : Nat} {k28 : Int32 → Mm → Rs Int32} {i : Int} {M : Mm} (h0 : 0 ≤ i) (h1 : i + 4 ≤ (sl : Int)) (h2 : (sl : Int) ≤ 2048) (hI : INV M) (hK : ∀ M', INV M' → RET (k28 (zI (i + 4)) M')) : RET (fn_La_law_1649 xs sl k28 (zI i) M) := by
  obtain ⟨p, hp, bp⟩ := zI_ex (xs (zI i + 1).toNatClampNeg)
  obtain ⟨q, hq, bq⟩ := zI_ex (xs (zI i + 2).toNatClampNeg)
  obtain ⟨r, hr, br⟩ := zI_ex (xs (zI i + 3).toNatClampNeg)
  have c := Case ((Q_windowMaximumByScan bp bq br).step) (K := fun M => li (zI i + 4) (fun x => k28 x M)) (k4 hK) hI
  unfold fn_La_law_1649 fn_La_law_1726 fn_La_law_3926 fn_La_windowMaximumByScan
  simp only [grd_t (g1 h0 h1 h2), grd_t (g2 h0 h1 h2), grd_t (g3 h0 h1 h2), hp, hq, hr]
  exact c
theorem LC_20 {xs : Nat → Int32} {sl : Nat} {k28 : Int32 → Mm → Rs Int32} {i : Int} {M : Mm} (h0 : 0 ≤ i) (h1 : i + 4 ≤ (sl : Int)) (h2 : (sl : Int) ≤ 2048) (hI : INV M) (hK : ∀ M', INV M' → RET (k28 (zI (i + 4)) M')) : RET (fn_La_law_1729 xs sl k28 (zI i) M) := by
  obtain ⟨p, hp, bp⟩ := zI_ex (xs (zI i + 1).toNatClampNeg)
  obtain ⟨q, hq, bq⟩ := zI_ex (xs (zI i + 2).toNatClampNeg)
  have c := Case ((Q_nextGreater bp bq).step) (K := fun M => li (zI i + 4) (fun x => k28 x M)) (k4 hK) hI
  unfold fn_La_law_1729 fn_La_law_1794 fn_La_law_3926 fn_La_nextGreater
  simp only [grd_t (g1 h0 h1 h2), grd_t (g2 h0 h1 h2), hp, hq]
  exact c
theorem LC_21 {xs : Nat → Int32} {sl : Nat} {k28 : Int32 → Mm → Rs Int32} {i : Int} {M : Mm} (h0 : 0 ≤ i) (h1 : i + 4 ≤ (sl : Int)) (h2 : (sl : Int) ≤ 2048) (hI : INV M) (hK : ∀ M', INV M' → RET (k28 (zI (i + 4)) M')) : RET (fn_La_law_1797 xs sl k28 (zI i) M) := by
  obtain ⟨p, hp, bp⟩ := zI_ex (xs (zI i + 1).toNatClampNeg)
  obtain ⟨q, hq, bq⟩ := zI_ex (xs (zI i + 2).toNatClampNeg)
  have c := Case ((Q_nextGreaterByScan bp bq).step) (K := fun M => li (zI i + 4) (fun x => k28 x M)) (k4 hK) hI
  unfold fn_La_law_1797 fn_La_law_1862 fn_La_law_3926 fn_La_nextGreaterByScan
  simp only [grd_t (g1 h0 h1 h2), grd_t (g2 h0 h1 h2), hp, hq]
  exact c
theorem LC_22 {xs : Nat → Int32} {sl : Nat} {k28 : Int32 → Mm → Rs Int32} {i : Int} {M : Mm} (h0 : 0 ≤ i) (h1 : i + 4 ≤ (sl : Int)) (h2 : (sl : Int) ≤ 2048) (hI : INV M) (hK : ∀ M', INV M' → RET (k28 (zI (i + 4)) M')) : RET (fn_La_law_1865 xs sl k28 (zI i) M) := by
  obtain ⟨p, hp, bp⟩ := zI_ex (xs (zI i + 1).toNatClampNeg)
  have c := Case ((Q_peakCount bp).step) (K := fun M => li (zI i + 4) (fun x => k28 x M)) (k4 hK) hI
  unfold fn_La_law_1865 fn_La_law_1918 fn_La_law_3926 fn_La_peakCount
  simp only [grd_t (g1 h0 h1 h2), hp]
  exact c
theorem LC_23 {xs : Nat → Int32} {sl : Nat} {k28 : Int32 → Mm → Rs Int32} {i : Int} {M : Mm} (h0 : 0 ≤ i) (h1 : i + 4 ≤ (sl : Int)) (h2 : (sl : Int) ≤ 2048) (hI : INV M) (hK : ∀ M', INV M' → RET (k28 (zI (i + 4)) M')) : RET (fn_La_law_1921 xs sl k28 (zI i) M) := by
  obtain ⟨p, hp, bp⟩ := zI_ex (xs (zI i + 1).toNatClampNeg)
  obtain ⟨q, hq, bq⟩ := zI_ex (xs (zI i + 2).toNatClampNeg)
  have c := CaseB (Q_isPeak bp bq) (K := fun M => li (zI i + 4) (fun x => k28 x M)) (k4 hK) hI
  unfold fn_La_law_1921 fn_La_law_1987 fn_La_law_1993 fn_La_law_3926 fn_La_isPeak
  simp only [grd_t (g1 h0 h1 h2), grd_t (g2 h0 h1 h2), hp, hq]
  exact c
theorem LC_24 {xs : Nat → Int32} {sl : Nat} {k28 : Int32 → Mm → Rs Int32} {i : Int} {M : Mm} (h0 : 0 ≤ i) (h1 : i + 4 ≤ (sl : Int)) (h2 : (sl : Int) ≤ 2048) (hI : INV M) (hK : ∀ M', INV M' → RET (k28 (zI (i + 4)) M')) : RET (fn_La_law_1996 xs sl k28 (zI i) M) := by
  obtain ⟨p, hp, bp⟩ := zI_ex (xs (zI i + 1).toNatClampNeg)
  obtain ⟨q, hq, bq⟩ := zI_ex (xs (zI i + 2).toNatClampNeg)
  have c := Case ((Q_prominence bp bq).step) (K := fun M => li (zI i + 4) (fun x => k28 x M)) (k4 hK) hI
  unfold fn_La_law_1996 fn_La_law_2061 fn_La_law_3926 fn_La_prominence
  simp only [grd_t (g1 h0 h1 h2), grd_t (g2 h0 h1 h2), hp, hq]
  exact c
theorem LC_25 {xs : Nat → Int32} {sl : Nat} {k28 : Int32 → Mm → Rs Int32} {i : Int} {M : Mm} (h0 : 0 ≤ i) (h1 : i + 4 ≤ (sl : Int)) (h2 : (sl : Int) ≤ 2048) (hI : INV M) (hK : ∀ M', INV M' → RET (k28 (zI (i + 4)) M')) : RET (fn_La_law_2064 xs sl k28 (zI i) M) := by
  obtain ⟨p, hp, bp⟩ := zI_ex (xs (zI i + 1).toNatClampNeg)
  obtain ⟨q, hq, bq⟩ := zI_ex (xs (zI i + 2).toNatClampNeg)
  have c := Case ((Q_prominenceByLevels bp bq).step) (K := fun M => li (zI i + 4) (fun x => k28 x M)) (k4 hK) hI
  unfold fn_La_law_2064 fn_La_law_2129 fn_La_law_3926 fn_La_prominenceByLevels
  simp only [grd_t (g1 h0 h1 h2), grd_t (g2 h0 h1 h2), hp, hq]
  exact c
theorem LC_26 {xs : Nat → Int32} {sl : Nat} {k28 : Int32 → Mm → Rs Int32} {i : Int} {M : Mm} (h0 : 0 ≤ i) (h1 : i + 4 ≤ (sl : Int)) (h2 : (sl : Int) ≤ 2048) (hI : INV M) (hK : ∀ M', INV M' → RET (k28 (zI (i + 4)) M')) : RET (fn_La_law_2132 xs sl k28 (zI i) M) := by
  obtain ⟨p, hp, bp⟩ := zI_ex (xs (zI i + 1).toNatClampNeg)
  obtain ⟨q, hq, bq⟩ := zI_ex (xs (zI i + 2).toNatClampNeg)
  have c := Case ((Q_peakByProminence bp bq).step) (K := fun M => li (zI i + 4) (fun x => k28 x M)) (k4 hK) hI
  unfold fn_La_law_2132 fn_La_law_2197 fn_La_law_3926 fn_La_peakByProminence
  simp only [grd_t (g1 h0 h1 h2), grd_t (g2 h0 h1 h2), hp, hq]
  exact c
theorem LC_27 {xs : Nat → Int32} {sl : Nat} {k28 : Int32 → Mm → Rs Int32} {i : Int} {M : Mm} (h0 : 0 ≤ i) (h1 : i + 4 ≤ (sl : Int)) (h2 : (sl : Int) ≤ 2048) (hI : INV M) (hK : ∀ M', INV M' → RET (k28 (zI (i + 4)) M')) : RET (fn_La_law_2200 xs sl k28 (zI i) M) := by
  obtain ⟨p, hp, bp⟩ := zI_ex (xs (zI i + 1).toNatClampNeg)
  have c := Case ((Q_bestSum bp).step) (K := fun M => li (zI i + 4) (fun x => k28 x M)) (k4 hK) hI
  unfold fn_La_law_2200 fn_La_law_2253 fn_La_law_3926 fn_La_bestSum
  simp only [grd_t (g1 h0 h1 h2), hp]
  exact c
theorem LC_28 {xs : Nat → Int32} {sl : Nat} {k28 : Int32 → Mm → Rs Int32} {i : Int} {M : Mm} (h0 : 0 ≤ i) (h1 : i + 4 ≤ (sl : Int)) (h2 : (sl : Int) ≤ 2048) (hI : INV M) (hK : ∀ M', INV M' → RET (k28 (zI (i + 4)) M')) : RET (fn_La_law_2256 xs sl k28 (zI i) M) := by
  obtain ⟨p, hp, bp⟩ := zI_ex (xs (zI i + 1).toNatClampNeg)
  have c := Case ((Q_bestSumByRanges bp).step) (K := fun M => li (zI i + 4) (fun x => k28 x M)) (k4 hK) hI
  unfold fn_La_law_2256 fn_La_law_2309 fn_La_law_3926 fn_La_bestSumByRanges
  simp only [grd_t (g1 h0 h1 h2), hp]
  exact c
theorem LC_29 {xs : Nat → Int32} {sl : Nat} {k28 : Int32 → Mm → Rs Int32} {i : Int} {M : Mm} (h0 : 0 ≤ i) (h1 : i + 4 ≤ (sl : Int)) (h2 : (sl : Int) ≤ 2048) (hI : INV M) (hK : ∀ M', INV M' → RET (k28 (zI (i + 4)) M')) : RET (fn_La_law_2312 xs sl k28 (zI i) M) := by
  obtain ⟨p, hp, bp⟩ := zI_ex (xs (zI i + 1).toNatClampNeg)
  have c := Case ((Q_bestStart bp).step) (K := fun M => li (zI i + 4) (fun x => k28 x M)) (k4 hK) hI
  unfold fn_La_law_2312 fn_La_law_2365 fn_La_law_3926 fn_La_bestStart
  simp only [grd_t (g1 h0 h1 h2), hp]
  exact c
theorem LC_30 {xs : Nat → Int32} {sl : Nat} {k28 : Int32 → Mm → Rs Int32} {i : Int} {M : Mm} (h0 : 0 ≤ i) (h1 : i + 4 ≤ (sl : Int)) (h2 : (sl : Int) ≤ 2048) (hI : INV M) (hK : ∀ M', INV M' → RET (k28 (zI (i + 4)) M')) : RET (fn_La_law_2368 xs sl k28 (zI i) M) := by
  obtain ⟨p, hp, bp⟩ := zI_ex (xs (zI i + 1).toNatClampNeg)
  have c := Case ((Q_bestEnd bp).step) (K := fun M => li (zI i + 4) (fun x => k28 x M)) (k4 hK) hI
  unfold fn_La_law_2368 fn_La_law_2421 fn_La_law_3926 fn_La_bestEnd
  simp only [grd_t (g1 h0 h1 h2), hp]
  exact c
theorem LC_31 {xs : Nat → Int32} {sl : Nat} {k28 : Int32 → Mm → Rs Int32} {i : Int} {M : Mm} (h0 : 0 ≤ i) (h1 : i + 4 ≤ (sl : Int)) (h2 : (sl : Int) ≤ 2048) (hI : INV M) (hK : ∀ M', INV M' → RET (k28 (zI (i + 4)) M')) : RET (fn_La_law_2424 xs sl k28 (zI i) M) := by
  obtain ⟨p, hp, bp⟩ := zI_ex (xs (zI i + 1).toNatClampNeg)
  have c := Case ((Q_inversions bp).step) (K := fun M => li (zI i + 4) (fun x => k28 x M)) (k4 hK) hI
  unfold fn_La_law_2424 fn_La_law_2477 fn_La_law_3926 fn_La_inversions
  simp only [grd_t (g1 h0 h1 h2), hp]
  exact c
theorem LC_32 {xs : Nat → Int32} {sl : Nat} {k28 : Int32 → Mm → Rs Int32} {i : Int} {M : Mm} (h0 : 0 ≤ i) (h1 : i + 4 ≤ (sl : Int)) (h2 : (sl : Int) ≤ 2048) (hI : INV M) (hK : ∀ M', INV M' → RET (k28 (zI (i + 4)) M')) : RET (fn_La_law_2480 xs sl k28 (zI i) M) := by
  obtain ⟨p, hp, bp⟩ := zI_ex (xs (zI i + 1).toNatClampNeg)
  have c := Case ((Q_inversionsByPairs bp).step) (K := fun M => li (zI i + 4) (fun x => k28 x M)) (k4 hK) hI
  unfold fn_La_law_2480 fn_La_law_2533 fn_La_law_3926 fn_La_inversionsByPairs
  simp only [grd_t (g1 h0 h1 h2), hp]
  exact c
theorem LC_33 {xs : Nat → Int32} {sl : Nat} {k28 : Int32 → Mm → Rs Int32} {i : Int} {M : Mm} (h0 : 0 ≤ i) (h1 : i + 4 ≤ (sl : Int)) (h2 : (sl : Int) ≤ 2048) (hI : INV M) (hK : ∀ M', INV M' → RET (k28 (zI (i + 4)) M')) : RET (fn_La_law_2536 xs sl k28 (zI i) M) := by
  obtain ⟨p, hp, bp⟩ := zI_ex (xs (zI i + 1).toNatClampNeg)
  have c := Case ((Q_leastPeriod bp).step) (K := fun M => li (zI i + 4) (fun x => k28 x M)) (k4 hK) hI
  unfold fn_La_law_2536 fn_La_law_2589 fn_La_law_3926 fn_La_leastPeriod
  simp only [grd_t (g1 h0 h1 h2), hp]
  exact c
theorem LC_34 {xs : Nat → Int32} {sl : Nat} {k28 : Int32 → Mm → Rs Int32} {i : Int} {M : Mm} (h0 : 0 ≤ i) (h1 : i + 4 ≤ (sl : Int)) (h2 : (sl : Int) ≤ 2048) (hI : INV M) (hK : ∀ M', INV M' → RET (k28 (zI (i + 4)) M')) : RET (fn_La_law_2592 xs sl k28 (zI i) M) := by
  obtain ⟨p, hp, bp⟩ := zI_ex (xs (zI i + 1).toNatClampNeg)
  have c := Case ((Q_leastPeriodByTrial bp).step) (K := fun M => li (zI i + 4) (fun x => k28 x M)) (k4 hK) hI
  unfold fn_La_law_2592 fn_La_law_2645 fn_La_law_3926 fn_La_leastPeriodByTrial
  simp only [grd_t (g1 h0 h1 h2), hp]
  exact c
theorem LC_35 {xs : Nat → Int32} {sl : Nat} {k28 : Int32 → Mm → Rs Int32} {i : Int} {M : Mm} (h0 : 0 ≤ i) (h1 : i + 4 ≤ (sl : Int)) (h2 : (sl : Int) ≤ 2048) (hI : INV M) (hK : ∀ M', INV M' → RET (k28 (zI (i + 4)) M')) : RET (fn_La_law_2648 xs sl k28 (zI i) M) := by
  obtain ⟨p, hp, bp⟩ := zI_ex (xs (zI i + 1).toNatClampNeg)
  obtain ⟨q, hq, bq⟩ := zI_ex (xs (zI i + 2).toNatClampNeg)
  have c := Case ((Q_occurrences bp bq).step) (K := fun M => li (zI i + 4) (fun x => k28 x M)) (k4 hK) hI
  unfold fn_La_law_2648 fn_La_law_2713 fn_La_law_3926 fn_La_occurrences
  simp only [grd_t (g1 h0 h1 h2), grd_t (g2 h0 h1 h2), hp, hq]
  exact c
theorem LC_36 {xs : Nat → Int32} {sl : Nat} {k28 : Int32 → Mm → Rs Int32} {i : Int} {M : Mm} (h0 : 0 ≤ i) (h1 : i + 4 ≤ (sl : Int)) (h2 : (sl : Int) ≤ 2048) (hI : INV M) (hK : ∀ M', INV M' → RET (k28 (zI (i + 4)) M')) : RET (fn_La_law_2716 xs sl k28 (zI i) M) := by
  obtain ⟨p, hp, bp⟩ := zI_ex (xs (zI i + 1).toNatClampNeg)
  obtain ⟨q, hq, bq⟩ := zI_ex (xs (zI i + 2).toNatClampNeg)
  have c := Case ((Q_occurrencesByScan bp bq).step) (K := fun M => li (zI i + 4) (fun x => k28 x M)) (k4 hK) hI
  unfold fn_La_law_2716 fn_La_law_2781 fn_La_law_3926 fn_La_occurrencesByScan
  simp only [grd_t (g1 h0 h1 h2), grd_t (g2 h0 h1 h2), hp, hq]
  exact c
theorem LC_37 {xs : Nat → Int32} {sl : Nat} {k28 : Int32 → Mm → Rs Int32} {i : Int} {M : Mm} (h0 : 0 ≤ i) (h1 : i + 4 ≤ (sl : Int)) (h2 : (sl : Int) ≤ 2048) (hI : INV M) (hK : ∀ M', INV M' → RET (k28 (zI (i + 4)) M')) : RET (fn_La_law_2784 xs sl k28 (zI i) M) := by
  obtain ⟨p, hp, bp⟩ := zI_ex (xs (zI i + 1).toNatClampNeg)
  obtain ⟨q, hq, bq⟩ := zI_ex (xs (zI i + 2).toNatClampNeg)
  have c := Case ((Q_leastError bp bq).step) (K := fun M => li (zI i + 4) (fun x => k28 x M)) (k4 hK) hI
  unfold fn_La_law_2784 fn_La_law_2849 fn_La_law_3926 fn_La_leastError
  simp only [grd_t (g1 h0 h1 h2), grd_t (g2 h0 h1 h2), hp, hq]
  exact c
theorem LC_38 {xs : Nat → Int32} {sl : Nat} {k28 : Int32 → Mm → Rs Int32} {i : Int} {M : Mm} (h0 : 0 ≤ i) (h1 : i + 4 ≤ (sl : Int)) (h2 : (sl : Int) ≤ 2048) (hI : INV M) (hK : ∀ M', INV M' → RET (k28 (zI (i + 4)) M')) : RET (fn_La_law_2852 xs sl k28 (zI i) M) := by
  obtain ⟨p, hp, bp⟩ := zI_ex (xs (zI i + 1).toNatClampNeg)
  obtain ⟨q, hq, bq⟩ := zI_ex (xs (zI i + 2).toNatClampNeg)
  have c := Case ((Q_leastErrorByCuts bp bq).step) (K := fun M => li (zI i + 4) (fun x => k28 x M)) (k4 hK) hI
  unfold fn_La_law_2852 fn_La_law_2917 fn_La_law_3926 fn_La_leastErrorByCuts
  simp only [grd_t (g1 h0 h1 h2), grd_t (g2 h0 h1 h2), hp, hq]
  exact c
theorem LC_39 {xs : Nat → Int32} {sl : Nat} {k28 : Int32 → Mm → Rs Int32} {i : Int} {M : Mm} (h0 : 0 ≤ i) (h1 : i + 4 ≤ (sl : Int)) (h2 : (sl : Int) ≤ 2048) (hI : INV M) (hK : ∀ M', INV M' → RET (k28 (zI (i + 4)) M')) : RET (fn_La_law_2920 xs sl k28 (zI i) M) := by
  obtain ⟨p, hp, bp⟩ := zI_ex (xs (zI i + 1).toNatClampNeg)
  obtain ⟨q, hq, bq⟩ := zI_ex (xs (zI i + 2).toNatClampNeg)
  obtain ⟨r, hr, br⟩ := zI_ex (xs (zI i + 3).toNatClampNeg)
  have c := Case ((Q_segmentStart bp bq br).step) (K := fun M => li (zI i + 4) (fun x => k28 x M)) (k4 hK) hI
  unfold fn_La_law_2920 fn_La_law_2997 fn_La_law_3926 fn_La_segmentStart
  simp only [grd_t (g1 h0 h1 h2), grd_t (g2 h0 h1 h2), grd_t (g3 h0 h1 h2), hp, hq, hr]
  exact c
theorem LC_40 {xs : Nat → Int32} {sl : Nat} {k28 : Int32 → Mm → Rs Int32} {i : Int} {M : Mm} (h0 : 0 ≤ i) (h1 : i + 4 ≤ (sl : Int)) (h2 : (sl : Int) ≤ 2048) (hI : INV M) (hK : ∀ M', INV M' → RET (k28 (zI (i + 4)) M')) : RET (fn_La_law_3000 xs sl k28 (zI i) M) := by
  obtain ⟨p, hp, bp⟩ := zI_ex (xs (zI i + 1).toNatClampNeg)
  obtain ⟨q, hq, bq⟩ := zI_ex (xs (zI i + 2).toNatClampNeg)
  have c := Case ((Q_distance bp bq).step) (K := fun M => li (zI i + 4) (fun x => k28 x M)) (k4 hK) hI
  unfold fn_La_law_3000 fn_La_law_3065 fn_La_law_3926 fn_La_distance
  simp only [grd_t (g1 h0 h1 h2), grd_t (g2 h0 h1 h2), hp, hq]
  exact c
theorem LC_41 {xs : Nat → Int32} {sl : Nat} {k28 : Int32 → Mm → Rs Int32} {i : Int} {M : Mm} (h0 : 0 ≤ i) (h1 : i + 4 ≤ (sl : Int)) (h2 : (sl : Int) ≤ 2048) (hI : INV M) (hK : ∀ M', INV M' → RET (k28 (zI (i + 4)) M')) : RET (fn_La_law_3068 xs sl k28 (zI i) M) := by
  obtain ⟨p, hp, bp⟩ := zI_ex (xs (zI i + 1).toNatClampNeg)
  obtain ⟨q, hq, bq⟩ := zI_ex (xs (zI i + 2).toNatClampNeg)
  have c := Case ((Q_distanceByWalks bp bq).step) (K := fun M => li (zI i + 4) (fun x => k28 x M)) (k4 hK) hI
  unfold fn_La_law_3068 fn_La_law_3133 fn_La_law_3926 fn_La_distanceByWalks
  simp only [grd_t (g1 h0 h1 h2), grd_t (g2 h0 h1 h2), hp, hq]
  exact c
theorem LC_42 {xs : Nat → Int32} {sl : Nat} {k28 : Int32 → Mm → Rs Int32} {i : Int} {M : Mm} (h0 : 0 ≤ i) (h1 : i + 4 ≤ (sl : Int)) (h2 : (sl : Int) ≤ 2048) (hI : INV M) (hK : ∀ M', INV M' → RET (k28 (zI (i + 4)) M')) : RET (fn_La_law_3136 xs sl k28 (zI i) M) := by
  obtain ⟨p, hp, bp⟩ := zI_ex (xs (zI i + 1).toNatClampNeg)
  obtain ⟨q, hq, bq⟩ := zI_ex (xs (zI i + 2).toNatClampNeg)
  have c := CaseB (Q_areEqual bp bq) (K := fun M => li (zI i + 4) (fun x => k28 x M)) (k4 hK) hI
  unfold fn_La_law_3136 fn_La_law_3202 fn_La_law_3208 fn_La_law_3926 fn_La_areEqual
  simp only [grd_t (g1 h0 h1 h2), grd_t (g2 h0 h1 h2), hp, hq]
  exact c
theorem LC_43 {xs : Nat → Int32} {sl : Nat} {k28 : Int32 → Mm → Rs Int32} {i : Int} {M : Mm} (h0 : 0 ≤ i) (h1 : i + 4 ≤ (sl : Int)) (h2 : (sl : Int) ≤ 2048) (hI : INV M) (hK : ∀ M', INV M' → RET (k28 (zI (i + 4)) M')) : RET (fn_La_law_3211 xs sl k28 (zI i) M) := by
  obtain ⟨p, hp, bp⟩ := zI_ex (xs (zI i + 1).toNatClampNeg)
  obtain ⟨q, hq, bq⟩ := zI_ex (xs (zI i + 2).toNatClampNeg)
  have c := CaseB (Q_areParallel bp bq) (K := fun M => li (zI i + 4) (fun x => k28 x M)) (k4 hK) hI
  unfold fn_La_law_3211 fn_La_law_3277 fn_La_law_3283 fn_La_law_3926 fn_La_areParallel
  simp only [grd_t (g1 h0 h1 h2), grd_t (g2 h0 h1 h2), hp, hq]
  exact c
theorem LC_44 {xs : Nat → Int32} {sl : Nat} {k28 : Int32 → Mm → Rs Int32} {i : Int} {M : Mm} (h0 : 0 ≤ i) (h1 : i + 4 ≤ (sl : Int)) (h2 : (sl : Int) ≤ 2048) (hI : INV M) (hK : ∀ M', INV M' → RET (k28 (zI (i + 4)) M')) : RET (fn_La_law_3286 xs sl k28 (zI i) M) := by
  obtain ⟨p, hp, bp⟩ := zI_ex (xs (zI i + 1).toNatClampNeg)
  have c := CaseB (Q_isAscending bp) (K := fun M => li (zI i + 4) (fun x => k28 x M)) (k4 hK) hI
  unfold fn_La_law_3286 fn_La_law_3340 fn_La_law_3346 fn_La_law_3926 fn_La_isAscending
  simp only [grd_t (g1 h0 h1 h2), hp]
  exact c
theorem LC_45 {xs : Nat → Int32} {sl : Nat} {k28 : Int32 → Mm → Rs Int32} {i : Int} {M : Mm} (h0 : 0 ≤ i) (h1 : i + 4 ≤ (sl : Int)) (h2 : (sl : Int) ≤ 2048) (hI : INV M) (hK : ∀ M', INV M' → RET (k28 (zI (i + 4)) M')) : RET (fn_La_law_3349 xs sl k28 (zI i) M) := by
  have c := CaseS (Same_of Q_valueTotal) (K := fun M => li (zI i + 4) (fun x => k28 x M)) (k4 hK) hI
  unfold fn_La_law_3349 fn_La_law_3926
  exact c
theorem LC_46 {xs : Nat → Int32} {sl : Nat} {k28 : Int32 → Mm → Rs Int32} {i : Int} {M : Mm} (h0 : 0 ≤ i) (h1 : i + 4 ≤ (sl : Int)) (h2 : (sl : Int) ≤ 2048) (hI : INV M) (hK : ∀ M', INV M' → RET (k28 (zI (i + 4)) M')) : RET (fn_La_law_3362 xs sl k28 (zI i) M) := by
  have c := CaseS Sm_appendedTotal (K := fun M => li (zI i + 4) (fun x => k28 x M)) (k4 hK) hI
  unfold fn_La_law_3362 fn_La_law_3926
  exact c
theorem LC_47 {xs : Nat → Int32} {sl : Nat} {k28 : Int32 → Mm → Rs Int32} {i : Int} {M : Mm} (h0 : 0 ≤ i) (h1 : i + 4 ≤ (sl : Int)) (h2 : (sl : Int) ≤ 2048) (hI : INV M) (hK : ∀ M', INV M' → RET (k28 (zI (i + 4)) M')) : RET (fn_La_law_3375 xs sl k28 (zI i) M) := by
  have c := CaseShare (K := fun M => li (zI i + 4) (fun x => k28 x M)) (k4 hK) hI
  unfold fn_La_law_3375 fn_La_law_3438 fn_La_law_3926 fn_La_positiveShare
  exact c
theorem LC_48 {xs : Nat → Int32} {sl : Nat} {k28 : Int32 → Mm → Rs Int32} {i : Int} {M : Mm} (h0 : 0 ≤ i) (h1 : i + 4 ≤ (sl : Int)) (h2 : (sl : Int) ≤ 2048) (hI : INV M) (hK : ∀ M', INV M' → RET (k28 (zI (i + 4)) M')) : RET (fn_La_law_3441 xs sl k28 (zI i) M) := by
  have c := CaseS (Same_of Q_isConsistent) (K := fun M => li (zI i + 4) (fun x => k28 x M)) (k4 hK) hI
  unfold fn_La_law_3441 fn_La_law_3926
  exact c
theorem LC_49 {xs : Nat → Int32} {sl : Nat} {k28 : Int32 → Mm → Rs Int32} {i : Int} {M : Mm} (h0 : 0 ≤ i) (h1 : i + 4 ≤ (sl : Int)) (h2 : (sl : Int) ≤ 2048) (hI : INV M) (hK : ∀ M', INV M' → RET (k28 (zI (i + 4)) M')) : RET (fn_La_law_3454 xs sl k28 (zI i) M) := by
  obtain ⟨p, hp, bp⟩ := zI_ex (xs (zI i + 1).toNatClampNeg)
  have c := Case (St_formatSeries bp) (K := fun M => li (zI i + 4) (fun x => k28 x M)) (k4 hK) hI
  unfold fn_La_law_3454 fn_La_law_3507 fn_La_law_3926 fn_La_formatSeries
  simp only [grd_t (g1 h0 h1 h2), hp]
  exact c
theorem LC_50 {xs : Nat → Int32} {sl : Nat} {k28 : Int32 → Mm → Rs Int32} {i : Int} {M : Mm} (h0 : 0 ≤ i) (h1 : i + 4 ≤ (sl : Int)) (h2 : (sl : Int) ≤ 2048) (hI : INV M) (hK : ∀ M', INV M' → RET (k28 (zI (i + 4)) M')) : RET (fn_La_law_3510 xs sl k28 (zI i) M) := by
  obtain ⟨p, hp, bp⟩ := zI_ex (xs (zI i + 1).toNatClampNeg)
  have c := Case (St_formatRuns bp) (K := fun M => li (zI i + 4) (fun x => k28 x M)) (k4 hK) hI
  unfold fn_La_law_3510 fn_La_law_3563 fn_La_law_3926 fn_La_formatRuns
  simp only [grd_t (g1 h0 h1 h2), hp]
  exact c
theorem LC_51 {xs : Nat → Int32} {sl : Nat} {k28 : Int32 → Mm → Rs Int32} {i : Int} {M : Mm} (h0 : 0 ≤ i) (h1 : i + 4 ≤ (sl : Int)) (h2 : (sl : Int) ≤ 2048) (hI : INV M) (hK : ∀ M', INV M' → RET (k28 (zI (i + 4)) M')) : RET (fn_La_law_3566 xs sl k28 (zI i) M) := by
  obtain ⟨p, hp, bp⟩ := zI_ex (xs (zI i + 1).toNatClampNeg)
  have c := Case (St_lineChar bp) (K := fun M => li (zI i + 4) (fun x => k28 x M)) (k4 hK) hI
  unfold fn_La_law_3566 fn_La_law_3619 fn_La_law_3926 fn_La_lineChar
  simp only [grd_t (g1 h0 h1 h2), hp]
  exact c
theorem LC_52 {xs : Nat → Int32} {sl : Nat} {k28 : Int32 → Mm → Rs Int32} {i : Int} {M : Mm} (h0 : 0 ≤ i) (h1 : i + 4 ≤ (sl : Int)) (h2 : (sl : Int) ≤ 2048) (hI : INV M) (hK : ∀ M', INV M' → RET (k28 (zI (i + 4)) M')) : RET (fn_La_law_3622 xs sl k28 (zI i) M) := by
  obtain ⟨p, hp, bp⟩ := chr_ex (xs (zI i + 1).toNatClampNeg)
  have c := Case (St_type bp) (K := fun M => li (zI i + 4) (fun x => k28 x M)) (k4 hK) hI
  unfold fn_La_law_3622 fn_La_law_3677 fn_La_law_3926 fn_La_type
  simp only [grd_t (g1 h0 h1 h2), hp]
  exact c
theorem LC_53 {xs : Nat → Int32} {sl : Nat} {k28 : Int32 → Mm → Rs Int32} {i : Int} {M : Mm} (h0 : 0 ≤ i) (h1 : i + 4 ≤ (sl : Int)) (h2 : (sl : Int) ≤ 2048) (hI : INV M) (hK : ∀ M', INV M' → RET (k28 (zI (i + 4)) M')) : RET (fn_La_law_3680 xs sl k28 (zI i) M) := by
  have c := Case (St_run) (K := fun M => li (zI i + 4) (fun x => k28 x M)) (k4 hK) hI
  unfold fn_La_law_3680 fn_La_law_3721 fn_La_law_3926 fn_La_run
  exact c
theorem LC_54 {xs : Nat → Int32} {sl : Nat} {k28 : Int32 → Mm → Rs Int32} {i : Int} {M : Mm} (h0 : 0 ≤ i) (h1 : i + 4 ≤ (sl : Int)) (h2 : (sl : Int) ≤ 2048) (hI : INV M) (hK : ∀ M', INV M' → RET (k28 (zI (i + 4)) M')) : RET (fn_La_law_3724 xs sl k28 (zI i) M) := by
  have c := Case (St_errorPosition) (K := fun M => li (zI i + 4) (fun x => k28 x M)) (k4 hK) hI
  unfold fn_La_law_3724 fn_La_law_3765 fn_La_law_3926 fn_La_errorPosition
  exact c
theorem LC_55 {xs : Nat → Int32} {sl : Nat} {k28 : Int32 → Mm → Rs Int32} {i : Int} {M : Mm} (h0 : 0 ≤ i) (h1 : i + 4 ≤ (sl : Int)) (h2 : (sl : Int) ≤ 2048) (hI : INV M) (hK : ∀ M', INV M' → RET (k28 (zI (i + 4)) M')) : RET (fn_La_law_3768 xs sl k28 (zI i) M) := by
  have c := Case (St_failedCommand) (K := fun M => li (zI i + 4) (fun x => k28 x M)) (k4 hK) hI
  unfold fn_La_law_3768 fn_La_law_3809 fn_La_law_3926 fn_La_failedCommand
  exact c
theorem LC_56 {xs : Nat → Int32} {sl : Nat} {k28 : Int32 → Mm → Rs Int32} {i : Int} {M : Mm} (h0 : 0 ≤ i) (h1 : i + 4 ≤ (sl : Int)) (h2 : (sl : Int) ≤ 2048) (hI : INV M) (hK : ∀ M', INV M' → RET (k28 (zI (i + 4)) M')) : RET (fn_La_law_3812 xs sl k28 (zI i) M) := by
  have c := CaseS Sm_undoableCount (K := fun M => li (zI i + 4) (fun x => k28 x M)) (k4 hK) hI
  unfold fn_La_law_3812 fn_La_law_3926
  exact c
theorem LC_57 {xs : Nat → Int32} {sl : Nat} {k28 : Int32 → Mm → Rs Int32} {i : Int} {M : Mm} (h0 : 0 ≤ i) (h1 : i + 4 ≤ (sl : Int)) (h2 : (sl : Int) ≤ 2048) (hI : INV M) (hK : ∀ M', INV M' → RET (k28 (zI (i + 4)) M')) : RET (fn_La_law_3825 xs sl k28 (zI i) M) := by
  have c := Case (St_undo) (K := fun M => li (zI i + 4) (fun x => k28 x M)) (k4 hK) hI
  unfold fn_La_law_3825 fn_La_law_3866 fn_La_law_3926 fn_La_undo
  exact c
theorem LC_58 {xs : Nat → Int32} {sl : Nat} {k28 : Int32 → Mm → Rs Int32} {i : Int} {M : Mm} (h0 : 0 ≤ i) (h1 : i + 4 ≤ (sl : Int)) (h2 : (sl : Int) ≤ 2048) (hI : INV M) (hK : ∀ M', INV M' → RET (k28 (zI (i + 4)) M')) : RET (fn_La_law_3869 xs sl k28 (zI i) M) := by
  have c := CaseS Sm_save (K := fun M => li (zI i + 4) (fun x => k28 x M)) (k4 hK) hI
  unfold fn_La_law_3869 fn_La_law_3926
  exact c
theorem LC_59 {xs : Nat → Int32} {sl : Nat} {k28 : Int32 → Mm → Rs Int32} {i : Int} {M : Mm} (h0 : 0 ≤ i) (h1 : i + 4 ≤ (sl : Int)) (h2 : (sl : Int) ≤ 2048) (hI : INV M) (hK : ∀ M', INV M' → RET (k28 (zI (i + 4)) M')) : RET (fn_La_law_3882 xs sl k28 (zI i) M) := by
  have c := Case (St_restore) (K := fun M => li (zI i + 4) (fun x => k28 x M)) (k4 hK) hI
  unfold fn_La_law_3882 fn_La_law_3923 fn_La_law_3926 fn_La_restore
  exact c
theorem law_loop {xs : Nat → Int32} {sl : Nat} (h2 : (sl : Int) ≤ 2048) : ∀ (k : Nat) (i : Int) (M : Mm), INV M → 0 ≤ i → i ≤ (sl : Int) → (sl : Int) - i < 4 * (k : Int) → RET (fn_La_law_28 xs sl k (zI i) M) := by
  intro k
  induction k with
  | zero => intros; omega
  | succ k ih =>
    intro i M hI h0 h1 h3
    have e0 : nI sl - 4 = zI ((sl : Int) - 4) := by rw [zI_nI, show (4 : Int32) = zI 4 from rfl, zI_sub]
    rw [fn_La_law_28, e0]
    by_cases c : (sl : Int) - 4 < i
    · rw [if_pos (by rw [zI_lt (by omega) (by omega)]; exact c)]
      exact ⟨M, rfl⟩
    · rw [if_neg (by rw [zI_lt (by omega) (by omega)]; exact c), grd_t (inb_z h0 (by omega) (by omega)), li_eq]
      have hK : ∀ M', INV M' → RET (fn_La_law_28 xs sl k (zI (i + 4)) M') := fun M' hI' => ih (i + 4) M' hI' (by omega) (by omega) (by omega)
      have e1 : i + 4 ≤ (sl : Int) := by omega
      generalize xs (zI i).toNatClampNeg &&& 63 = s
      by_cases c0 : s = 0
      · rw [if_pos c0]
        exact LC_0 h0 e1 h2 hI hK
      rw [if_neg c0]
      by_cases c1 : s = 1
      · rw [if_pos c1]
        exact LC_1 h0 e1 h2 hI hK
      rw [if_neg c1]
      by_cases c2 : s = 2
      · rw [if_pos c2]
        exact LC_2 h0 e1 h2 hI hK
      rw [if_neg c2]
      by_cases c3 : s = 3
      · rw [if_pos c3]
        exact LC_3 h0 e1 h2 hI hK
      rw [if_neg c3]
      by_cases c4 : s = 4
      · rw [if_pos c4]
        exact LC_4 h0 e1 h2 hI hK
      rw [if_neg c4]
      by_cases c5 : s = 5
      · rw [if_pos c5]
        exact LC_5 h0 e1 h2 hI hK
      rw [if_neg c5]
      by_cases c6 : s = 6
      · rw [if_pos c6]
        exact LC_6 h0 e1 h2 hI hK
      rw [if_neg c6]
      by_cases c7 : s = 7
      · rw [if_pos c7]
        exact LC_7 h0 e1 h2 hI hK
      rw [if_neg c7]
      by_cases c8 : s = 8
      · rw [if_pos c8]
        exact LC_8 h0 e1 h2 hI hK
      rw [if_neg c8]
      by_cases c9 : s = 9
      · rw [if_pos c9]
        exact LC_9 h0 e1 h2 hI hK
      rw [if_neg c9]
      by_cases c10 : s = 10
      · rw [if_pos c10]
        exact LC_10 h0 e1 h2 hI hK
      rw [if_neg c10]
      by_cases c11 : s = 11
      · rw [if_pos c11]
        exact LC_11 h0 e1 h2 hI hK
      rw [if_neg c11]
      by_cases c12 : s = 12
      · rw [if_pos c12]
        exact LC_12 h0 e1 h2 hI hK
      rw [if_neg c12]
      by_cases c13 : s = 13
      · rw [if_pos c13]
        exact LC_13 h0 e1 h2 hI hK
      rw [if_neg c13]
      by_cases c14 : s = 14
      · rw [if_pos c14]
        exact LC_14 h0 e1 h2 hI hK
      rw [if_neg c14]
      by_cases c15 : s = 15
      · rw [if_pos c15]
        exact LC_15 h0 e1 h2 hI hK
      rw [if_neg c15]
      by_cases c16 : s = 16
      · rw [if_pos c16]
        exact LC_16 h0 e1 h2 hI hK
      rw [if_neg c16]
      by_cases c17 : s = 17
      · rw [if_pos c17]
        exact LC_17 h0 e1 h2 hI hK
      rw [if_neg c17]
      by_cases c18 : s = 18
      · rw [if_pos c18]
        exact LC_18 h0 e1 h2 hI hK
      rw [if_neg c18]
      by_cases c19 : s = 19
      · rw [if_pos c19]
        exact LC_19 h0 e1 h2 hI hK
      rw [if_neg c19]
      by_cases c20 : s = 20
      · rw [if_pos c20]
        exact LC_20 h0 e1 h2 hI hK
      rw [if_neg c20]
      by_cases c21 : s = 21
      · rw [if_pos c21]
        exact LC_21 h0 e1 h2 hI hK
      rw [if_neg c21]
      by_cases c22 : s = 22
      · rw [if_pos c22]
        exact LC_22 h0 e1 h2 hI hK
      rw [if_neg c22]
      by_cases c23 : s = 23
      · rw [if_pos c23]
        exact LC_23 h0 e1 h2 hI hK
      rw [if_neg c23]
      by_cases c24 : s = 24
      · rw [if_pos c24]
        exact LC_24 h0 e1 h2 hI hK
      rw [if_neg c24]
      by_cases c25 : s = 25
      · rw [if_pos c25]
        exact LC_25 h0 e1 h2 hI hK
      rw [if_neg c25]
      by_cases c26 : s = 26
      · rw [if_pos c26]
        exact LC_26 h0 e1 h2 hI hK
      rw [if_neg c26]
      by_cases c27 : s = 27
      · rw [if_pos c27]
        exact LC_27 h0 e1 h2 hI hK
      rw [if_neg c27]
      by_cases c28 : s = 28
      · rw [if_pos c28]
        exact LC_28 h0 e1 h2 hI hK
      rw [if_neg c28]
      by_cases c29 : s = 29
      · rw [if_pos c29]
        exact LC_29 h0 e1 h2 hI hK
      rw [if_neg c29]
      by_cases c30 : s = 30
      · rw [if_pos c30]
        exact LC_30 h0 e1 h2 hI hK
      rw [if_neg c30]
      by_cases c31 : s = 31
      · rw [if_pos c31]
        exact LC_31 h0 e1 h2 hI hK
      rw [if_neg c31]
      by_cases c32 : s = 32
      · rw [if_pos c32]
        exact LC_32 h0 e1 h2 hI hK
      rw [if_neg c32]
      by_cases c33 : s = 33
      · rw [if_pos c33]
        exact LC_33 h0 e1 h2 hI hK
      rw [if_neg c33]
      by_cases c34 : s = 34
      · rw [if_pos c34]
        exact LC_34 h0 e1 h2 hI hK
      rw [if_neg c34]
      by_cases c35 : s = 35
      · rw [if_pos c35]
        exact LC_35 h0 e1 h2 hI hK
      rw [if_neg c35]
      by_cases c36 : s = 36
      · rw [if_pos c36]
        exact LC_36 h0 e1 h2 hI hK
      rw [if_neg c36]
      by_cases c37 : s = 37
      · rw [if_pos c37]
        exact LC_37 h0 e1 h2 hI hK
      rw [if_neg c37]
      by_cases c38 : s = 38
      · rw [if_pos c38]
        exact LC_38 h0 e1 h2 hI hK
      rw [if_neg c38]
      by_cases c39 : s = 39
      · rw [if_pos c39]
        exact LC_39 h0 e1 h2 hI hK
      rw [if_neg c39]
      by_cases c40 : s = 40
      · rw [if_pos c40]
        exact LC_40 h0 e1 h2 hI hK
      rw [if_neg c40]
      by_cases c41 : s = 41
      · rw [if_pos c41]
        exact LC_41 h0 e1 h2 hI hK
      rw [if_neg c41]
      by_cases c42 : s = 42
      · rw [if_pos c42]
        exact LC_42 h0 e1 h2 hI hK
      rw [if_neg c42]
      by_cases c43 : s = 43
      · rw [if_pos c43]
        exact LC_43 h0 e1 h2 hI hK
      rw [if_neg c43]
      by_cases c44 : s = 44
      · rw [if_pos c44]
        exact LC_44 h0 e1 h2 hI hK
      rw [if_neg c44]
      by_cases c45 : s = 45
      · rw [if_pos c45]
        exact LC_45 h0 e1 h2 hI hK
      rw [if_neg c45]
      by_cases c46 : s = 46
      · rw [if_pos c46]
        exact LC_46 h0 e1 h2 hI hK
      rw [if_neg c46]
      by_cases c47 : s = 47
      · rw [if_pos c47]
        exact LC_47 h0 e1 h2 hI hK
      rw [if_neg c47]
      by_cases c48 : s = 48
      · rw [if_pos c48]
        exact LC_48 h0 e1 h2 hI hK
      rw [if_neg c48]
      by_cases c49 : s = 49
      · rw [if_pos c49]
        exact LC_49 h0 e1 h2 hI hK
      rw [if_neg c49]
      by_cases c50 : s = 50
      · rw [if_pos c50]
        exact LC_50 h0 e1 h2 hI hK
      rw [if_neg c50]
      by_cases c51 : s = 51
      · rw [if_pos c51]
        exact LC_51 h0 e1 h2 hI hK
      rw [if_neg c51]
      by_cases c52 : s = 52
      · rw [if_pos c52]
        exact LC_52 h0 e1 h2 hI hK
      rw [if_neg c52]
      by_cases c53 : s = 53
      · rw [if_pos c53]
        exact LC_53 h0 e1 h2 hI hK
      rw [if_neg c53]
      by_cases c54 : s = 54
      · rw [if_pos c54]
        exact LC_54 h0 e1 h2 hI hK
      rw [if_neg c54]
      by_cases c55 : s = 55
      · rw [if_pos c55]
        exact LC_55 h0 e1 h2 hI hK
      rw [if_neg c55]
      by_cases c56 : s = 56
      · rw [if_pos c56]
        exact LC_56 h0 e1 h2 hI hK
      rw [if_neg c56]
      by_cases c57 : s = 57
      · rw [if_pos c57]
        exact LC_57 h0 e1 h2 hI hK
      rw [if_neg c57]
      by_cases c58 : s = 58
      · rw [if_pos c58]
        exact LC_58 h0 e1 h2 hI hK
      rw [if_neg c58]
      by_cases c59 : s = 59
      · rw [if_pos c59]
        exact LC_59 h0 e1 h2 hI hK
      rw [if_neg c59]
      exact k4 hK M hI
theorem law_ok {xs : Nat → Int32} {sl : Nat} (h2 : (sl : Int) ≤ 2048) {M : Mm} (hI : INV M) : RET (fn_La_law_28 xs sl 513 0 M) := law_loop h2 513 0 M hI (by omega) (by omega) (by omega)
