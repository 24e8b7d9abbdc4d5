/-! FLOATING POINT: quotients of whole numbers are numbers -/
def fpOk (f : FP.Core.Fmt) : FP.Core.Datum → Prop
  | .nan => False
  | .inf _ => True
  | .fin _ c q => c < 2 ^ f.p ∧ q ≤ f.qmax
def fpFin : FP.Core.Datum → Bool
  | .fin .. => true
  | _ => false
def fpNz : FP.Core.Datum → Bool
  | .fin _ c _ => decide (c ≠ 0)
  | _ => false
theorem fp_bound (f : FP.Core.Fmt) (s : Bool) (c : Nat) (q : Int) (h : c < 2 ^ f.p) : fpOk f (FP.Core.bound f s c q) := by
  unfold FP.Core.bound
  by_cases k : q ≤ f.qmax
  · rw [if_pos k]; exact ⟨h, k⟩
  · rw [if_neg k]; trivial
theorem fp_rr (f : FP.Core.Fmt) (hp : f.tails < 2 ^ f.p) (hq : f.qmin ≤ f.qmax) (s : Bool) (num den : Nat) (e : Int) : fpOk f (FP.Core.roundRatio f s num den e) := by
  unfold FP.Core.roundRatio
  by_cases k : num = 0
  · rw [if_pos k]
    exact ⟨by omega, hq⟩
  · rw [if_neg k]
    unfold FP.Core.roundAt FP.Core.settle
    by_cases k2 : FP.Core.nearest (FP.Core.unitsNum num e (FP.Core.quantum f num den e)) (FP.Core.unitsDen den e (FP.Core.quantum f num den e)) < 2 ^ f.p
    · rw [if_pos k2]; exact fp_bound f s _ _ k2
    · rw [if_neg k2]; exact fp_bound f s _ _ hp
theorem fp_quot (f : FP.Core.Fmt) (hp : f.tails < 2 ^ f.p) (hq : f.qmin ≤ f.qmax) {x y : FP.Core.Datum} (hx : fpFin x = true) (hy : fpNz y = true) : fpOk f (FP.Core.quotient f x y) := by
  cases x with
  | nan => cases hx
  | inf s => cases hx
  | fin s c q =>
    cases y with
    | nan => cases hy
    | inf s => cases hy
    | fin t d r =>
      have hd : d ≠ 0 := of_decide_eq_true hy
      show fpOk f (if d = 0 then _ else _)
      rw [if_neg hd]
      exact fp_rr f hp hq _ _ _ _
theorem fp_round (f : FP.Core.Fmt) (hp : f.tails < 2 ^ f.p) (hq : f.qmin ≤ f.qmax) {x : FP.Core.Datum} (hx : x ≠ .nan) : fpOk f (FP.Core.round f x) := by
  cases x with
  | nan => exact absurd rfl hx
  | inf s => trivial
  | fin s c q => exact fp_rr f hp hq _ _ _ _
theorem fp_enc64 {d : FP.Core.Datum} (h : fpOk FP.Core.b64 d) : FP.Core.encode FP.Core.b64 d % 9223372036854775808 ≤ 9218868437227405312 := by
  have hT : FP.Core.b64.tails = 4503599627370496 := rfl
  have hE : FP.Core.b64.exps = 2048 := rfl
  have hP : 2 ^ FP.Core.b64.p = 9007199254740992 := rfl
  have hm : FP.Core.b64.qmin = -1074 := rfl
  have hM : FP.Core.b64.qmax = 971 := rfl
  cases d with
  | nan => exact h.elim
  | inf s =>
    show FP.Core.assemble FP.Core.b64 s (FP.Core.b64.exps - 1) 0 % _ ≤ _
    unfold FP.Core.assemble
    rw [hT, hE]
    cases s <;> simp
  | fin s c q =>
    obtain ⟨h1, h2⟩ := h
    rw [hP] at h1
    rw [hM] at h2
    show (if c < FP.Core.b64.tails then FP.Core.assemble FP.Core.b64 s 0 c else FP.Core.assemble FP.Core.b64 s ((q - FP.Core.b64.qmin).toNat + 1) (c - FP.Core.b64.tails)) % _ ≤ _
    unfold FP.Core.assemble
    rw [hT, hE, hm]
    by_cases k : c < 4503599627370496
    · rw [if_pos k]
      cases s
      · show ((0 * 2048 + 0) * 4503599627370496 + c) % 9223372036854775808 ≤ _
        omega
      · show ((1 * 2048 + 0) * 4503599627370496 + c) % 9223372036854775808 ≤ _
        omega
    · rw [if_neg k]
      cases s
      · show ((0 * 2048 + ((q - -1074).toNat + 1)) * 4503599627370496 + (c - 4503599627370496)) % 9223372036854775808 ≤ _
        omega
      · show ((1 * 2048 + ((q - -1074).toNat + 1)) * 4503599627370496 + (c - 4503599627370496)) % 9223372036854775808 ≤ _
        omega
theorem fp_enc32 {d : FP.Core.Datum} (h : fpOk FP.Core.b32 d) : FP.Core.encode FP.Core.b32 d % 2147483648 ≤ 2139095040 := by
  have hT : FP.Core.b32.tails = 8388608 := rfl
  have hE : FP.Core.b32.exps = 256 := rfl
  have hP : 2 ^ FP.Core.b32.p = 16777216 := rfl
  have hm : FP.Core.b32.qmin = -149 := rfl
  have hM : FP.Core.b32.qmax = 104 := rfl
  cases d with
  | nan => exact h.elim
  | inf s =>
    show FP.Core.assemble FP.Core.b32 s (FP.Core.b32.exps - 1) 0 % _ ≤ _
    unfold FP.Core.assemble
    rw [hT, hE]
    cases s <;> simp
  | fin s c q =>
    obtain ⟨h1, h2⟩ := h
    rw [hP] at h1
    rw [hM] at h2
    show (if c < FP.Core.b32.tails then FP.Core.assemble FP.Core.b32 s 0 c else FP.Core.assemble FP.Core.b32 s ((q - FP.Core.b32.qmin).toNat + 1) (c - FP.Core.b32.tails)) % _ ≤ _
    unfold FP.Core.assemble
    rw [hT, hE, hm]
    by_cases k : c < 8388608
    · rw [if_pos k]
      cases s
      · show ((0 * 256 + 0) * 8388608 + c) % 2147483648 ≤ _
        omega
      · show ((1 * 256 + 0) * 8388608 + c) % 2147483648 ≤ _
        omega
    · rw [if_neg k]
      cases s
      · show ((0 * 256 + ((q - -149).toNat + 1)) * 8388608 + (c - 8388608)) % 2147483648 ≤ _
        omega
      · show ((1 * 256 + ((q - -149).toNat + 1)) * 8388608 + (c - 8388608)) % 2147483648 ≤ _
        omega
theorem n64_iff (r : UInt64) : zz_n64 r ↔ r.toNat % 9223372036854775808 ≤ 9218868437227405312 := by
  show r &&& 0x7fffffffffffffff ≤ 0x7ff0000000000000 ↔ _
  rw [UInt64.le_iff_toNat_le, UInt64.toNat_and]
  show r.toNat &&& 9223372036854775807 ≤ 9218868437227405312 ↔ _
  rw [show (9223372036854775807 : Nat) = 2 ^ 63 - 1 from rfl, Nat.and_two_pow_sub_one_eq_mod]
theorem n32_iff (r : UInt32) : zz_n32 r ↔ r.toNat % 2147483648 ≤ 2139095040 := by
  show r &&& 0x7fffffff ≤ 0x7f800000 ↔ _
  rw [UInt32.le_iff_toNat_le, UInt32.toNat_and]
  show r.toNat &&& 2147483647 ≤ 2139095040 ↔ _
  rw [show (2147483647 : Nat) = 2 ^ 31 - 1 from rfl, Nat.and_two_pow_sub_one_eq_mod]
theorem n64_enc {d : FP.Core.Datum} (h : fpOk FP.Core.b64 d) : zz_n64 (UInt64.ofNat (FP.Core.encode FP.Core.b64 d)) := by
  rw [n64_iff, UInt64.toNat_ofNat']
  have := fp_enc64 h
  omega
theorem n32_enc {d : FP.Core.Datum} (h : fpOk FP.Core.b32 d) : zz_n32 (UInt32.ofNat (FP.Core.encode FP.Core.b32 d)) := by
  rw [n32_iff, UInt32.toNat_ofNat']
  have := fp_enc32 h
  omega
theorem dec64 {r : UInt64} (h : zz_n64 r) : FP.Core.decode FP.Core.b64 r.toNat ≠ .nan := by
  rw [n64_iff] at h
  have hT : FP.Core.b64.tails = 4503599627370496 := rfl
  have hE : FP.Core.b64.exps = 2048 := rfl
  unfold FP.Core.decode FP.Core.fieldE FP.Core.fieldT
  rw [hT, hE]
  by_cases k : r.toNat / 4503599627370496 % 2048 = 2048 - 1
  · rw [if_pos k, if_pos (by omega)]
    exact fun z => by cases z
  · rw [if_neg k]
    by_cases k2 : r.toNat / 4503599627370496 % 2048 = 0
    · rw [if_pos k2]
      exact fun z => by cases z
    · rw [if_neg k2]
      exact fun z => by cases z
theorem dec32 {r : UInt32} (h : zz_n32 r) : FP.Core.decode FP.Core.b32 r.toNat ≠ .nan := by
  rw [n32_iff] at h
  have hT : FP.Core.b32.tails = 8388608 := rfl
  have hE : FP.Core.b32.exps = 256 := rfl
  unfold FP.Core.decode FP.Core.fieldE FP.Core.fieldT
  rw [hT, hE]
  by_cases k : r.toNat / 8388608 % 256 = 256 - 1
  · rw [if_pos k, if_pos (by omega)]
    exact fun z => by cases z
  · rw [if_neg k]
    by_cases k2 : r.toNat / 8388608 % 256 = 0
    · rw [if_pos k2]
      exact fun z => by cases z
    · rw [if_neg k2]
      exact fun z => by cases z
theorem int_cmp (x : Int) : compare x x = Ordering.eq := by
  show compareOfLessAndEq x x = Ordering.eq
  unfold compareOfLessAndEq
  rw [if_neg (by omega), if_pos rfl]
theorem fp_order {d : FP.Core.Datum} (h : d ≠ .nan) : FP.Core.order d d = some .eq := by
  cases d with
  | nan => exact absurd rfl h
  | inf s => show some (compare _ _) = _; rw [int_cmp]
  | fin s c q => show some (compare _ _) = _; rw [int_cmp]
theorem dcmp_self {r : UInt64} (h : zz_n64 r) : FP.dcmp r r = some .eq := fp_order (dec64 h)
theorem f2d_ok {r : UInt32} (h : zz_n32 r) : zz_n64 (FP.f2d r) := by
  have hn := dec32 h
  show zz_n64 (if FP.Core.fIsNaN r = true then FP.nanF2D r else FP.Core.f2d r)
  rw [if_neg (by
    unfold FP.Core.fIsNaN FP.Core.isNaN
    rw [decide_eq_true_eq]
    exact hn)]
  exact n64_enc (fp_round FP.Core.b64 (by decide) (by decide) hn)
theorem i2d_fin_b : ((List.range 3961).all fun k => fpFin (FP.Core.decode FP.Core.b64 (FP.i2d (zI ((k : Int) - 1980))).toNat)) = true := by decide +kernel
theorem i2d_nz_b : ((List.range 20).all fun k => fpNz (FP.Core.decode FP.Core.b64 (FP.i2d (zI ((k : Int) + 1))).toNat)) = true := by decide +kernel
theorem i2f_fin_b : ((List.range 81).all fun k => fpFin (FP.Core.decode FP.Core.b32 (FP.i2f (zI (k : Int))).toNat)) = true := by decide +kernel
theorem i2f_nz_b : ((List.range 80).all fun k => fpNz (FP.Core.decode FP.Core.b32 (FP.i2f (zI ((k : Int) + 1))).toNat)) = true := by decide +kernel
theorem mean_ok {s n : Int} (hs : -1980 ≤ s ∧ s ≤ 1980) (hn : 1 ≤ n ∧ n ≤ 20) : zz_n64 (FP.ddiv (FP.i2d (zI s)) (FP.i2d (zI n))) := by
  have h1 := List.all_eq_true.mp i2d_fin_b (s + 1980).toNat (List.mem_range.mpr (by omega))
  have h2 := List.all_eq_true.mp i2d_nz_b (n - 1).toNat (List.mem_range.mpr (by omega))
  rw [show (((s + 1980).toNat : Nat) : Int) - 1980 = s by omega] at h1
  rw [show (((n - 1).toNat : Nat) : Int) + 1 = n by omega] at h2
  exact n64_enc (fp_quot FP.Core.b64 (by decide) (by decide) h1 h2)
theorem share_ok {s n : Int} (hs : 0 ≤ s ∧ s ≤ 80) (hn : 1 ≤ n ∧ n ≤ 80) : zz_n32 (FP.fdiv (FP.i2f (zI s)) (FP.i2f (zI n))) := by
  have h1 := List.all_eq_true.mp i2f_fin_b s.toNat (List.mem_range.mpr (by omega))
  have h2 := List.all_eq_true.mp i2f_nz_b (n - 1).toNat (List.mem_range.mpr (by omega))
  rw [show ((s.toNat : Nat) : Int) = s by omega] at h1
  rw [show (((n - 1).toNat : Nat) : Int) + 1 = n by omega] at h2
  exact n32_enc (fp_quot FP.Core.b32 (by decide) (by decide) h1 h2)
theorem grd_n64 {α : Type} {r : UInt64} {d : Decidable (zz_n64 r)} {t : Option α} (h : zz_n64 r) : @grd α (zz_n64 r) d t = t := grd_t h
theorem Q_mean {p : Int} (hp : -2147483648 ≤ p ∧ p < 2147483648) : AgR (fn_SA_mean (zI p)) [(0, 1), (4, 2)] (fn_Mo_mean (zI p)) := by
  intro M N A H K
  by_cases c : 0 ≤ p ∧ p < 4
  · have h := H p c.1 c.2
    have hn := h.n
    by_cases c2 : N p = 0
    · refine .inr ⟨4, FP.dconst0, 2, CR.of ?_, rfl, by decide, MR.of (fun M' K' => ?_)⟩
      · unfold fn_SA_mean
        simp (disch := omega) only [zlit, zI_add, zI_sub, zI_mul, zI_neg, zI_lt, zI_le, zI_eq, zI_cl, zI_max, zI_min, zI_abs, bnd_ok, bnd_ex, lm_eq, li_eq, grd_inb, grd_ser, grd_z, grd_lt, if_true, if_false, if_pos, if_neg, SA_in, h.emp]
      · have k := K' p c.1 c.2
        unfold fn_Mo_mean
        simp (disch := omega) only [zlit, zI_add, zI_sub, zI_mul, zI_neg, zI_lt, zI_le, zI_eq, zI_cl, zI_max, zI_min, zI_abs, bnd_ok, bnd_ex, lm_eq, li_eq, grd_inb, grd_ser, grd_z, grd_lt, if_true, if_false, if_pos, if_neg, mo_slot, k.many, fn_Mo_mean_25, mset_at]
    · have hs := sumF_b h.b (i := 0) (j := N p) (s := 0) (by omega)
      have hok := mean_ok (s := sumF (A p) 0 (N p) 0) (n := N p) (by omega) (by omega)
      refine .inl ⟨FP.ddiv (FP.i2d (zI (sumF (A p) 0 (N p) 0))) (FP.i2d (zI (N p))), CR.of ?_, MR.of (fun M' K' => ?_)⟩
      · have e := h.total (f := 0) (t := N p - 1) (by omega) (by omega) (by omega)
        rw [Int.sub_add_cancel] at e
        unfold fn_SA_mean
        simp (disch := omega) only [zlit, zI_add, zI_sub, zI_mul, zI_neg, zI_lt, zI_le, zI_eq, zI_cl, zI_max, zI_min, zI_abs, bnd_ok, bnd_ex, lm_eq, li_eq, grd_inb, grd_ser, grd_z, grd_lt, if_true, if_false, if_pos, if_neg, SA_in, h.emp, h.size, e]
        exact grd_t hok
      · have k := K' p c.1 c.2
        have k2 := k.set (k := 32) (by decide) 6 (zI 0)
        have e := k2.total (f := 0) (t := N p - 1) (by omega) (by omega) (by omega)
        rw [Int.sub_add_cancel] at e
        unfold fn_Mo_mean
        simp (disch := omega) only [zlit, zI_add, zI_sub, zI_mul, zI_neg, zI_lt, zI_le, zI_eq, zI_cl, zI_max, zI_min, zI_abs, bnd_ok, bnd_ex, lm_eq, li_eq, grd_inb, grd_ser, grd_z, grd_lt, if_true, if_false, if_pos, if_neg, mo_slot, k.many, fn_Mo_mean_25, mset_at, k2.many, e]
        exact grd_t hok
  · refine .inr ⟨0, FP.dconst0, 1, CR.of ?_, rfl, by decide, MR.of (fun M' K' => ?_)⟩
    · unfold fn_SA_mean
      simp (disch := omega) only [zlit, zI_add, zI_sub, zI_mul, zI_neg, zI_lt, zI_le, zI_eq, zI_cl, zI_max, zI_min, zI_abs, bnd_ok, bnd_ex, lm_eq, li_eq, grd_inb, grd_ser, grd_z, grd_lt, if_true, if_false, if_pos, if_neg, SA_in_no]
    · unfold fn_Mo_mean
      simp (disch := omega) only [zlit, zI_add, zI_sub, zI_mul, zI_neg, zI_lt, zI_le, zI_eq, zI_cl, zI_max, zI_min, zI_abs, bnd_ok, bnd_ex, lm_eq, li_eq, grd_inb, grd_ser, grd_z, grd_lt, if_true, if_false, if_pos, if_neg, mo_slot, fn_Mo_mean_25, mset_at]
