/-! CALLS THAT ANSWER: what the class answers and what the model answers -/
/-- nothing but scratch rows, out, outD and thrown differ -/
def Off (M M2 : Mm) : Prop := (∀ j, j < 22 ∨ j = 26 ∨ j = 28 ∨ j = 30 ∨ (33 ≤ j ∧ j ≤ 36) ∨ (39 ≤ j ∧ j ≤ 44) → M2 j = M j) ∧ ∀ i, i ≠ 6 → M2 32 i = M 32 i
theorem Off.rf (M : Mm) : Off M M := ⟨fun _ _ => rfl, fun _ _ => rfl⟩
theorem Off.tr {A B C : Mm} (h : Off A B) (k : Off B C) : Off A C := ⟨fun j hj => (k.1 j hj).trans (h.1 j hj), fun i hi => (k.2 i hi).trans (h.2 i hi)⟩
theorem Off.th (M : Mm) (x : Int32) : Off M (mset M 32 6 x) := ⟨fun j hj => mset_ne M 6 x (by omega), fun i hi => by rw [mset_eq]; exact if_neg hi⟩
theorem Off.sc (M : Mm) (k : Nat) (g : Nat → Int32) (hk : (22 ≤ k ∧ k ≤ 25) ∨ k = 27 ∨ k = 29 ∨ k = 31 ∨ k = 37 ∨ k = 38 ∨ k = 45 ∨ k = 46) : Off M (mrow M k g) := ⟨fun j hj => mrow_ne M g (by omega), fun i _ => by rw [mrow_ne M g (by omega)]⟩
def Cs (N : Int → Int) (A : Int → Int → Int) (M : Mm) : Prop := ∀ s, 0 ≤ s → s < 4 → Ser M (s.toNat + 2) (N s) (A s)
def Ms (N : Int → Int) (A : Int → Int → Int) (M : Mm) : Prop := ∀ s, 0 ≤ s → s < 4 → Mse M s (N s) (A s)
theorem Cs.off {N : Int → Int} {A : Int → Int → Int} {M M2 : Mm} (h : Cs N A M) (o : Off M M2) : Cs N A M2 := fun s h0 h1 => (h s h0 h1).to (o.1 _ (by omega)) (o.1 _ (by omega))
theorem Ms.off {N : Int → Int} {A : Int → Int → Int} {M M2 : Mm} (h : Ms N A M) (o : Off M M2) : Ms N A M2 := fun s h0 h1 => (h s h0 h1).to (o.1 _ (by omega))
def CR {α : Type} (x : Rs α) (M : Mm) (o : α ⊕ Nat) : Prop := ∃ M1, x = some (o, M1) ∧ Off M M1
theorem CR.of {α : Type} {x : Rs α} {M : Mm} {o : α ⊕ Nat} (h : x = some (o, M)) : CR x M o := ⟨M, h, Off.rf M⟩
def MR {α : Type} (N : Int → Int) (A : Int → Int → Int) (y : Mm → Rs α) (r : α) (c : Int32) : Prop := ∀ M, Ms N A M → ∃ M2, y M = some (.inl r, M2) ∧ Off M M2 ∧ M2 32 6 = c ∧ M2 45 = M 45 ∧ M2 46 = M 46
theorem MR.of {α : Type} {N : Int → Int} {A : Int → Int → Int} {y : Mm → Rs α} {r : α} {c : Int32} (h : ∀ M, Ms N A M → y M = some (.inl r, mset M 32 6 c)) : MR N A y r c := fun M hM => ⟨_, h M hM, Off.th M c, mset_at M 32 6 c, mset_ne M 6 c (by decide), mset_ne M 6 c (by decide)⟩
def cod : List (Nat × Int32) → Nat → Option Int32
  | [], _ => none
  | a :: t, q => if a.1 = q then some a.2 else cod t q
/-- both answer alike: a number, or a throw with its place in the law's list -/
def AgR {α : Type} (x : Mm → Rs α) (cs : List (Nat × Int32)) (y : Mm → Rs α) : Prop := ∀ M N A, Cs N A M → Ms N A M → (∃ r, CR (x M) M (.inl r) ∧ MR N A y r 0) ∨ ∃ q b c, CR (x M) M (.inr q) ∧ cod cs q = some c ∧ c ≠ 0 ∧ MR N A y b c
theorem St_at_z {M : Mm} {s : Int} (hs : 0 ≤ s ∧ s < 4) : fn_St_at (zI s) M = some (.inl (s.toNat + 2), M) := by
  unfold fn_St_at
  rcases (by omega : s = 0 ∨ s = 1 ∨ s = 2 ∨ s = 3) with rfl | rfl | rfl | rfl
  · simp (disch := omega) only [zlit, zI_add, zI_sub, zI_mul, zI_neg, zI_lt, zI_le, zI_eq, zI_cl, zI_max, zI_min, zI_abs, bnd_ok, bnd_ex, lm_eq, li_eq, grd_inb, grd_ser, grd_z, grd_lt, if_true, if_false, if_pos, if_neg]
    rfl
  · simp (disch := omega) only [zlit, zI_add, zI_sub, zI_mul, zI_neg, zI_lt, zI_le, zI_eq, zI_cl, zI_max, zI_min, zI_abs, bnd_ok, bnd_ex, lm_eq, li_eq, grd_inb, grd_ser, grd_z, grd_lt, if_true, if_false, if_pos, if_neg]
    rfl
  · simp (disch := omega) only [zlit, zI_add, zI_sub, zI_mul, zI_neg, zI_lt, zI_le, zI_eq, zI_cl, zI_max, zI_min, zI_abs, bnd_ok, bnd_ex, lm_eq, li_eq, grd_inb, grd_ser, grd_z, grd_lt, if_true, if_false, if_pos, if_neg]
    rfl
  · simp (disch := omega) only [zlit, zI_add, zI_sub, zI_mul, zI_neg, zI_lt, zI_le, zI_eq, zI_cl, zI_max, zI_min, zI_abs, bnd_ok, bnd_ex, lm_eq, li_eq, grd_inb, grd_ser, grd_z, grd_lt, if_true, if_false, if_pos, if_neg]
    rfl
theorem SA_isSlot {M : Mm} {s : Int} (hr : -2147483648 ≤ s ∧ s < 2147483648) : fn_SA_isSlot (zI s) M = some (.inl (zI (if 0 ≤ s ∧ s < 4 then 1 else 0)), M) := by
  unfold fn_SA_isSlot
  by_cases c : s < 0
  · simp (disch := omega) only [zlit, zI_add, zI_sub, zI_mul, zI_neg, zI_lt, zI_le, zI_eq, zI_cl, zI_max, zI_min, zI_abs, bnd_ok, bnd_ex, lm_eq, li_eq, grd_inb, grd_ser, grd_z, grd_lt, if_true, if_false, if_pos, if_neg]
  · by_cases c2 : 4 ≤ s
    · simp (disch := omega) only [zlit, zI_add, zI_sub, zI_mul, zI_neg, zI_lt, zI_le, zI_eq, zI_cl, zI_max, zI_min, zI_abs, bnd_ok, bnd_ex, lm_eq, li_eq, grd_inb, grd_ser, grd_z, grd_lt, if_true, if_false, if_pos, if_neg]
    · simp (disch := omega) only [zlit, zI_add, zI_sub, zI_mul, zI_neg, zI_lt, zI_le, zI_eq, zI_cl, zI_max, zI_min, zI_abs, bnd_ok, bnd_ex, lm_eq, li_eq, grd_inb, grd_ser, grd_z, grd_lt, if_true, if_false, if_pos, if_neg]
theorem SA_isValue {M : Mm} {s : Int} (hr : -2147483648 ≤ s ∧ s < 2147483648) : fn_SA_isValue (zI s) M = some (.inl (zI (if -99 ≤ s ∧ s ≤ 99 then 1 else 0)), M) := by
  unfold fn_SA_isValue
  by_cases c : s < -99
  · simp (disch := omega) only [zlit, zI_add, zI_sub, zI_mul, zI_neg, zI_lt, zI_le, zI_eq, zI_cl, zI_max, zI_min, zI_abs, bnd_ok, bnd_ex, lm_eq, li_eq, grd_inb, grd_ser, grd_z, grd_lt, if_true, if_false, if_pos, if_neg]
  · by_cases c2 : 99 < s
    · simp (disch := omega) only [zlit, zI_add, zI_sub, zI_mul, zI_neg, zI_lt, zI_le, zI_eq, zI_cl, zI_max, zI_min, zI_abs, bnd_ok, bnd_ex, lm_eq, li_eq, grd_inb, grd_ser, grd_z, grd_lt, if_true, if_false, if_pos, if_neg]
    · simp (disch := omega) only [zlit, zI_add, zI_sub, zI_mul, zI_neg, zI_lt, zI_le, zI_eq, zI_cl, zI_max, zI_min, zI_abs, bnd_ok, bnd_ex, lm_eq, li_eq, grd_inb, grd_ser, grd_z, grd_lt, if_true, if_false, if_pos, if_neg]
theorem SA_in {M : Mm} {s : Int} (hs : 0 ≤ s ∧ s < 4) : fn_SA_seriesIn (zI s) M = some (.inl (s.toNat + 2), M) := by
  unfold fn_SA_seriesIn
  simp (disch := omega) only [zlit, zI_add, zI_sub, zI_mul, zI_neg, zI_lt, zI_le, zI_eq, zI_cl, zI_max, zI_min, zI_abs, bnd_ok, bnd_ex, lm_eq, li_eq, grd_inb, grd_ser, grd_z, grd_lt, if_true, if_false, if_pos, if_neg, SA_isSlot, St_at_z]
theorem SA_in_no {M : Mm} {s : Int} (hr : -2147483648 ≤ s ∧ s < 2147483648) (hs : ¬ (0 ≤ s ∧ s < 4)) : fn_SA_seriesIn (zI s) M = some (.inr 0, M) := by
  unfold fn_SA_seriesIn
  simp (disch := omega) only [zlit, zI_add, zI_sub, zI_mul, zI_neg, zI_lt, zI_le, zI_eq, zI_cl, zI_max, zI_min, zI_abs, bnd_ok, bnd_ex, lm_eq, li_eq, grd_inb, grd_ser, grd_z, grd_lt, if_true, if_false, if_pos, if_neg, SA_isSlot]
theorem SA_with {M : Mm} {s i n : Int} {a : Int → Int} (hs : 0 ≤ s ∧ s < 4) (h : Ser M (s.toNat + 2) n a) (h0 : 0 ≤ i) (h1 : i < n) : fn_SA_seriesWith (zI s) (zI i) M = some (.inl (s.toNat + 2), M) := by
  unfold fn_SA_seriesWith
  simp (disch := omega) only [zlit, zI_add, zI_sub, zI_mul, zI_neg, zI_lt, zI_le, zI_eq, zI_cl, zI_max, zI_min, zI_abs, bnd_ok, bnd_ex, lm_eq, li_eq, grd_inb, grd_ser, grd_z, grd_lt, if_true, if_false, if_pos, if_neg, SA_in, h.has]
theorem SA_with_no {M : Mm} {s i n : Int} {a : Int → Int} (hs : 0 ≤ s ∧ s < 4) (h : Ser M (s.toNat + 2) n a) (hr : -2147483648 ≤ i ∧ i < 2147483648) (h0 : i < 0 ∨ n ≤ i) : fn_SA_seriesWith (zI s) (zI i) M = some (.inr 0, M) := by
  unfold fn_SA_seriesWith
  simp (disch := omega) only [zlit, zI_add, zI_sub, zI_mul, zI_neg, zI_lt, zI_le, zI_eq, zI_cl, zI_max, zI_min, zI_abs, bnd_ok, bnd_ex, lm_eq, li_eq, grd_inb, grd_ser, grd_z, grd_lt, if_true, if_false, if_pos, if_neg, SA_in, h.hasn]
theorem SA_with_no2 {M : Mm} {s i : Int} (hr : -2147483648 ≤ s ∧ s < 2147483648) (hs : ¬ (0 ≤ s ∧ s < 4)) : fn_SA_seriesWith (zI s) (zI i) M = some (.inr 0, M) := by
  unfold fn_SA_seriesWith
  simp (disch := omega) only [zlit, zI_add, zI_sub, zI_mul, zI_neg, zI_lt, zI_le, zI_eq, zI_cl, zI_max, zI_min, zI_abs, bnd_ok, bnd_ex, lm_eq, li_eq, grd_inb, grd_ser, grd_z, grd_lt, if_true, if_false, if_pos, if_neg, SA_in_no]
theorem SA_range {M : Mm} {s f t n : Int} {a : Int → Int} (hs : 0 ≤ s ∧ s < 4) (h : Ser M (s.toNat + 2) n a) (h0 : 0 ≤ f ∧ f ≤ t) (h1 : t < n) : fn_SA_seriesWithRange (zI s) (zI f) (zI t) M = some (.inl (s.toNat + 2), M) := by
  have hn := h.n
  unfold fn_SA_seriesWithRange
  simp (disch := omega) only [zlit, zI_add, zI_sub, zI_mul, zI_neg, zI_lt, zI_le, zI_eq, zI_cl, zI_max, zI_min, zI_abs, bnd_ok, bnd_ex, lm_eq, li_eq, grd_inb, grd_ser, grd_z, grd_lt, if_true, if_false, if_pos, if_neg, SA_in, h.has]
theorem SA_range_no {M : Mm} {s f t n : Int} {a : Int → Int} (hs : 0 ≤ s ∧ s < 4) (h : Ser M (s.toNat + 2) n a) (hf : -2147483648 ≤ f ∧ f < 2147483648) (ht : -2147483648 ≤ t ∧ t < 2147483648) (h0 : ¬ (0 ≤ f ∧ f ≤ t ∧ t < n)) : fn_SA_seriesWithRange (zI s) (zI f) (zI t) M = some (.inr 0, M) := by
  have hn := h.n
  unfold fn_SA_seriesWithRange
  by_cases c : 0 ≤ f ∧ f < n
  · by_cases c2 : 0 ≤ t ∧ t < n
    · simp (disch := omega) only [zlit, zI_add, zI_sub, zI_mul, zI_neg, zI_lt, zI_le, zI_eq, zI_cl, zI_max, zI_min, zI_abs, bnd_ok, bnd_ex, lm_eq, li_eq, grd_inb, grd_ser, grd_z, grd_lt, if_true, if_false, if_pos, if_neg, SA_in, h.has]
    · simp (disch := omega) only [zlit, zI_add, zI_sub, zI_mul, zI_neg, zI_lt, zI_le, zI_eq, zI_cl, zI_max, zI_min, zI_abs, bnd_ok, bnd_ex, lm_eq, li_eq, grd_inb, grd_ser, grd_z, grd_lt, if_true, if_false, if_pos, if_neg, SA_in, h.has, h.hasn]
  · simp (disch := omega) only [zlit, zI_add, zI_sub, zI_mul, zI_neg, zI_lt, zI_le, zI_eq, zI_cl, zI_max, zI_min, zI_abs, bnd_ok, bnd_ex, lm_eq, li_eq, grd_inb, grd_ser, grd_z, grd_lt, if_true, if_false, if_pos, if_neg, SA_in, h.hasn]
theorem SA_range_no2 {M : Mm} {s f t : Int} (hr : -2147483648 ≤ s ∧ s < 2147483648) (hs : ¬ (0 ≤ s ∧ s < 4)) : fn_SA_seriesWithRange (zI s) (zI f) (zI t) M = some (.inr 0, M) := by
  unfold fn_SA_seriesWithRange
  simp (disch := omega) only [zlit, zI_add, zI_sub, zI_mul, zI_neg, zI_lt, zI_le, zI_eq, zI_cl, zI_max, zI_min, zI_abs, bnd_ok, bnd_ex, lm_eq, li_eq, grd_inb, grd_ser, grd_z, grd_lt, if_true, if_false, if_pos, if_neg, SA_in_no]
theorem mo_range {M : Mm} {s f t n : Int} {a : Int → Int} (h : Mse M s n a) (hf : -2147483648 ≤ f ∧ f < 2147483648) (ht : -2147483648 ≤ t ∧ t < 2147483648) : fn_Mo_isRange (zI s) (zI f) (zI t) M = some (.inl (zI (if 0 ≤ f ∧ f ≤ t ∧ t < n then 1 else 0)), M) := by
  have hn := h.n
  have hs := h.s
  unfold fn_Mo_isRange
  by_cases c : 0 ≤ f ∧ f < n
  · by_cases c2 : 0 ≤ t ∧ t < n
    · by_cases c3 : f ≤ t
      · simp (disch := omega) only [zlit, zI_add, zI_sub, zI_mul, zI_neg, zI_lt, zI_le, zI_eq, zI_cl, zI_max, zI_min, zI_abs, bnd_ok, bnd_ex, lm_eq, li_eq, grd_inb, grd_ser, grd_z, grd_lt, if_true, if_false, if_pos, if_neg, h.index]
      · simp (disch := omega) only [zlit, zI_add, zI_sub, zI_mul, zI_neg, zI_lt, zI_le, zI_eq, zI_cl, zI_max, zI_min, zI_abs, bnd_ok, bnd_ex, lm_eq, li_eq, grd_inb, grd_ser, grd_z, grd_lt, if_true, if_false, if_pos, if_neg, h.index]
    · simp (disch := omega) only [zlit, zI_add, zI_sub, zI_mul, zI_neg, zI_lt, zI_le, zI_eq, zI_cl, zI_max, zI_min, zI_abs, bnd_ok, bnd_ex, lm_eq, li_eq, grd_inb, grd_ser, grd_z, grd_lt, if_true, if_false, if_pos, if_neg, h.index]
  · simp (disch := omega) only [zlit, zI_add, zI_sub, zI_mul, zI_neg, zI_lt, zI_le, zI_eq, zI_cl, zI_max, zI_min, zI_abs, bnd_ok, bnd_ex, lm_eq, li_eq, grd_inb, grd_ser, grd_z, grd_lt, if_true, if_false, if_pos, if_neg, h.index]
theorem mo_range_no {M : Mm} {s f t : Int} (hr : -2147483648 ≤ s ∧ s < 2147483648) (hs : ¬ (0 ≤ s ∧ s < 4)) : fn_Mo_isRange (zI s) (zI f) (zI t) M = some (.inl (zI 0), M) := by
  unfold fn_Mo_isRange
  simp (disch := omega) only [zlit, zI_add, zI_sub, zI_mul, zI_neg, zI_lt, zI_le, zI_eq, zI_cl, zI_max, zI_min, zI_abs, bnd_ok, bnd_ex, lm_eq, li_eq, grd_inb, grd_ser, grd_z, grd_lt, if_true, if_false, if_pos, if_neg, mo_index_no]
theorem iff1 {p : Prop} {d : Decidable p} : ((if p then 1 else 0 : Int) = 0 ∨ (if p then 1 else 0 : Int) = 1) := by
  by_cases h : p
  · rw [if_pos h]; exact .inr rfl
  · rw [if_neg h]; exact .inl rfl
/-! the calls -/
theorem Q_length {p : Int} (hp : -2147483648 ≤ p ∧ p < 2147483648) : AgR (fn_SA_length (zI p)) [(0, 1)] (fn_Mo_length (zI p)) := by
  intro M N A H K
  by_cases c : 0 ≤ p ∧ p < 4
  · have h := H p c.1 c.2
    refine .inl ⟨zI (N p), CR.of ?_, MR.of (fun M' K' => ?_)⟩
    · unfold fn_SA_length
      simp (disch := omega) only [zlit, zI_add, zI_sub, zI_mul, zI_neg, zI_lt, zI_le, zI_eq, zI_cl, zI_max, zI_min, zI_abs, bnd_ok, bnd_ex, lm_eq, li_eq, grd_inb, grd_ser, grd_z, grd_lt, if_true, if_false, if_pos, if_neg, SA_in, h.size]
    · have k := (K' p c.1 c.2).set (k := 32) (by decide) 6 (zI 0)
      unfold fn_Mo_length
      simp (disch := omega) only [zlit, zI_add, zI_sub, zI_mul, zI_neg, zI_lt, zI_le, zI_eq, zI_cl, zI_max, zI_min, zI_abs, bnd_ok, bnd_ex, lm_eq, li_eq, grd_inb, grd_ser, grd_z, grd_lt, if_true, if_false, if_pos, if_neg, mo_slot, mo_checked, Int.sub_self, k.many]
  · refine .inr ⟨0, 0, 1, CR.of ?_, rfl, by decide, MR.of (fun M' K' => ?_)⟩
    · unfold fn_SA_length
      simp (disch := omega) only [zlit, zI_add, zI_sub, zI_mul, zI_neg, zI_lt, zI_le, zI_eq, zI_cl, zI_max, zI_min, zI_abs, bnd_ok, bnd_ex, lm_eq, li_eq, grd_inb, grd_ser, grd_z, grd_lt, if_true, if_false, if_pos, if_neg, SA_in_no]
    · unfold fn_Mo_length
      simp (disch := omega) only [zlit, zI_add, zI_sub, zI_mul, zI_neg, zI_lt, zI_le, zI_eq, zI_cl, zI_max, zI_min, zI_abs, bnd_ok, bnd_ex, lm_eq, li_eq, grd_inb, grd_ser, grd_z, grd_lt, if_true, if_false, if_pos, if_neg, mo_slot, mo_checked, Int.sub_zero]
theorem Q_value {p i : Int} (hp : -2147483648 ≤ p ∧ p < 2147483648) (hi : -2147483648 ≤ i ∧ i < 2147483648) : AgR (fn_SA_value (zI p) (zI i)) [(0, 1)] (fn_Mo_value (zI p) (zI i)) := by
  intro M N A H K
  by_cases c : 0 ≤ p ∧ p < 4
  · have h := H p c.1 c.2
    have hn := h.n
    by_cases c2 : 0 ≤ i ∧ i < N p
    · refine .inl ⟨zI (A p i), CR.of ?_, MR.of (fun M' K' => ?_)⟩
      · unfold fn_SA_value
        simp (disch := omega) only [zlit, zI_add, zI_sub, zI_mul, zI_neg, zI_lt, zI_le, zI_eq, zI_cl, zI_max, zI_min, zI_abs, bnd_ok, bnd_ex, lm_eq, li_eq, grd_inb, grd_ser, grd_z, grd_lt, if_true, if_false, if_pos, if_neg, SA_with c h, h.at]
      · have k := (K' p c.1 c.2)
        have k2 := k.set (k := 32) (by decide) 6 (zI 0)
        unfold fn_Mo_value
        simp (disch := omega) only [zlit, zI_add, zI_sub, zI_mul, zI_neg, zI_lt, zI_le, zI_eq, zI_cl, zI_max, zI_min, zI_abs, bnd_ok, bnd_ex, lm_eq, li_eq, grd_inb, grd_ser, grd_z, grd_lt, if_true, if_false, if_pos, if_neg, k.index, mo_checked, Int.sub_self, k2.at]
    · refine .inr ⟨0, 0, 1, CR.of ?_, rfl, by decide, MR.of (fun M' K' => ?_)⟩
      · unfold fn_SA_value
        simp (disch := omega) only [zlit, zI_add, zI_sub, zI_mul, zI_neg, zI_lt, zI_le, zI_eq, zI_cl, zI_max, zI_min, zI_abs, bnd_ok, bnd_ex, lm_eq, li_eq, grd_inb, grd_ser, grd_z, grd_lt, if_true, if_false, if_pos, if_neg, SA_with_no c h]
      · have k := (K' p c.1 c.2)
        unfold fn_Mo_value
        simp (disch := omega) only [zlit, zI_add, zI_sub, zI_mul, zI_neg, zI_lt, zI_le, zI_eq, zI_cl, zI_max, zI_min, zI_abs, bnd_ok, bnd_ex, lm_eq, li_eq, grd_inb, grd_ser, grd_z, grd_lt, if_true, if_false, if_pos, if_neg, k.index, mo_checked, Int.sub_zero]
  · refine .inr ⟨0, 0, 1, CR.of ?_, rfl, by decide, MR.of (fun M' K' => ?_)⟩
    · unfold fn_SA_value
      simp (disch := omega) only [zlit, zI_add, zI_sub, zI_mul, zI_neg, zI_lt, zI_le, zI_eq, zI_cl, zI_max, zI_min, zI_abs, bnd_ok, bnd_ex, lm_eq, li_eq, grd_inb, grd_ser, grd_z, grd_lt, if_true, if_false, if_pos, if_neg, SA_with_no2]
    · unfold fn_Mo_value
      simp (disch := omega) only [zlit, zI_add, zI_sub, zI_mul, zI_neg, zI_lt, zI_le, zI_eq, zI_cl, zI_max, zI_min, zI_abs, bnd_ok, bnd_ex, lm_eq, li_eq, grd_inb, grd_ser, grd_z, grd_lt, if_true, if_false, if_pos, if_neg, mo_index_no, mo_checked, Int.sub_zero]
