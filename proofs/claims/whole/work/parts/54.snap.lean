/-! SNAPSHOTS: the whole state in a row, the class's way and the model's -/
def CRow (M : Mm) (k : Nat) (b : Int) (N : Int → Int) (A : Int → Int → Int) (ap : Int) : Prop := M k b.toNat = zI ap ∧ ∀ s, 0 ≤ s → s < 4 → M k (b + 1 + 21 * s).toNat = zI (N s) ∧ ∀ i, 0 ≤ i → i < N s → M k (b + 2 + 21 * s + i).toNat = zI (A s i)
def MRow (M : Mm) (k : Nat) (b : Int) (N : Int → Int) (A : Int → Int → Int) (ap : Int) : Prop := M k (b + 84).toNat = zI ap ∧ ∀ s, 0 ≤ s → s < 4 → M k (b + 21 * s).toNat = zI (N s) ∧ ∀ i, 0 ≤ i → i < N s → M k (b + 21 * s + 1 + i).toNat = zI (A s i)
def SnB (N : Int → Int) (A : Int → Int → Int) : Prop := ∀ s, 0 ≤ s → s < 4 → (0 ≤ N s ∧ N s ≤ 20) ∧ ∀ i, -99 ≤ A s i ∧ A s i ≤ 99
theorem Cs.sn {N : Int → Int} {A : Int → Int → Int} {M : Mm} (H : Cs N A M) : SnB N A := fun s s0 s1 => ⟨(H s s0 s1).n, (H s s0 s1).b⟩
theorem CRow.to {M M' : Mm} {k : Nat} {b : Int} {N : Int → Int} {A : Int → Int → Int} {ap : Int} (h : CRow M k b N A ap) (hs : SnB N A) (hb : 0 ≤ b) (he : ∀ i : Nat, b ≤ i → (i : Int) < b + 85 → M' k i = M k i) : CRow M' k b N A ap := by
  refine ⟨by rw [he _ (by omega) (by omega)]; exact h.1, fun s s0 s1 => ?_⟩
  have hn := (hs s s0 s1).1
  have hh := h.2 s s0 s1
  exact ⟨by rw [he _ (by omega) (by omega)]; exact hh.1, fun i i0 i1 => by rw [he _ (by omega) (by omega)]; exact hh.2 i i0 i1⟩
theorem MRow.to {M M' : Mm} {k : Nat} {b : Int} {N : Int → Int} {A : Int → Int → Int} {ap : Int} (h : MRow M k b N A ap) (hs : SnB N A) (hb : 0 ≤ b) (he : ∀ i : Nat, b ≤ i → (i : Int) < b + 85 → M' k i = M k i) : MRow M' k b N A ap := by
  refine ⟨by rw [he _ (by omega) (by omega)]; exact h.1, fun s s0 s1 => ?_⟩
  have hn := (hs s s0 s1).1
  have hh := h.2 s s0 s1
  exact ⟨by rw [he _ (by omega) (by omega)]; exact hh.1, fun i i0 i1 => by rw [he _ (by omega) (by omega)]; exact hh.2 i i0 i1⟩
theorem MRow.copy {M M' : Mm} {k k' : Nat} {b b' : Int} {N : Int → Int} {A : Int → Int → Int} {ap : Int} (h : MRow M k b N A ap) (hs : SnB N A) (he : ∀ i : Int, 0 ≤ i → i < 85 → M' k' (b' + i).toNat = M k (b + i).toNat) : MRow M' k' b' N A ap := by
  refine ⟨by rw [he _ (by omega) (by omega)]; exact h.1, fun s s0 s1 => ?_⟩
  have hn := (hs s s0 s1).1
  have hh := h.2 s s0 s1
  refine ⟨by rw [he _ (by omega) (by omega)]; exact hh.1, fun i i0 i1 => ?_⟩
  have := he (21 * s + 1 + i) (by omega) (by omega)
  rw [show b' + (21 * s + 1 + i) = b' + 21 * s + 1 + i by omega, show b + (21 * s + 1 + i) = b + 21 * s + 1 + i by omega] at this
  rw [this]
  exact hh.2 i i0 i1
theorem CRow.copy {M M' : Mm} {k k' : Nat} {b b' : Int} {N : Int → Int} {A : Int → Int → Int} {ap : Int} (h : CRow M k b N A ap) (hs : SnB N A) (he : ∀ i : Int, 0 ≤ i → i < 85 → M' k' (b' + i).toNat = M k (b + i).toNat) : CRow M' k' b' N A ap := by
  refine ⟨?_, fun s s0 s1 => ?_⟩
  · have := he 0 (by omega) (by omega)
    rw [Int.add_zero, Int.add_zero] at this
    rw [this]
    exact h.1
  · have hn := (hs s s0 s1).1
    have hh := h.2 s s0 s1
    refine ⟨?_, fun i i0 i1 => ?_⟩
    · have := he (1 + 21 * s) (by omega) (by omega)
      rw [show b' + (1 + 21 * s) = b' + 1 + 21 * s by omega, show b + (1 + 21 * s) = b + 1 + 21 * s by omega] at this
      rw [this]
      exact hh.1
    · have := he (2 + 21 * s + i) (by omega) (by omega)
      rw [show b' + (2 + 21 * s + i) = b' + 2 + 21 * s + i by omega, show b + (2 + 21 * s + i) = b + 2 + 21 * s + i by omega] at this
      rw [this]
      exact hh.2 i i0 i1
/-! the class stores -/
theorem c_sstore_11 {v k9 L : Nat} {n : Int} {a : Int → Int} {b : Int} (hk : alen k9 = L) (hL : L < 2147483648) (hk12 : 12 ≤ k9) (hb : 0 ≤ b ∧ b + 21 ≤ L) : ∀ (k : Nat) (i : Int) (M : Mm), Ser M v n a → (∀ x, 0 ≤ x → x < i → M k9 (b + 1 + x).toNat = zI (a x)) → 0 ≤ i → i ≤ n → n - i < k → ∃ M1, fn_Se_store_11 v k9 (zI b) k (zI i) M = some (.inl (), M1) ∧ (∀ x, 0 ≤ x → x < n → M1 k9 (b + 1 + x).toNat = zI (a x)) ∧ (∀ j, j ≠ k9 → M1 j = M j) ∧ ∀ j : Nat, (j : Int) < b + 1 ∨ b + 21 ≤ j → M1 k9 j = M k9 j := by
  intro k
  induction k with
  | zero => intros; omega
  | succ k ih =>
    intro i M h he h0 h1 h2
    have hv := h.v
    have hn := h.n
    rw [fn_Se_store_11]
    by_cases c : n ≤ i
    · refine ⟨M, ?_, fun x x0 x1 => he x x0 (by omega), fun _ _ => rfl, fun _ _ => rfl⟩
      simp (disch := omega) only [zlit, zI_add, zI_sub, zI_mul, zI_neg, zI_lt, zI_le, zI_eq, zI_cl, zI_max, zI_min, zI_abs, bnd_ok, bnd_ex, lm_eq, li_eq, grd_inb, grd_ser, grd_z, grd_lt, if_true, if_false, if_pos, if_neg, h.c]
    · obtain ⟨M1, e1, e2, e3, e4⟩ := ih (i + 1) (mset M k9 (b + 1 + i).toNat (zI (a i))) (h.to (mset_ne _ _ _ (by omega)) (mset_ne _ _ _ (by omega))) (fun x x0 x1 => by
        by_cases e : x = i
        · rw [e, mset_at]
        · rw [mset_oth _ _ _ _ (by omega)]
          exact he x x0 (by omega)) (by omega) (by omega) (by omega)
      refine ⟨M1, ?_, e2, fun j j1 => by rw [e3 j j1, mset_ne _ _ _ j1], fun j j1 => by rw [e4 j j1, mset_oth _ _ _ _ (by omega)]⟩
      have ew := fun M => wr hk hL (i := b + 1 + i) (by omega) (zI (a i)) M
      simp (disch := omega) only [zlit, zI_add, zI_sub, zI_mul, zI_neg, zI_lt, zI_le, zI_eq, zI_cl, zI_max, zI_min, zI_abs, bnd_ok, bnd_ex, lm_eq, li_eq, grd_inb, grd_ser, grd_z, grd_lt, if_true, if_false, if_pos, if_neg, h.c, h.at, ew, e1]
theorem Ser.store {M : Mm} {v : Nat} {n : Int} {a : Int → Int} (h : Ser M v n a) {k9 L : Nat} {b : Int} (hk : alen k9 = L) (hL : L < 2147483648) (hk12 : 12 ≤ k9) (hb : 0 ≤ b ∧ b + 21 ≤ L) : ∃ M1, fn_Se_store v k9 (zI b) M = some (.inl (), M1) ∧ M1 k9 b.toNat = zI n ∧ (∀ x, 0 ≤ x → x < n → M1 k9 (b + 1 + x).toNat = zI (a x)) ∧ (∀ j, j ≠ k9 → M1 j = M j) ∧ ∀ j : Nat, (j : Int) < b ∨ b + 21 ≤ j → M1 k9 j = M k9 j := by
  have hv := h.v
  have hn := h.n
  obtain ⟨M1, e1, e2, e3, e4⟩ := c_sstore_11 hk hL hk12 hb 2000 0 (mset M k9 b.toNat (zI n)) (h.to (mset_ne _ _ _ (by omega)) (mset_ne _ _ _ (by omega))) (fun x x0 x1 => by omega) (by omega) (by omega) (by omega)
  refine ⟨M1, ?_, by rw [e4 _ (by omega), mset_at], e2, fun j j1 => by rw [e3 j j1, mset_ne _ _ _ j1], fun j j1 => by rw [e4 j (by omega), mset_oth _ _ _ _ (by omega)]⟩
  have ew := fun M => wr hk hL (i := b) (by omega) (zI n) M
  unfold fn_Se_store fuel0
  rw [grd_ser hv, grd_t (show isIA k9 by show alen k9 ≠ 0; omega), h.c, ew]
  simp (disch := omega) only [zlit, zI_add, zI_sub, zI_mul, zI_neg, zI_lt, zI_le, zI_eq, zI_cl, zI_max, zI_min, zI_abs, bnd_ok, bnd_ex, lm_eq, li_eq, grd_inb, grd_ser, grd_z, grd_lt, if_true, if_false, if_pos, if_neg, e1]
theorem c_tstore_11 {k9 L : Nat} {N : Int → Int} {A : Int → Int → Int} {b : Int} (hk : alen k9 = L) (hL : L < 2147483648) (hk12 : 12 ≤ k9) (hb : 0 ≤ b ∧ b + 85 ≤ L) : ∀ (k : Nat) (i : Int) (M : Mm), Cs N A M → (∀ s, 0 ≤ s → s < i → M k9 (b + 1 + 21 * s).toNat = zI (N s) ∧ ∀ x, 0 ≤ x → x < N s → M k9 (b + 2 + 21 * s + x).toNat = zI (A s x)) → 0 ≤ i → i ≤ 4 → 4 - i < k → ∃ M1, fn_St_store_11 k9 (zI b) k (zI i) M = some (.inl (), M1) ∧ (∀ s, 0 ≤ s → s < 4 → M1 k9 (b + 1 + 21 * s).toNat = zI (N s) ∧ ∀ x, 0 ≤ x → x < N s → M1 k9 (b + 2 + 21 * s + x).toNat = zI (A s x)) ∧ (∀ j, j ≠ k9 → M1 j = M j) ∧ ∀ j : Nat, (j : Int) < b + 1 ∨ b + 85 ≤ j → M1 k9 j = M k9 j := by
  intro k
  induction k with
  | zero => intros; omega
  | succ k ih =>
    intro i M H he h0 h1 h2
    rw [fn_St_store_11]
    by_cases c : 4 ≤ i
    · refine ⟨M, ?_, fun s s0 s1 => he s s0 (by omega), fun _ _ => rfl, fun _ _ => rfl⟩
      simp (disch := omega) only [zlit, zI_add, zI_sub, zI_mul, zI_neg, zI_lt, zI_le, zI_eq, zI_cl, zI_max, zI_min, zI_abs, bnd_ok, bnd_ex, lm_eq, li_eq, grd_inb, grd_ser, grd_z, grd_lt, if_true, if_false, if_pos, if_neg]
    · have h := H i h0 (by omega)
      obtain ⟨M1, e1, e2, e3, e4, e5⟩ := h.store (b := b + 1 + i * 21) hk hL hk12 (by omega)
      obtain ⟨M2, f1, f2, f3, f4⟩ := ih (i + 1) M1 (fun s s0 s1 => (H s s0 s1).to (e4 _ (by omega)) (e4 _ (by omega))) (fun s s0 s1 => by
        by_cases e : s = i
        · rw [e, show b + 1 + 21 * i = b + 1 + i * 21 by omega]
          refine ⟨e2, fun x x0 x1 => ?_⟩
          rw [show b + 2 + 21 * i + x = b + 1 + i * 21 + 1 + x by omega]
          exact e3 x x0 x1
        · have hn := (H s s0 (by omega)).n
          have hh := he s s0 (by omega)
          refine ⟨by rw [e5 _ (by omega)]; exact hh.1, fun x x0 x1 => by rw [e5 _ (by omega)]; exact hh.2 x x0 x1⟩) (by omega) (by omega) (by omega)
      refine ⟨M2, ?_, f2, fun j j1 => by rw [f3 j j1, e4 j j1], fun j j1 => by rw [f4 j j1, e5 j (by omega)]⟩
      simp (disch := omega) only [zlit, zI_add, zI_sub, zI_mul, zI_neg, zI_lt, zI_le, zI_eq, zI_cl, zI_max, zI_min, zI_abs, bnd_ok, bnd_ex, lm_eq, li_eq, grd_inb, grd_ser, grd_z, grd_lt, if_true, if_false, if_pos, if_neg, St_at_z, e1, f1]
theorem Cs.store {M : Mm} {N : Int → Int} {A : Int → Int → Int} (H : Cs N A M) {ap : Int} (hap : M 1 5 = zI ap) {k9 L : Nat} {b : Int} (hk : alen k9 = L) (hL : L < 2147483648) (hk12 : 12 ≤ k9) (hb : 0 ≤ b ∧ b + 85 ≤ L) : ∃ M1, fn_St_store k9 (zI b) M = some (.inl (), M1) ∧ CRow M1 k9 b N A ap ∧ (∀ j, j ≠ k9 → M1 j = M j) ∧ ∀ j : Nat, (j : Int) < b ∨ b + 85 ≤ j → M1 k9 j = M k9 j := by
  obtain ⟨M1, e1, e2, e3, e4⟩ := c_tstore_11 (N := N) (A := A) hk hL hk12 hb 2000 0 (mset M k9 b.toNat (zI ap)) (fun s s0 s1 => (H s s0 s1).to (mset_ne _ _ _ (by omega)) (mset_ne _ _ _ (by omega))) (fun s s0 s1 => by omega) (by omega) (by omega) (by omega)
  refine ⟨M1, ?_, ⟨by rw [e4 _ (by omega), mset_at], e2⟩, fun j j1 => by rw [e3 j j1, mset_ne _ _ _ j1], fun j j1 => by rw [e4 j (by omega), mset_oth _ _ _ _ (by omega)]⟩
  have ew := fun M => wr hk hL (i := b) (by omega) (zI ap) M
  unfold fn_St_store fuel0
  rw [grd_t (show isIA k9 by show alen k9 ≠ 0; omega), hap, ew]
  simp (disch := omega) only [zlit, zI_add, zI_sub, zI_mul, zI_neg, zI_lt, zI_le, zI_eq, zI_cl, zI_max, zI_min, zI_abs, bnd_ok, bnd_ex, lm_eq, li_eq, grd_inb, grd_ser, grd_z, grd_lt, if_true, if_false, if_pos, if_neg, e1]
/-! the class loads -/
theorem c_sload_11 {v k9 L : Nat} {n : Int} {a : Int → Int} {b : Int} (hv : 2 ≤ v ∧ v ≤ 6) (hk : alen k9 = L) (hL : L < 2147483648) (hk12 : 12 ≤ k9) (hb : 0 ≤ b ∧ b + 21 ≤ L) (hn : 0 ≤ n ∧ n ≤ 20) (ha : ∀ i, -99 ≤ a i ∧ a i ≤ 99) : ∀ (k : Nat) (i : Int) (M : Mm), M v 1 = zI n → (∀ x, 0 ≤ x → x < n → M k9 (b + 1 + x).toNat = zI (a x)) → (∀ x, 0 ≤ x → x < i → M (v + 5) x.toNat = zI (a x)) → 0 ≤ i → i ≤ n → n - i < k → ∃ M1, fn_Se_load_11 v k9 (zI b) k (zI i) M = some (.inl (), M1) ∧ Ser M1 v n a ∧ FvS v M M1 := by
  intro k
  induction k with
  | zero => intros; omega
  | succ k ih =>
    intro i M hc hr he h0 h1 h2
    rw [fn_Se_load_11]
    by_cases c : n ≤ i
    · refine ⟨M, ?_, ⟨hv, hn, hc, fun x x0 x1 => he x x0 (by omega), ha⟩, FvS.rf v M⟩
      simp (disch := omega) only [zlit, zI_add, zI_sub, zI_mul, zI_neg, zI_lt, zI_le, zI_eq, zI_cl, zI_max, zI_min, zI_abs, bnd_ok, bnd_ex, lm_eq, li_eq, grd_inb, grd_ser, grd_z, grd_lt, if_true, if_false, if_pos, if_neg, hc]
    · obtain ⟨M1, e1, e2, e3⟩ := ih (i + 1) (mset M (v + 5) i.toNat (zI (a i))) (by rw [mset_ne _ _ _ (by omega)]; exact hc) (fun x x0 x1 => by rw [mset_ne _ _ _ (by omega)]; exact hr x x0 x1) (fun x x0 x1 => by
        by_cases e : x = i
        · rw [e, mset_at]
        · rw [mset_oth _ _ _ _ (by omega)]
          exact he x x0 (by omega)) (by omega) (by omega) (by omega)
      refine ⟨M1, ?_, e2, (FvS.put v M _ _).tr e3⟩
      have er := rd hk hL (i := b + 1 + i) (by omega) M
      rw [hr i h0 (by omega)] at er
      simp (disch := omega) only [zlit, zI_add, zI_sub, zI_mul, zI_neg, zI_lt, zI_le, zI_eq, zI_cl, zI_max, zI_min, zI_abs, bnd_ok, bnd_ex, lm_eq, li_eq, grd_inb, grd_ser, grd_z, grd_lt, if_true, if_false, if_pos, if_neg, hc, er, ser_put hv, e1]
theorem c_sload {M : Mm} {v k9 L : Nat} {n : Int} {a : Int → Int} {b : Int} (hv : 2 ≤ v ∧ v ≤ 6) (hk : alen k9 = L) (hL : L < 2147483648) (hk12 : 12 ≤ k9) (hb : 0 ≤ b ∧ b + 21 ≤ L) (hn : 0 ≤ n ∧ n ≤ 20) (ha : ∀ i, -99 ≤ a i ∧ a i ≤ 99) (hc : M k9 b.toNat = zI n) (hr : ∀ x, 0 ≤ x → x < n → M k9 (b + 1 + x).toNat = zI (a x)) : ∃ M1, fn_Se_load v k9 (zI b) M = some (.inl (), M1) ∧ Ser M1 v n a ∧ FvS v M M1 := by
  obtain ⟨M1, e1, e2, e3⟩ := c_sload_11 hv hk hL hk12 hb hn ha 2000 0 (mset M v 1 (zI n)) (mset_at _ _ _ _) (fun x x0 x1 => by rw [mset_ne _ _ _ (by omega)]; exact hr x x0 x1) (fun x x0 x1 => by omega) (by omega) (by omega) (by omega)
  refine ⟨M1, ?_, e2, (FvS.cnt v M _ _).tr e3⟩
  have er := rd hk hL (i := b) (by omega) M
  rw [hc] at er
  unfold fn_Se_load fuel0
  rw [grd_ser hv, grd_t (show isIA k9 by show alen k9 ≠ 0; omega), er]
  simp (disch := omega) only [zlit, zI_add, zI_sub, zI_mul, zI_neg, zI_lt, zI_le, zI_eq, zI_cl, zI_max, zI_min, zI_abs, bnd_ok, bnd_ex, lm_eq, li_eq, grd_inb, grd_ser, grd_z, grd_lt, if_true, if_false, if_pos, if_neg, e1]
theorem c_tload_11 {k9 L : Nat} {N : Int → Int} {A : Int → Int → Int} {ap b : Int} (hk : alen k9 = L) (hL : L < 2147483648) (hk12 : 12 ≤ k9) (hb : 0 ≤ b ∧ b + 85 ≤ L) (hs : SnB N A) : ∀ (k : Nat) (i : Int) (M : Mm), CRow M k9 b N A ap → (∀ s, 0 ≤ s → s < i → Ser M (s.toNat + 2) (N s) (A s)) → 0 ≤ i → i ≤ 4 → 4 - i < k → ∃ M1, fn_St_load_11 k9 (zI b) k (zI i) M = some (.inl (), M1) ∧ Cs N A M1 ∧ ∀ j, j ≤ 1 ∨ 12 ≤ j → M1 j = M j := by
  intro k
  induction k with
  | zero => intros; omega
  | succ k ih =>
    intro i M hc he h0 h1 h2
    rw [fn_St_load_11]
    by_cases c : 4 ≤ i
    · refine ⟨M, ?_, fun s s0 s1 => he s s0 (by omega), fun _ _ => rfl⟩
      simp (disch := omega) only [zlit, zI_add, zI_sub, zI_mul, zI_neg, zI_lt, zI_le, zI_eq, zI_cl, zI_max, zI_min, zI_abs, bnd_ok, bnd_ex, lm_eq, li_eq, grd_inb, grd_ser, grd_z, grd_lt, if_true, if_false, if_pos, if_neg]
    · have hh := hc.2 i h0 (by omega)
      have hsi := hs i h0 (by omega)
      obtain ⟨M1, e1, e2, e3⟩ := c_sload (M := M) (v := i.toNat + 2) (b := b + 1 + i * 21) (n := N i) (a := A i) (by omega) hk hL hk12 (by omega) hsi.1 hsi.2 (by rw [show b + 1 + i * 21 = b + 1 + 21 * i by omega]; exact hh.1) (fun x x0 x1 => by rw [show b + 1 + i * 21 + 1 + x = b + 2 + 21 * i + x by omega]; exact hh.2 x x0 x1)
      obtain ⟨M2, f1, f2, f3⟩ := ih (i + 1) M1 (hc.to hs hb.1 (fun j _ _ => by rw [e3 k9 (by omega) (by omega)])) (fun s s0 s1 => by
        by_cases e : s = i
        · rw [e]
          exact e2
        · exact (he s s0 (by omega)).to (e3 _ (by omega) (by omega)) (e3 _ (by omega) (by omega))) (by omega) (by omega) (by omega)
      refine ⟨M2, ?_, f2, fun j j1 => by rw [f3 j j1, e3 j (by omega) (by omega)]⟩
      simp (disch := omega) only [zlit, zI_add, zI_sub, zI_mul, zI_neg, zI_lt, zI_le, zI_eq, zI_cl, zI_max, zI_min, zI_abs, bnd_ok, bnd_ex, lm_eq, li_eq, grd_inb, grd_ser, grd_z, grd_lt, if_true, if_false, if_pos, if_neg, St_at_z, e1, f1]
theorem CRow.load {M : Mm} {k9 L : Nat} {N : Int → Int} {A : Int → Int → Int} {ap b : Int} (h : CRow M k9 b N A ap) (hs : SnB N A) (hk : alen k9 = L) (hL : L < 2147483648) (hk12 : 12 ≤ k9) (hb : 0 ≤ b ∧ b + 85 ≤ L) : ∃ M1, fn_St_load k9 (zI b) M = some (.inl (), M1) ∧ Cs N A M1 ∧ M1 1 5 = zI ap ∧ ∀ j, j = 0 ∨ 12 ≤ j → M1 j = M j := by
  obtain ⟨M1, e1, e2, e3⟩ := c_tload_11 (ap := ap) hk hL hk12 hb hs 2000 0 (mset M 1 5 (zI ap)) (h.to hs hb.1 (fun j _ _ => by rw [mset_ne _ _ _ (by omega)])) (fun s s0 s1 => by omega) (by omega) (by omega) (by omega)
  refine ⟨M1, ?_, e2, by rw [e3 1 (by omega), mset_at], fun j j1 => by rw [e3 j (by omega), mset_ne _ _ _ (by omega)]⟩
  have er := rd hk hL (i := b) (by omega) M
  rw [h.1] at er
  unfold fn_St_load fuel0
  rw [grd_t (show isIA k9 by show alen k9 ≠ 0; omega), er]
  simp (disch := omega) only [zlit, zI_add, zI_sub, zI_mul, zI_neg, zI_lt, zI_le, zI_eq, zI_cl, zI_max, zI_min, zI_abs, bnd_ok, bnd_ex, lm_eq, li_eq, grd_inb, grd_ser, grd_z, grd_lt, if_true, if_false, if_pos, if_neg, e1]
/-! the model copies -/
theorem m_copy_3 {k1 k2 L1 L2 : Nat} {b1 b2 : Int} {M0 : Mm} (hL1 : alen k1 = L1) (hL2 : alen k2 = L2) (h1 : 0 ≤ b1 ∧ b1 + 85 ≤ L1 ∧ L1 < 1000000) (h2 : 0 ≤ b2 ∧ b2 + 85 ≤ L2 ∧ L2 < 1000000) (hd : k1 ≠ k2 ∨ b1 + 85 ≤ b2 ∨ b2 + 85 ≤ b1) : ∀ (k : Nat) (i : Int) (M : Mm), (∀ x, 0 ≤ x → x < i → M k2 (b2 + x).toNat = M0 k1 (b1 + x).toNat) → (∀ j : Nat, (j : Int) < b2 ∨ b2 + 85 ≤ j → M k2 j = M0 k2 j) → (∀ j, j ≠ k2 → M j = M0 j) → 0 ≤ i → i ≤ 85 → 85 - i < k → ∃ M1, fn_Mo_copyAll_3 k1 (zI b1) k2 (zI b2) k (zI i) M = some (.inl (), M1) ∧ (∀ x, 0 ≤ x → x < 85 → M1 k2 (b2 + x).toNat = M0 k1 (b1 + x).toNat) ∧ (∀ j : Nat, (j : Int) < b2 ∨ b2 + 85 ≤ j → M1 k2 j = M0 k2 j) ∧ ∀ j, j ≠ k2 → M1 j = M0 j := by
  intro k
  induction k with
  | zero => intros; omega
  | succ k ih =>
    intro i M he hf hg i0 i1 i2
    rw [fn_Mo_copyAll_3]
    by_cases c : 85 ≤ i
    · refine ⟨M, ?_, fun x x0 x1 => he x x0 (by omega), hf, hg⟩
      simp (disch := omega) only [zlit, zI_add, zI_sub, zI_mul, zI_neg, zI_lt, zI_le, zI_eq, zI_cl, zI_max, zI_min, zI_abs, bnd_ok, bnd_ex, lm_eq, li_eq, grd_inb, grd_ser, grd_z, grd_lt, if_true, if_false, if_pos, if_neg]
    · have ev : M k1 (b1 + i).toNat = M0 k1 (b1 + i).toNat := by
        by_cases e : k1 = k2
        · rw [e]
          exact hf _ (by omega)
        · rw [hg k1 e]
      obtain ⟨M1, e1, e2⟩ := ih (i + 1) (mset M k2 (b2 + i).toNat (M k1 (b1 + i).toNat)) (fun x x0 x1 => by
        by_cases e : x = i
        · rw [e, mset_at, ev]
        · rw [mset_oth _ _ _ _ (by omega)]
          exact he x x0 (by omega)) (fun j hj => by rw [mset_oth _ _ _ _ (by omega)]; exact hf j hj) (fun j hj => by rw [mset_ne _ _ _ hj]; exact hg j hj) (by omega) (by omega) (by omega)
      refine ⟨M1, ?_, e2⟩
      rw [hL1, hL2]
      simp (disch := omega) only [zlit, zI_add, zI_sub, zI_mul, zI_neg, zI_lt, zI_le, zI_eq, zI_cl, zI_max, zI_min, zI_abs, bnd_ok, bnd_ex, lm_eq, li_eq, grd_inb, grd_ser, grd_z, grd_lt, if_true, if_false, if_pos, if_neg, e1]
theorem m_copy {k1 k2 L1 L2 : Nat} {b1 b2 : Int} (M : Mm) (hL1 : alen k1 = L1) (hL2 : alen k2 = L2) (h1 : 0 ≤ b1 ∧ b1 + 85 ≤ L1 ∧ L1 < 1000000) (h2 : 0 ≤ b2 ∧ b2 + 85 ≤ L2 ∧ L2 < 1000000) (hd : k1 ≠ k2 ∨ b1 + 85 ≤ b2 ∨ b2 + 85 ≤ b1) : ∃ M1, fn_Mo_copyAll k1 (zI b1) k2 (zI b2) M = some (.inl (), M1) ∧ (∀ x, 0 ≤ x → x < 85 → M1 k2 (b2 + x).toNat = M k1 (b1 + x).toNat) ∧ (∀ j : Nat, (j : Int) < b2 ∨ b2 + 85 ≤ j → M1 k2 j = M k2 j) ∧ ∀ j, j ≠ k2 → M1 j = M j := by
  obtain ⟨M1, e1, e2⟩ := m_copy_3 (M0 := M) hL1 hL2 h1 h2 hd 2000 0 M (fun x x0 x1 => by omega) (fun _ _ => rfl) (fun _ _ => rfl) (by omega) (by omega) (by omega)
  refine ⟨M1, ?_, e2⟩
  unfold fn_Mo_copyAll fuel0
  rw [grd_t (show isIA k1 by show alen k1 ≠ 0; omega), grd_t (show isIA k2 by show alen k2 ≠ 0; omega)]
  simp (disch := omega) only [zlit, zI_add, zI_sub, zI_mul, zI_neg, zI_lt, zI_le, zI_eq, zI_cl, zI_max, zI_min, zI_abs, bnd_ok, bnd_ex, lm_eq, li_eq, grd_inb, grd_ser, grd_z, grd_lt, if_true, if_false, if_pos, if_neg, e1]
