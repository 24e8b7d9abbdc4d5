/-! DISTANCES: the cost of the walks through two series -/
theorem S1_get {M : Mm} {k : Nat} {g : Int → Int} {i : Int} (hi : 0 ≤ i) : S1 M k g k i.toNat = zI (g i) := by
  rw [S1_at, Wr_at hi]
theorem S1_set {M : Mm} {k : Nat} {g : Int → Int} {i x : Int} (hi : 0 ≤ i) : mset (S1 M k g) k i.toNat (zI x) = S1 M k (upI g i x) := by
  rw [mset_row, S1_at, Wr_upd hi]
  unfold S1
  rw [mrow_mrow]
theorem Mse.s1 {M : Mm} {s n : Int} {a : Int → Int} (h : Mse M s n a) (k : Nat) (hk : k ≠ 33) (g : Int → Int) : Mse (S1 M k g) s n a := h.row hk _
def gpF (a b : Int → Int) (i j : Int) : Int := if 0 ≤ a i - b j then a i - b j else -(a i - b j)
def dN0 (a b : Int → Int) : Nat → Int
  | 0 => gpF a b 0 0
  | o + 1 => dN0 a b o + gpF a b 0 ((o + 1 : Nat) : Int)
def dNk (a b : Int → Int) (k : Nat) (prev : Nat → Int) : Nat → Int
  | 0 => prev 0 + gpF a b k 0
  | o + 1 => min (min (prev (o + 1)) (dNk a b k prev o)) (prev o) + gpF a b k ((o + 1 : Nat) : Int)
def dNN (a b : Int → Int) : Nat → Nat → Int
  | 0 => dN0 a b
  | k + 1 => dNk a b (k + 1) (dNN a b k)
def dF (a b : Int → Int) (i j : Int) : Int := dNN a b i.toNat j.toNat
theorem dF_00 (a b : Int → Int) : dF a b 0 0 = gpF a b 0 0 := rfl
theorem dF_0j (a b : Int → Int) {j : Int} (hj : 0 < j) : dF a b 0 j = dF a b 0 (j - 1) + gpF a b 0 j := by
  unfold dF
  rw [show j.toNat = (j - 1).toNat + 1 by omega]
  show dN0 a b ((j - 1).toNat + 1) = dN0 a b (j - 1).toNat + _
  rw [show gpF a b 0 j = gpF a b 0 (((j - 1).toNat + 1 : Nat) : Int) by rw [show (((j - 1).toNat + 1 : Nat) : Int) = j by omega]]
  rfl
theorem dF_i0 (a b : Int → Int) {i : Int} (hi : 0 < i) : dF a b i 0 = dF a b (i - 1) 0 + gpF a b i 0 := by
  unfold dF
  rw [show i.toNat = (i - 1).toNat + 1 by omega]
  rw [show gpF a b i 0 = gpF a b (((i - 1).toNat + 1 : Nat) : Int) 0 by rw [show (((i - 1).toNat + 1 : Nat) : Int) = i by omega]]
  rfl
theorem dF_ij (a b : Int → Int) {i j : Int} (hi : 0 < i) (hj : 0 < j) : dF a b i j = min (min (dF a b (i - 1) j) (dF a b i (j - 1))) (dF a b (i - 1) (j - 1)) + gpF a b i j := by
  unfold dF
  rw [show i.toNat = (i - 1).toNat + 1 by omega, show j.toNat = (j - 1).toNat + 1 by omega]
  rw [show gpF a b i j = gpF a b (((i - 1).toNat + 1 : Nat) : Int) (((j - 1).toNat + 1 : Nat) : Int) by rw [show (((i - 1).toNat + 1 : Nat) : Int) = i by omega, show (((j - 1).toNat + 1 : Nat) : Int) = j by omega]]
  rfl
theorem gpF_b {a b : Int → Int} (ha : ∀ i, -99 ≤ a i ∧ a i ≤ 99) (hb : ∀ i, -99 ≤ b i ∧ b i ≤ 99) (i j : Int) : 0 ≤ gpF a b i j ∧ gpF a b i j ≤ 198 := by
  have := ha i
  have := hb j
  unfold gpF
  by_cases c : 0 ≤ a i - b j
  · rw [if_pos c]; omega
  · rw [if_neg c]; omega
theorem dF_b {a b : Int → Int} (ha : ∀ i, -99 ≤ a i ∧ a i ≤ 99) (hb : ∀ i, -99 ≤ b i ∧ b i ≤ 99) : ∀ (s : Nat) (i j : Int), 0 ≤ i → 0 ≤ j → i + j < s → 0 ≤ dF a b i j ∧ dF a b i j ≤ 198 * (i + j + 1) := by
  intro s
  induction s with
  | zero => intros; omega
  | succ s ih =>
    intro i j hi hj hs
    have g := gpF_b ha hb i j
    by_cases c : i = 0
    · by_cases c2 : j = 0
      · rw [c, c2, dF_00]
        rw [c, c2] at g
        omega
      · have := ih i (j - 1) hi (by omega) (by omega)
        rw [c, dF_0j a b (by omega)]
        rw [c] at g this
        omega
    · by_cases c2 : j = 0
      · have := ih (i - 1) j (by omega) hj (by omega)
        rw [c2, dF_i0 a b (by omega)]
        rw [c2] at g this
        omega
      · have := ih (i - 1) j (by omega) hj (by omega)
        have := ih i (j - 1) hi (by omega) (by omega)
        have := ih (i - 1) (j - 1) (by omega) (by omega) (by omega)
        rw [dF_ij a b (i := i) (j := j) (by omega) (by omega)]
        omega
/-! the class's table -/
theorem rd31 {M : Mm} {g : Int → Int} {i : Int} (hi : 0 ≤ i ∧ i < 400) : fn_SA_read 31 (zI i) (S1 M 31 g) = some (.inl (zI (g i)), S1 M 31 g) := S1_rd (L := 400) (by decide) (by decide) hi
theorem wr31 {M : Mm} {g : Int → Int} {i x : Int} (hi : 0 ≤ i ∧ i < 400) : fn_SA_write 31 (zI i) (zI x) (S1 M 31 g) = some (.inl (), S1 M 31 (upI g i x)) := S1_wr (L := 400) (by decide) (by decide) hi
theorem c_gap {M : Mm} {v w : Nat} {n m : Int} {a b : Int → Int} (h : Ser M v n a) (h' : Ser M w m b) {i j : Int} (hi : 0 ≤ i ∧ i < n) (hj : 0 ≤ j ∧ j < m) : fn_Wa_gap v w (zI i) (zI j) M = some (.inl (zI (gpF a b i j)), M) := by
  have hv := h.v
  have hw := h'.v
  have b1 := h.b i
  have b2 := h'.b j
  unfold fn_Wa_gap gpF
  simp (disch := omega) only [zlit, zI_add, zI_sub, zI_mul, zI_neg, zI_lt, zI_le, zI_eq, zI_cl, zI_max, zI_min, zI_abs, bnd_ok, bnd_ex, lm_eq, li_eq, grd_inb, grd_ser, grd_z, grd_lt, if_true, if_false, if_pos, if_neg, h.at, h'.at]
theorem c_before {M : Mm} {a b : Int → Int} {g : Int → Int} {i j : Int} (hi : 0 ≤ i ∧ i < 20) (hj : 0 ≤ j ∧ j < 20) (h1 : 0 < i → g ((i - 1) * 20 + j) = dF a b (i - 1) j ∧ -1000000 ≤ dF a b (i - 1) j ∧ dF a b (i - 1) j ≤ 1000000) (h2 : 0 < j → g (i * 20 + (j - 1)) = dF a b i (j - 1) ∧ -1000000 ≤ dF a b i (j - 1) ∧ dF a b i (j - 1) ≤ 1000000) (h3 : 0 < i → 0 < j → g ((i - 1) * 20 + (j - 1)) = dF a b (i - 1) (j - 1) ∧ -1000000 ≤ dF a b (i - 1) (j - 1) ∧ dF a b (i - 1) (j - 1) ≤ 1000000) : ∃ r, fn_Wa_costBefore (zI i) (zI j) (S1 M 31 g) = some (.inl (zI r), S1 M 31 g) ∧ gpF a b i j + r = dF a b i j := by
  unfold fn_Wa_costBefore
  by_cases c : i = 0
  · by_cases c2 : j = 0
    · refine ⟨0, ?_, by rw [c, c2, dF_00]; omega⟩
      simp (disch := omega) only [zlit, zI_add, zI_sub, zI_mul, zI_neg, zI_lt, zI_le, zI_eq, zI_cl, zI_max, zI_min, zI_abs, bnd_ok, bnd_ex, lm_eq, li_eq, grd_inb, grd_ser, grd_z, grd_lt, if_true, if_false, if_pos, if_neg]
    · have e2 := h2 (by omega)
      refine ⟨dF a b i (j - 1), ?_, ?_⟩
      · simp (disch := omega) only [zlit, zI_add, zI_sub, zI_mul, zI_neg, zI_lt, zI_le, zI_eq, zI_cl, zI_max, zI_min, zI_abs, bnd_ok, bnd_ex, lm_eq, li_eq, grd_inb, grd_ser, grd_z, grd_lt, if_true, if_false, if_pos, if_neg, fn_Wa_costBefore_10, fn_Wa_costBefore_33, fn_Wa_costBefore_58, fn_Wa_costBefore_90, fn_Wa_costBefore_92, fn_Wa_place, rd31, e2.1]
        rw [show min (min 1000000 (dF a b i (j - 1))) 1000000 = dF a b i (j - 1) by omega]
      · rw [c, dF_0j a b (j := j) (by omega)]
        omega
  · have e1 := h1 (by omega)
    by_cases c2 : j = 0
    · refine ⟨dF a b (i - 1) j, ?_, ?_⟩
      · simp (disch := omega) only [zlit, zI_add, zI_sub, zI_mul, zI_neg, zI_lt, zI_le, zI_eq, zI_cl, zI_max, zI_min, zI_abs, bnd_ok, bnd_ex, lm_eq, li_eq, grd_inb, grd_ser, grd_z, grd_lt, if_true, if_false, if_pos, if_neg, fn_Wa_costBefore_10, fn_Wa_costBefore_33, fn_Wa_costBefore_58, fn_Wa_costBefore_90, fn_Wa_costBefore_92, fn_Wa_place, rd31, e1.1]
        rw [show min (min (dF a b (i - 1) j) 1000000) 1000000 = dF a b (i - 1) j by omega]
      · rw [c2, dF_i0 a b (i := i) (by omega)]
        omega
    · have e2 := h2 (by omega)
      have e3 := h3 (by omega) (by omega)
      refine ⟨min (min (dF a b (i - 1) j) (dF a b i (j - 1))) (dF a b (i - 1) (j - 1)), ?_, ?_⟩
      · simp (disch := omega) only [zlit, zI_add, zI_sub, zI_mul, zI_neg, zI_lt, zI_le, zI_eq, zI_cl, zI_max, zI_min, zI_abs, bnd_ok, bnd_ex, lm_eq, li_eq, grd_inb, grd_ser, grd_z, grd_lt, if_true, if_false, if_pos, if_neg, fn_Wa_costBefore_10, fn_Wa_costBefore_33, fn_Wa_costBefore_58, fn_Wa_costBefore_90, fn_Wa_costBefore_92, fn_Wa_place, rd31, e1.1, e2.1, e3.1]
      · rw [dF_ij a b (i := i) (j := j) (by omega) (by omega)]
        omega
theorem c_table_13 {M : Mm} {v w : Nat} {n m : Int} {a b : Int → Int} (h : Ser M v n a) (h' : Ser M w m b) (k2 : Int32 → Mm → Rs Int32) {i : Int} (hi : 0 ≤ i ∧ i < n) : ∀ (k : Nat) (j : Int) (g : Int → Int), (∀ x y, 0 ≤ x → 0 ≤ y → y < m → (x < i ∨ (x = i ∧ y < j)) → g (x * 20 + y) = dF a b x y) → 0 ≤ j → j ≤ m → m - j < k → ∃ g2, (∀ x y, 0 ≤ x → 0 ≤ y → y < m → x < i + 1 → g2 (x * 20 + y) = dF a b x y) ∧ fn_Wa_costByTable_13 k2 v w (zI i) k (zI j) (S1 M 31 g) = k2 (zI (i + 1)) (S1 M 31 g2) := by
  have hv := h.v
  have hn := h.n
  have hw := h'.v
  have hm := h'.n
  intro k
  induction k with
  | zero => intros; omega
  | succ k ih =>
    intro j g hg h0 h1 h2
    have hse := h.s1 31 (by omega) g
    have hse' := h'.s1 31 (by omega) g
    rw [fn_Wa_costByTable_13]
    by_cases c : m ≤ j
    · refine ⟨g, fun x y x1 y1 y2 x2 => hg x y x1 y1 y2 (by omega), ?_⟩
      simp (disch := omega) only [zlit, zI_add, zI_sub, zI_mul, zI_neg, zI_lt, zI_le, zI_eq, zI_cl, zI_max, zI_min, zI_abs, bnd_ok, bnd_ex, lm_eq, li_eq, grd_inb, grd_ser, grd_z, grd_lt, if_true, if_false, if_pos, if_neg, hse'.size, fn_Wa_costByTable_57]
    · have hb := dF_b h.b h'.b 50
      obtain ⟨r, e1, e2⟩ := c_before (M := M) (a := a) (b := b) (g := g) (i := i) (j := j) (by omega) (by omega) (fun z => ⟨hg (i - 1) j (by omega) h0 (by omega) (by omega), by have := hb (i - 1) j (by omega) h0 (by omega); omega⟩) (fun z => ⟨hg i (j - 1) hi.1 (by omega) (by omega) (by omega), by have := hb i (j - 1) (by omega) (by omega) (by omega); omega⟩) (fun z z2 => ⟨hg (i - 1) (j - 1) (by omega) (by omega) (by omega) (by omega), by have := hb (i - 1) (j - 1) (by omega) (by omega) (by omega); omega⟩)
      obtain ⟨g2, e3, e4⟩ := ih (j + 1) (upI g (i * 20 + j) (gpF a b i j + r)) (fun x y x1 y1 y2 x2 => by
        by_cases c2 : x = i ∧ y = j
        · rw [c2.1, c2.2, upI_eq, e2]
        · rw [upI_ne _ _ (by omega)]
          exact hg x y x1 y1 y2 (by omega)) (by omega) (by omega) (by omega)
      refine ⟨g2, e3, ?_⟩
      simp (disch := omega) only [zlit, zI_add, zI_sub, zI_mul, zI_neg, zI_lt, zI_le, zI_eq, zI_cl, zI_max, zI_min, zI_abs, bnd_ok, bnd_ex, lm_eq, li_eq, grd_inb, grd_ser, grd_z, grd_lt, if_true, if_false, if_pos, if_neg, hse'.size, fn_Wa_place, c_gap hse hse', e1, wr31, e4]
theorem c_table_2 {M : Mm} {v w : Nat} {n m : Int} {a b : Int → Int} (h : Ser M v n a) (h' : Ser M w m b) (hn0 : 0 < n) (hm0 : 0 < m) : ∀ (k : Nat) (i : Int) (g : Int → Int), (∀ x y, 0 ≤ x → 0 ≤ y → y < m → x < i → g (x * 20 + y) = dF a b x y) → 0 ≤ i → i ≤ n → n - i < k → ∃ g2, fn_Wa_costByTable_2 v w k (zI i) (S1 M 31 g) = some (.inl (zI (dF a b (n - 1) (m - 1))), S1 M 31 g2) := by
  have hv := h.v
  have hn := h.n
  have hw := h'.v
  have hm := h'.n
  intro k
  induction k with
  | zero => intros; omega
  | succ k ih =>
    intro i g hg h0 h1 h2
    have hse := h.s1 31 (by omega) g
    have hse' := h'.s1 31 (by omega) g
    rw [fn_Wa_costByTable_2]
    by_cases c : n ≤ i
    · refine ⟨g, ?_⟩
      simp (disch := omega) only [zlit, zI_add, zI_sub, zI_mul, zI_neg, zI_lt, zI_le, zI_eq, zI_cl, zI_max, zI_min, zI_abs, bnd_ok, bnd_ex, lm_eq, li_eq, grd_inb, grd_ser, grd_z, grd_lt, if_true, if_false, if_pos, if_neg, hse.size, fn_Wa_costByTable_63, hse'.size, fn_Wa_place, rd31]
      rw [hg (n - 1) (m - 1) (by omega) (by omega) (by omega) (by omega)]
    · obtain ⟨g1, e1, e2⟩ := c_table_13 h h' (fn_Wa_costByTable_2 v w k) (i := i) ⟨h0, by omega⟩ 2000 0 g (fun x y x1 y1 y2 x2 => hg x y x1 y1 y2 (by omega)) (by omega) (by omega) (by omega)
      obtain ⟨g2, e3⟩ := ih (i + 1) g1 e1 (by omega) (by omega) (by omega)
      refine ⟨g2, ?_⟩
      unfold fuel0
      simp (disch := omega) only [zlit, zI_add, zI_sub, zI_mul, zI_neg, zI_lt, zI_le, zI_eq, zI_cl, zI_max, zI_min, zI_abs, bnd_ok, bnd_ex, lm_eq, li_eq, grd_inb, grd_ser, grd_z, grd_lt, if_true, if_false, if_pos, if_neg, hse.size, e2, e3]
theorem Ser.table {M : Mm} {v w : Nat} {n m : Int} {a b : Int → Int} (h : Ser M v n a) (h' : Ser M w m b) (hn0 : 0 < n) (hm0 : 0 < m) : ∃ M1, fn_Wa_costByTable v w M = some (.inl (zI (dF a b (n - 1) (m - 1))), M1) ∧ Off M M1 := by
  have hv := h.v
  have hn := h.n
  have hw := h'.v
  have hm := h'.n
  obtain ⟨g2, e1⟩ := c_table_2 h h' hn0 hm0 2000 0 (fun i => (M 31 i.toNat).toInt) (fun x y x1 y1 y2 x2 => by omega) (by omega) (by omega) (by omega)
  rw [S1_self] at e1
  refine ⟨S1 M 31 g2, ?_, Off.sc M 31 _ (by omega)⟩
  unfold fn_Wa_costByTable fuel0
  simp (disch := omega) only [zlit, zI_add, zI_sub, zI_mul, zI_neg, zI_lt, zI_le, zI_eq, zI_cl, zI_max, zI_min, zI_abs, bnd_ok, bnd_ex, lm_eq, li_eq, grd_inb, grd_ser, grd_z, grd_lt, if_true, if_false, if_pos, if_neg, e1]
/-! the model's row -/
theorem m_walk_69 {M : Mm} {v w n m : Int} {a b : Int → Int} (h : Mse M v n a) (h' : Mse M w m b) (k54 : Int32 → Mm → Rs Int32) {i : Int} (hi : 0 ≤ i ∧ i < n) : ∀ (k : Nat) (s j : Int) (g : Int → Int), (∀ y, 0 ≤ y → y < j → g y = dF a b i y) → (0 < i → ∀ y, j ≤ y → y < m → g y = dF a b (i - 1) y) → (0 < i → 0 < j → s = dF a b (i - 1) (j - 1)) → 0 ≤ j → j ≤ m → m - j < k → ∃ g2, (∀ y, 0 ≤ y → y < m → g2 y = dF a b i y) ∧ fn_Mo_walk_69 k54 (zI v) (zI w) (zI i) k (zI s) (zI j) (S1 M 38 g) = k54 (zI (i + 1)) (S1 M 38 g2) := by
  have hv := h.s
  have hn := h.n
  have hw := h'.s
  have hm := h'.n
  intro k
  induction k with
  | zero => intros; omega
  | succ k ih =>
    intro s j g hg hp hs h0 h1 h2
    have hse := h.s1 38 (by omega) g
    have hse' := h'.s1 38 (by omega) g
    rw [fn_Mo_walk_69]
    by_cases c : m ≤ j
    · refine ⟨g, fun y y1 y2 => hg y y1 (by omega), ?_⟩
      simp (disch := omega) only [zlit, zI_add, zI_sub, zI_mul, zI_neg, zI_lt, zI_le, zI_eq, zI_cl, zI_max, zI_min, zI_abs, bnd_ok, bnd_ex, lm_eq, li_eq, grd_inb, grd_ser, grd_z, grd_lt, if_true, if_false, if_pos, if_neg, hse'.many, fn_Mo_walk_190]
    · have hb := dF_b h.b h'.b 50
      have b1 := h.b i
      have b2 := h'.b j
      have gg : zI (if 0 ≤ a i - b j then a i - b j else -(a i - b j)) = zI (gpF a b i j) := rfl
      -- what the last piece does, with the best that lies behind
      have fin : ∀ r, r + gpF a b i j = dF a b i j → ∃ g2, (∀ y, 0 ≤ y → y < m → g2 y = dF a b i y) ∧ fn_Mo_walk_148 k54 (fn_Mo_walk_69 k54 (zI v) (zI w) (zI i) k) (zI v) (zI w) (zI i) (zI j) (zI r) (S1 M 38 g) = k54 (zI (i + 1)) (S1 M 38 g2) := by
        intro r hr
        obtain ⟨g2, e3, e4⟩ := ih (g j) (j + 1) (upI g j (r + gpF a b i j)) (fun y y1 y2 => by
          by_cases c2 : y = j
          · rw [c2, upI_eq, hr]
          · rw [upI_ne _ _ c2]
            exact hg y y1 (by omega)) (fun z y y1 y2 => by
          rw [upI_ne _ _ (by omega)]
          exact hp z y (by omega) y2) (fun z z2 => by
          rw [show j + 1 - 1 = j by omega]
          exact hp z j (by omega) (by omega)) (by omega) (by omega) (by omega)
        refine ⟨g2, e3, ?_⟩
        unfold fn_Mo_walk_148
        simp (disch := omega) only [zlit, zI_add, zI_sub, zI_mul, zI_neg, zI_lt, zI_le, zI_eq, zI_cl, zI_max, zI_min, zI_abs, bnd_ok, bnd_ex, lm_eq, li_eq, grd_inb, grd_ser, grd_z, grd_lt, if_true, if_false, if_pos, if_neg, S1_get, hse.at, hse'.at, mo_size, gg, S1_set, e4]
      by_cases c1 : i = 0
      · by_cases c2 : j = 0
        · obtain ⟨g2, e1, e2⟩ := fin 0 (by rw [c1, c2, dF_00]; omega)
          refine ⟨g2, e1, ?_⟩
          simp (disch := omega) only [zlit, zI_add, zI_sub, zI_mul, zI_neg, zI_lt, zI_le, zI_eq, zI_cl, zI_max, zI_min, zI_abs, bnd_ok, bnd_ex, lm_eq, li_eq, grd_inb, grd_ser, grd_z, grd_lt, if_true, if_false, if_pos, if_neg, hse'.many, fn_Mo_walk_94, fn_Mo_walk_109, fn_Mo_walk_130, e2]
        · have e0 := hg (j - 1) (by omega) (by omega)
          have e9 := hb i (j - 1) (by omega) (by omega) (by omega)
          obtain ⟨g2, e1, e2⟩ := fin (dF a b i (j - 1)) (by rw [c1, dF_0j a b (j := j) (by omega)])
          refine ⟨g2, e1, ?_⟩
          simp (disch := omega) only [zlit, zI_add, zI_sub, zI_mul, zI_neg, zI_lt, zI_le, zI_eq, zI_cl, zI_max, zI_min, zI_abs, bnd_ok, bnd_ex, lm_eq, li_eq, grd_inb, grd_ser, grd_z, grd_lt, if_true, if_false, if_pos, if_neg, hse'.many, fn_Mo_walk_92, fn_Mo_walk_94, fn_Mo_walk_109, fn_Mo_walk_130, S1_get, e0, mo_less]
          rw [show min 1000000000 (dF a b i (j - 1)) = dF a b i (j - 1) by omega]
          exact e2
      · have e01 := hp (by omega) j (by omega) (by omega)
        have e91 := hb (i - 1) j (by omega) (by omega) (by omega)
        by_cases c2 : j = 0
        · obtain ⟨g2, e1, e2⟩ := fin (dF a b (i - 1) j) (by rw [c2, dF_i0 a b (i := i) (by omega)])
          refine ⟨g2, e1, ?_⟩
          simp (disch := omega) only [zlit, zI_add, zI_sub, zI_mul, zI_neg, zI_lt, zI_le, zI_eq, zI_cl, zI_max, zI_min, zI_abs, bnd_ok, bnd_ex, lm_eq, li_eq, grd_inb, grd_ser, grd_z, grd_lt, if_true, if_false, if_pos, if_neg, hse'.many, fn_Mo_walk_92, fn_Mo_walk_94, fn_Mo_walk_109, fn_Mo_walk_130, S1_get, e01, e2]
        · have e02 := hg (j - 1) (by omega) (by omega)
          have e92 := hb i (j - 1) (by omega) (by omega) (by omega)
          have e03 := hs (by omega) (by omega)
          have e93 := hb (i - 1) (j - 1) (by omega) (by omega) (by omega)
          obtain ⟨g2, e1, e2⟩ := fin (min (min (dF a b (i - 1) j) (dF a b i (j - 1))) (dF a b (i - 1) (j - 1))) (by rw [dF_ij a b (i := i) (j := j) (by omega) (by omega)])
          refine ⟨g2, e1, ?_⟩
          rw [e03]
          simp (disch := omega) only [zlit, zI_add, zI_sub, zI_mul, zI_neg, zI_lt, zI_le, zI_eq, zI_cl, zI_max, zI_min, zI_abs, bnd_ok, bnd_ex, lm_eq, li_eq, grd_inb, grd_ser, grd_z, grd_lt, if_true, if_false, if_pos, if_neg, hse'.many, fn_Mo_walk_92, fn_Mo_walk_94, fn_Mo_walk_109, fn_Mo_walk_130, S1_get, e01, e02, mo_less, e2]
theorem m_walk_54 {M : Mm} {v w n m : Int} {a b : Int → Int} (h : Mse M v n a) (h' : Mse M w m b) (hn0 : 0 < n) (hm0 : 0 < m) : ∀ (k : Nat) (i : Int) (g : Int → Int), (0 < i → ∀ y, 0 ≤ y → y < m → g y = dF a b (i - 1) y) → 0 ≤ i → i ≤ n → n - i < k → ∃ g2, fn_Mo_walk_54 (zI v) (zI w) k (zI i) (S1 M 38 g) = some (.inl (zI (dF a b (n - 1) (m - 1))), S1 M 38 g2) := by
  have hv := h.s
  have hn := h.n
  have hw := h'.s
  have hm := h'.n
  intro k
  induction k with
  | zero => intros; omega
  | succ k ih =>
    intro i g hg h0 h1 h2
    have hse := h.s1 38 (by omega) g
    have hse' := h'.s1 38 (by omega) g
    rw [fn_Mo_walk_54]
    by_cases c : n ≤ i
    · refine ⟨g, ?_⟩
      have e := hg (by omega) (m - 1) (by omega) (by omega)
      rw [show i - 1 = n - 1 by omega] at e
      simp (disch := omega) only [zlit, zI_add, zI_sub, zI_mul, zI_neg, zI_lt, zI_le, zI_eq, zI_cl, zI_max, zI_min, zI_abs, bnd_ok, bnd_ex, lm_eq, li_eq, grd_inb, grd_ser, grd_z, grd_lt, if_true, if_false, if_pos, if_neg, hse.many, fn_Mo_walk_196, hse'.many, S1_get, e]
    · obtain ⟨g1, e1, e2⟩ := m_walk_69 h h' (fn_Mo_walk_54 (zI v) (zI w) k) (i := i) ⟨h0, by omega⟩ 2000 0 0 g (fun y y1 y2 => by omega) (fun z y y1 y2 => hg z y y1 y2) (fun z z2 => by omega) (by omega) (by omega) (by omega)
      obtain ⟨g2, e3⟩ := ih (i + 1) g1 (fun _ y y1 y2 => by rw [show i + 1 - 1 = i by omega]; exact e1 y y1 y2) (by omega) (by omega) (by omega)
      refine ⟨g2, ?_⟩
      unfold fuel0
      simp (disch := omega) only [zlit, zI_add, zI_sub, zI_mul, zI_neg, zI_lt, zI_le, zI_eq, zI_cl, zI_max, zI_min, zI_abs, bnd_ok, bnd_ex, lm_eq, li_eq, grd_inb, grd_ser, grd_z, grd_lt, if_true, if_false, if_pos, if_neg, hse.many, e2, e3]
/-! a call on two filled series -/
theorem SA_both {M : Mm} {p q n m : Int} {a b : Int → Int} (hp : 0 ≤ p ∧ p < 4) (hq : 0 ≤ q ∧ q < 4) (h : Ser M (p.toNat + 2) n a) (h' : Ser M (q.toNat + 2) m b) (hn0 : 0 < n) (hm0 : 0 < m) : fn_SA_needBothFilled (zI p) (zI q) M = some (.inl (), M) := by
  unfold fn_SA_needBothFilled
  simp (disch := omega) only [zlit, zI_add, zI_sub, zI_mul, zI_neg, zI_lt, zI_le, zI_eq, zI_cl, zI_max, zI_min, zI_abs, bnd_ok, bnd_ex, lm_eq, li_eq, grd_inb, grd_ser, grd_z, grd_lt, if_true, if_false, if_pos, if_neg, SA_in, h.emp, h'.emp]
theorem SA_both_2 {M : Mm} {p q n m : Int} {a b : Int → Int} (hp : 0 ≤ p ∧ p < 4) (hq : 0 ≤ q ∧ q < 4) (h : Ser M (p.toNat + 2) n a) (h' : Ser M (q.toNat + 2) m b) (hn0 : n = 0 ∨ m = 0) : fn_SA_needBothFilled (zI p) (zI q) M = some (.inr 2, M) := by
  have hn := h.n
  have hm := h'.n
  unfold fn_SA_needBothFilled
  by_cases c : n = 0
  · simp (disch := omega) only [zlit, zI_add, zI_sub, zI_mul, zI_neg, zI_lt, zI_le, zI_eq, zI_cl, zI_max, zI_min, zI_abs, bnd_ok, bnd_ex, lm_eq, li_eq, grd_inb, grd_ser, grd_z, grd_lt, if_true, if_false, if_pos, if_neg, SA_in, h.emp]
  · simp (disch := omega) only [zlit, zI_add, zI_sub, zI_mul, zI_neg, zI_lt, zI_le, zI_eq, zI_cl, zI_max, zI_min, zI_abs, bnd_ok, bnd_ex, lm_eq, li_eq, grd_inb, grd_ser, grd_z, grd_lt, if_true, if_false, if_pos, if_neg, SA_in, h.emp, h'.emp]
theorem SA_both_0 {M : Mm} {p q : Int} (hp : -2147483648 ≤ p ∧ p < 2147483648) (hq : -2147483648 ≤ q ∧ q < 2147483648) (c : ¬ ((0 ≤ p ∧ p < 4) ∧ (0 ≤ q ∧ q < 4))) : fn_SA_needBothFilled (zI p) (zI q) M = some (.inr 0, M) := by
  unfold fn_SA_needBothFilled
  by_cases c1 : 0 ≤ p ∧ p < 4
  · simp (disch := omega) only [zlit, zI_add, zI_sub, zI_mul, zI_neg, zI_lt, zI_le, zI_eq, zI_cl, zI_max, zI_min, zI_abs, bnd_ok, bnd_ex, lm_eq, li_eq, grd_inb, grd_ser, grd_z, grd_lt, if_true, if_false, if_pos, if_neg, SA_in, SA_in_no]
  · simp (disch := omega) only [zlit, zI_add, zI_sub, zI_mul, zI_neg, zI_lt, zI_le, zI_eq, zI_cl, zI_max, zI_min, zI_abs, bnd_ok, bnd_ex, lm_eq, li_eq, grd_inb, grd_ser, grd_z, grd_lt, if_true, if_false, if_pos, if_neg, SA_in_no]
theorem S1_off (M : Mm) (k : Nat) (g : Int → Int) (hk : (22 ≤ k ∧ k ≤ 25) ∨ k = 27 ∨ k = 29 ∨ k = 31 ∨ k = 37 ∨ k = 38) : Off M (S1 M k g) := Off.sc M k _ (by omega)
theorem S1_ne (M : Mm) {k j : Nat} (g : Int → Int) (h : j ≠ k) : S1 M k g j = M j := mrow_ne M _ h
theorem Q_both {f g : Int32 → Int32 → Mm → Rs Int32} {p q : Int} (hp : -2147483648 ≤ p ∧ p < 2147483648) (hq : -2147483648 ≤ q ∧ q < 2147483648)
    (hg : ∀ M, g (zI p) (zI q) M = bnd (fn_Mo_walk (zI p) (zI q) M) (fun r M => some (.inl r, M)))
    (hf1 : ∀ M N A, Cs N A M → 0 ≤ p ∧ p < 4 → 0 ≤ q ∧ q < 4 → 0 < N p → 0 < N q → CR (f (zI p) (zI q) M) M (.inl (zI (dF (A p) (A q) (N p - 1) (N q - 1)))))
    (hf2 : ∀ M c, fn_SA_needBothFilled (zI p) (zI q) M = some (.inr c, M) → f (zI p) (zI q) M = some (.inr c, M)) : AgR (f (zI p) (zI q)) [(0, 1), (2, 2)] (g (zI p) (zI q)) := by
  intro M N A H K
  by_cases c : (0 ≤ p ∧ p < 4) ∧ (0 ≤ q ∧ q < 4)
  · have h := H p c.1.1 c.1.2
    have h' := H q c.2.1 c.2.2
    have hn := h.n
    have hm := h'.n
    by_cases c3 : N p = 0 ∨ N q = 0
    · refine .inr ⟨2, 0, 2, CR.of (hf2 M 2 (SA_both_2 c.1 c.2 h h' c3)), rfl, by decide, MR.of (fun M' K' => ?_)⟩
      have k := K' p c.1.1 c.1.2
      have k' := K' q c.2.1 c.2.2
      rw [hg]
      unfold fn_Mo_walk
      by_cases c4 : N p = 0
      · simp (disch := omega) only [zlit, zI_add, zI_sub, zI_mul, zI_neg, zI_lt, zI_le, zI_eq, zI_cl, zI_max, zI_min, zI_abs, bnd_ok, bnd_ex, lm_eq, li_eq, grd_inb, grd_ser, grd_z, grd_lt, if_true, if_false, if_pos, if_neg, mo_slot, k.many, fn_Mo_walk_35, fn_Mo_walk_40, mset_at]
      · simp (disch := omega) only [zlit, zI_add, zI_sub, zI_mul, zI_neg, zI_lt, zI_le, zI_eq, zI_cl, zI_max, zI_min, zI_abs, bnd_ok, bnd_ex, lm_eq, li_eq, grd_inb, grd_ser, grd_z, grd_lt, if_true, if_false, if_pos, if_neg, mo_slot, k.many, k'.many, fn_Mo_walk_35, fn_Mo_walk_40, mset_at]
    · refine .inl ⟨_, hf1 M N A H c.1 c.2 (by omega) (by omega), fun M' K' => ?_⟩
      have k := K' p c.1.1 c.1.2
      have k' := K' q c.2.1 c.2.2
      have k2 := k.set (k := 32) (by decide) 6 (zI 0)
      have k2' := k'.set (k := 32) (by decide) 6 (zI 0)
      obtain ⟨g2, e⟩ := m_walk_54 k2 k2' (by omega) (by omega) 2000 0 (fun i => (mset M' 32 6 (zI 0) 38 i.toNat).toInt) (fun z => by omega) (by omega) (by omega) (by omega)
      rw [S1_self] at e
      refine ⟨S1 (mset M' 32 6 (zI 0)) 38 g2, ?_, (Off.th M' _).tr (S1_off _ 38 _ (by omega)), ?_, ?_, ?_⟩
      · rw [hg]
        unfold fn_Mo_walk
        simp (disch := omega) only [zlit, zI_add, zI_sub, zI_mul, zI_neg, zI_lt, zI_le, zI_eq, zI_cl, zI_max, zI_min, zI_abs, bnd_ok, bnd_ex, lm_eq, li_eq, grd_inb, grd_ser, grd_z, grd_lt, if_true, if_false, if_pos, if_neg, mo_slot, k.many, k'.many, fn_Mo_walk_40, mset_at, fuel0, e]
      · rw [S1_ne _ _ (by decide), mset_at]
        rfl
      · rw [S1_ne _ _ (by decide), mset_ne _ _ _ (by decide)]
      · rw [S1_ne _ _ (by decide), mset_ne _ _ _ (by decide)]
  · refine .inr ⟨0, 0, 1, CR.of (hf2 M 0 (SA_both_0 hp hq c)), rfl, by decide, MR.of (fun M' K' => ?_)⟩
    rw [hg]
    unfold fn_Mo_walk
    by_cases c1 : 0 ≤ p ∧ p < 4
    · simp (disch := omega) only [zlit, zI_add, zI_sub, zI_mul, zI_neg, zI_lt, zI_le, zI_eq, zI_cl, zI_max, zI_min, zI_abs, bnd_ok, bnd_ex, lm_eq, li_eq, grd_inb, grd_ser, grd_z, grd_lt, if_true, if_false, if_pos, if_neg, mo_slot, fn_Mo_walk_15, fn_Mo_walk_40, mset_at]
    · simp (disch := omega) only [zlit, zI_add, zI_sub, zI_mul, zI_neg, zI_lt, zI_le, zI_eq, zI_cl, zI_max, zI_min, zI_abs, bnd_ok, bnd_ex, lm_eq, li_eq, grd_inb, grd_ser, grd_z, grd_lt, if_true, if_false, if_pos, if_neg, mo_slot, fn_Mo_walk_15, fn_Mo_walk_40, mset_at]
theorem Q_distance {p q : Int} (hp : -2147483648 ≤ p ∧ p < 2147483648) (hq : -2147483648 ≤ q ∧ q < 2147483648) : AgR (fn_SA_distance (zI p) (zI q)) [(0, 1), (2, 2)] (fn_Mo_distance (zI p) (zI q)) := by
  refine Q_both (f := fn_SA_distance) (g := fn_Mo_distance) hp hq (fun M => rfl) (fun M N A H c c2 h0 h1 => ?_) (fun M c e => ?_)
  · have h := H p c.1 c.2
    have h' := H q c2.1 c2.2
    obtain ⟨M1, e1, o1⟩ := h.table h' h0 h1
    refine ⟨M1, ?_, o1⟩
    unfold fn_SA_distance
    simp (disch := omega) only [zlit, zI_add, zI_sub, zI_mul, zI_neg, zI_lt, zI_le, zI_eq, zI_cl, zI_max, zI_min, zI_abs, bnd_ok, bnd_ex, lm_eq, li_eq, grd_inb, grd_ser, grd_z, grd_lt, if_true, if_false, if_pos, if_neg, SA_both c c2 h h', St_at_z, e1]
  · unfold fn_SA_distance
    rw [e]
    rfl
