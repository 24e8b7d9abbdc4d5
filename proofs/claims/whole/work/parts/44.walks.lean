/-! DISTANCES by going on: walks from either end cost the same -/
def stp (i j i' j' : Int) : Prop := (i' = i + 1 ∧ j' = j) ∨ (i' = i ∧ j' = j + 1) ∨ (i' = i + 1 ∧ j' = j + 1)
/-- a walk of s steps from the beginning to (i, j) costs c -/
def RC (a b : Int → Int) : Nat → Int → Int → Int → Prop
  | 0, i, j, c => i = 0 ∧ j = 0 ∧ c = gpF a b 0 0
  | s + 1, i, j, c => ∃ i' j' c', RC a b s i' j' c' ∧ stp i' j' i j ∧ c = c' + gpF a b i j
theorem RC_pos {a b : Int → Int} : ∀ (s : Nat) (i j c : Int), RC a b s i j c → 0 ≤ i ∧ 0 ≤ j := by
  intro s
  induction s with
  | zero => intro i j c h; obtain ⟨h1, h2, -⟩ := h; omega
  | succ s ih =>
    intro i j c h
    obtain ⟨i', j', c', h1, h2, -⟩ := h
    have := ih i' j' c' h1
    unfold stp at h2
    omega
theorem dF_least {a b : Int → Int} : ∀ (s : Nat) (i j c : Int), RC a b s i j c → dF a b i j ≤ c := by
  intro s
  induction s with
  | zero =>
    intro i j c h
    obtain ⟨h1, h2, h3⟩ := h
    rw [h1, h2, h3, dF_00]
    omega
  | succ s ih =>
    intro i j c h
    obtain ⟨i', j', c', h1, h2, h3⟩ := h
    have e := ih i' j' c' h1
    have p := RC_pos s i' j' c' h1
    unfold stp at h2
    by_cases ci : i = 0
    · rw [show i' = 0 by omega, show j' = j - 1 by omega] at e
      have := dF_0j a b (j := j) (by omega)
      rw [ci] at h3 ⊢
      omega
    · by_cases cj : j = 0
      · rw [show j' = 0 by omega, show i' = i - 1 by omega] at e
        have := dF_i0 a b (i := i) (by omega)
        rw [cj] at h3 ⊢
        omega
      · have := dF_ij a b (i := i) (j := j) (by omega) (by omega)
        rcases h2 with ⟨q1, q2⟩ | ⟨q1, q2⟩ | ⟨q1, q2⟩
        · rw [show i' = i - 1 by omega, show j' = j by omega] at e
          omega
        · rw [show i' = i by omega, show j' = j - 1 by omega] at e
          omega
        · rw [show i' = i - 1 by omega, show j' = j - 1 by omega] at e
          omega
theorem dF_there {a b : Int → Int} : ∀ (q : Nat) (i j : Int), 0 ≤ i → 0 ≤ j → i + j < q → ∃ s, RC a b s i j (dF a b i j) := by
  intro q
  induction q with
  | zero => intros; omega
  | succ q ih =>
    intro i j hi hj hq
    by_cases ci : i = 0
    · by_cases cj : j = 0
      · exact ⟨0, ci, cj, by rw [ci, cj, dF_00]⟩
      · obtain ⟨s, hs⟩ := ih 0 (j - 1) (by omega) (by omega) (by omega)
        refine ⟨s + 1, 0, j - 1, _, hs, .inr (.inl ⟨ci, by omega⟩), ?_⟩
        rw [ci, dF_0j a b (j := j) (by omega)]
    · by_cases cj : j = 0
      · obtain ⟨s, hs⟩ := ih (i - 1) 0 (by omega) (by omega) (by omega)
        refine ⟨s + 1, i - 1, 0, _, hs, .inl ⟨by omega, cj⟩, ?_⟩
        rw [cj, dF_i0 a b (i := i) (by omega)]
      · have e := dF_ij a b (i := i) (j := j) (by omega) (by omega)
        by_cases c1 : dF a b (i - 1) j ≤ dF a b i (j - 1) ∧ dF a b (i - 1) j ≤ dF a b (i - 1) (j - 1)
        · obtain ⟨s, hs⟩ := ih (i - 1) j (by omega) (by omega) (by omega)
          exact ⟨s + 1, i - 1, j, _, hs, .inl ⟨by omega, rfl⟩, by omega⟩
        · by_cases c2 : dF a b i (j - 1) ≤ dF a b (i - 1) (j - 1)
          · obtain ⟨s, hs⟩ := ih i (j - 1) (by omega) (by omega) (by omega)
            exact ⟨s + 1, i, j - 1, _, hs, .inr (.inl ⟨rfl, by omega⟩), by omega⟩
          · obtain ⟨s, hs⟩ := ih (i - 1) (j - 1) (by omega) (by omega) (by omega)
            exact ⟨s + 1, i - 1, j - 1, _, hs, .inr (.inr ⟨by omega, by omega⟩), by omega⟩
def rsF (a : Int → Int) (n : Int) : Int → Int := fun i => a (n - 1 - i)
theorem gp_rv {a b : Int → Int} {n m i j : Int} : gpF (rsF a n) (rsF b m) (n - 1 - i) (m - 1 - j) = gpF a b i j := by
  unfold gpF rsF
  rw [show n - 1 - (n - 1 - i) = i by omega, show m - 1 - (m - 1 - j) = j by omega]
theorem rv_rv (a : Int → Int) (n : Int) : rsF (rsF a n) n = a := by
  funext i
  unfold rsF
  rw [show n - 1 - (n - 1 - i) = i by omega]
/-- a walk to (i, j), and one back from the end -/
theorem RC_join {a b : Int → Int} {n m : Int} : ∀ (s t : Nat) (i j c c' : Int), RC a b s i j c → RC (rsF a n) (rsF b m) t (n - 1 - i) (m - 1 - j) c' → RC (rsF a n) (rsF b m) (s + t) (n - 1) (m - 1) (c + c' - gpF a b i j) := by
  intro s
  induction s with
  | zero =>
    intro t i j c c' h k
    obtain ⟨h1, h2, h3⟩ := h
    rw [h1, h2, Int.sub_zero, Int.sub_zero] at k
    rw [h1, h2, h3, show gpF a b 0 0 + c' - gpF a b 0 0 = c' by omega, Nat.zero_add]
    exact k
  | succ s ih =>
    intro t i j c c' h k
    obtain ⟨i', j', c2, h1, h2, h3⟩ := h
    have e := ih (t + 1) i' j' c2 (c' + gpF a b i' j') h1 ⟨n - 1 - i, m - 1 - j, c', k, by unfold stp at *; omega, by rw [gp_rv]⟩
    rw [show s + 1 + t = s + (t + 1) by omega, show c + c' - gpF a b i j = c2 + (c' + gpF a b i' j') - gpF a b i' j' by omega]
    exact e
theorem dF_rv_le {a b : Int → Int} {n m : Int} (hn : 0 < n) (hm : 0 < m) : dF (rsF a n) (rsF b m) (n - 1) (m - 1) ≤ dF a b (n - 1) (m - 1) := by
  obtain ⟨s, hs⟩ := dF_there (a := a) (b := b) ((n - 1 + (m - 1)).toNat + 1) (n - 1) (m - 1) (by omega) (by omega) (by omega)
  have e := RC_join (n := n) (m := m) s 0 (n - 1) (m - 1) _ (gpF a b (n - 1) (m - 1)) hs ⟨by omega, by omega, by rw [← gp_rv (a := a) (b := b) (n := n) (m := m) (i := n - 1) (j := m - 1), show n - 1 - (n - 1) = 0 by omega, show m - 1 - (m - 1) = 0 by omega]⟩
  have := dF_least _ _ _ _ e
  omega
theorem dF_rv {a b : Int → Int} {n m : Int} (hn : 0 < n) (hm : 0 < m) : dF (rsF a n) (rsF b m) (n - 1) (m - 1) = dF a b (n - 1) (m - 1) := by
  have h1 := dF_rv_le (a := a) (b := b) hn hm
  have h2 := dF_rv_le (a := rsF a n) (b := rsF b m) hn hm
  rw [rv_rv, rv_rv] at h2
  omega
/-- the cost from (i, j) on -/
def eF (a b : Int → Int) (n m i j : Int) : Int := dF (rsF a n) (rsF b m) (n - 1 - i) (m - 1 - j)
def eX (a b : Int → Int) (n m i j : Int) : Int := if (0 ≤ i ∧ i < n) ∧ (0 ≤ j ∧ j < m) then eF a b n m i j else 1000000
theorem rsF_b {a : Int → Int} (ha : ∀ i, -99 ≤ a i ∧ a i ≤ 99) (n : Int) : ∀ i, -99 ≤ rsF a n i ∧ rsF a n i ≤ 99 := fun i => ha _
theorem eF_b {a b : Int → Int} (ha : ∀ i, -99 ≤ a i ∧ a i ≤ 99) (hb : ∀ i, -99 ≤ b i ∧ b i ≤ 99) {n m i j : Int} (hi : 0 ≤ i ∧ i < n) (hj : 0 ≤ j ∧ j < m) (hn : n ≤ 20) (hm : m ≤ 20) : 0 ≤ eF a b n m i j ∧ eF a b n m i j ≤ 8000 := by
  have := dF_b (rsF_b ha n) (rsF_b hb m) 50 (n - 1 - i) (m - 1 - j) (by omega) (by omega) (by omega)
  unfold eF
  omega
theorem eX_b {a b : Int → Int} (ha : ∀ i, -99 ≤ a i ∧ a i ≤ 99) (hb : ∀ i, -99 ≤ b i ∧ b i ≤ 99) {n m i j : Int} (hn : n ≤ 20) (hm : m ≤ 20) : 0 ≤ eX a b n m i j ∧ eX a b n m i j ≤ 1000000 := by
  unfold eX
  by_cases c : (0 ≤ i ∧ i < n) ∧ (0 ≤ j ∧ j < m)
  · rw [if_pos c]
    have := eF_b ha hb c.1 c.2 hn hm
    omega
  · rw [if_neg c]; omega
theorem eF_eq {a b : Int → Int} (ha : ∀ i, -99 ≤ a i ∧ a i ≤ 99) (hb : ∀ i, -99 ≤ b i ∧ b i ≤ 99) {n m i j : Int} (hi : 0 ≤ i ∧ i < n) (hj : 0 ≤ j ∧ j < m) (hn : n ≤ 20) (hm : m ≤ 20) : eF a b n m i j = gpF a b i j + (if i = n - 1 ∧ j = m - 1 then 0 else min (min (eX a b n m (i + 1) j) (eX a b n m i (j + 1))) (eX a b n m (i + 1) (j + 1))) := by
  have g := gp_rv (a := a) (b := b) (n := n) (m := m) (i := i) (j := j)
  by_cases c1 : i = n - 1
  · have x1 : eX a b n m (i + 1) j = 1000000 := if_neg (by omega)
    have x3 : eX a b n m (i + 1) (j + 1) = 1000000 := if_neg (by omega)
    by_cases c2 : j = m - 1
    · rw [if_pos ⟨c1, c2⟩]
      unfold eF
      rw [show n - 1 - i = 0 by omega, show m - 1 - j = 0 by omega] at *
      rw [dF_00]
      omega
    · have x2 : eX a b n m i (j + 1) = eF a b n m i (j + 1) := if_pos (by omega)
      have y2 := eF_b ha hb hi (j := j + 1) (m := m) (by omega) hn hm
      rw [if_neg (by omega), x1, x2, x3]
      unfold eF at *
      rw [show n - 1 - i = 0 by omega] at *
      rw [dF_0j _ _ (j := m - 1 - j) (by omega)]
      rw [show m - 1 - (j + 1) = m - 1 - j - 1 by omega] at *
      omega
  · have x1 : eX a b n m (i + 1) j = eF a b n m (i + 1) j := if_pos (by omega)
    have y1 := eF_b ha hb (i := i + 1) (n := n) (by omega) hj hn hm
    by_cases c2 : j = m - 1
    · have x2 : eX a b n m i (j + 1) = 1000000 := if_neg (by omega)
      have x3 : eX a b n m (i + 1) (j + 1) = 1000000 := if_neg (by omega)
      rw [if_neg (by omega), x1, x2, x3]
      unfold eF at *
      rw [show m - 1 - j = 0 by omega] at *
      rw [dF_i0 _ _ (i := n - 1 - i) (by omega)]
      rw [show n - 1 - (i + 1) = n - 1 - i - 1 by omega] at *
      omega
    · have x2 : eX a b n m i (j + 1) = eF a b n m i (j + 1) := if_pos (by omega)
      have x3 : eX a b n m (i + 1) (j + 1) = eF a b n m (i + 1) (j + 1) := if_pos (by omega)
      rw [if_neg (by omega), x1, x2, x3]
      unfold eF at *
      rw [dF_ij _ _ (i := n - 1 - i) (j := m - 1 - j) (by omega) (by omega)]
      rw [show n - 1 - (i + 1) = n - 1 - i - 1 by omega, show m - 1 - (j + 1) = m - 1 - j - 1 by omega] at *
      omega
/-- what the class knows: nothing of a place, or its cost -/
def KnF (a b : Int → Int) (n m : Int) (g : Int → Int) : Prop := ∀ x y, 0 ≤ x → x < n → 0 ≤ y → y < m → g (x * 20 + y) = -1 ∨ g (x * 20 + y) = eF a b n m x y
theorem c_costFrom {M : Mm} {v w : Nat} {n m : Int} {a b : Int → Int} (h : Ser M v n a) (h' : Ser M w m b) : ∀ (k : Nat) (i j d : Int) (g : Int → Int), KnF a b n m g → 0 ≤ i → i ≤ n → 0 ≤ j → j ≤ m → 0 ≤ d → d + (n - i) + (m - j) ≤ 40 → (n - i) + (m - j) < k → ∃ g2, KnF a b n m g2 ∧ fn_Wa_costFrom k v w 31 (zI i) (zI j) (zI d) (S1 M 31 g) = some (.inl (zI (eX a b n m i j)), S1 M 31 g2) := by
  have hv := h.v
  have hn := h.n
  have hw := h'.v
  have hm := h'.n
  intro k
  induction k with
  | zero => intros; omega
  | succ k ih =>
    intro i j d g hg hi0 hi1 hj0 hj1 hd0 hd1 hk
    have hse := h.s1 31 (by omega) g
    have hse' := h'.s1 31 (by omega) g
    rw [fn_Wa_costFrom, grd_ser hv, grd_ser hw, grd_t (by decide)]
    by_cases c1 : i = n
    · refine ⟨g, hg, ?_⟩
      unfold eX
      simp (disch := omega) only [zlit, zI_add, zI_sub, zI_mul, zI_neg, zI_lt, zI_le, zI_eq, zI_cl, zI_max, zI_min, zI_abs, bnd_ok, bnd_ex, lm_eq, li_eq, grd_inb, grd_ser, grd_z, grd_lt, if_true, if_false, if_pos, if_neg, hse.hasn, fn_Wa_costFrom_24]
    · by_cases c2 : j = m
      · refine ⟨g, hg, ?_⟩
        unfold eX
        simp (disch := omega) only [zlit, zI_add, zI_sub, zI_mul, zI_neg, zI_lt, zI_le, zI_eq, zI_cl, zI_max, zI_min, zI_abs, bnd_ok, bnd_ex, lm_eq, li_eq, grd_inb, grd_ser, grd_z, grd_lt, if_true, if_false, if_pos, if_neg, hse.has, hse'.hasn, fn_Wa_costFrom_24]
      · have hin : (0 ≤ i ∧ i < n) ∧ (0 ≤ j ∧ j < m) := by omega
        have hE := eF_b h.b h'.b hin.1 hin.2 hn.2 hm.2
        have hX : eX a b n m i j = eF a b n m i j := if_pos hin
        rw [hX]
        rcases hg i j hi0 hin.1.2 hj0 hin.2.2 with hgv | hgv
        · obtain ⟨g1, k1, e1⟩ := ih (i + 1) j (d + 1) g hg (by omega) (by omega) (by omega) (by omega) (by omega) (by omega) (by omega)
          obtain ⟨g2, k2, e2⟩ := ih i (j + 1) (d + 1) g1 k1 (by omega) (by omega) (by omega) (by omega) (by omega) (by omega) (by omega)
          obtain ⟨g3, k3, e3⟩ := ih (i + 1) (j + 1) (d + 1) g2 k2 (by omega) (by omega) (by omega) (by omega) (by omega) (by omega) (by omega)
          have hs3 := h.s1 31 (by omega) g3
          have hs3' := h'.s1 31 (by omega) g3
          have x1 := eX_b (i := i + 1) (j := j) h.b h'.b hn.2 hm.2
          have x2 := eX_b (i := i) (j := j + 1) h.b h'.b hn.2 hm.2
          have x3 := eX_b (i := i + 1) (j := j + 1) h.b h'.b hn.2 hm.2
          have hq := eF_eq h.b h'.b hin.1 hin.2 hn.2 hm.2
          have gg := c_gap hs3 hs3' hin.1 hin.2
          have kn : ∀ z, z = eF a b n m i j → KnF a b n m (upI g3 (i * 20 + j) z) := fun z hz x y p1 p2 p3 p4 => by
            by_cases c3 : x = i ∧ y = j
            · rw [c3.1, c3.2, upI_eq]
              exact .inr hz
            · rw [upI_ne _ _ (by omega)]
              exact k3 x y p1 p2 p3 p4
          by_cases c4 : i = n - 1
          · by_cases c5 : j = m - 1
            · rw [if_pos ⟨c4, c5⟩] at hq
              refine ⟨upI g3 (i * 20 + j) (gpF a b i j + 0), kn _ hq.symm, ?_⟩
              simp (disch := omega) only [zlit, zI_add, zI_sub, zI_mul, zI_neg, zI_lt, zI_le, zI_eq, zI_cl, zI_max, zI_min, zI_abs, bnd_ok, bnd_ex, lm_eq, li_eq, grd_inb, grd_ser, grd_z, grd_lt, if_true, if_false, if_pos, if_neg, hse.has, hse'.has, fn_Wa_place, rd31, hgv, e1, e2, e3, hs3.hasn, hs3'.hasn, fn_Wa_costFrom_130, gg, fn_Wa_costFrom_158, wr31, fn_Wa_costFrom_162, upI_eq]
              rw [hq]
            · rw [if_neg (by omega)] at hq
              refine ⟨upI g3 (i * 20 + j) _, kn _ hq.symm, ?_⟩
              simp (disch := omega) only [zlit, zI_add, zI_sub, zI_mul, zI_neg, zI_lt, zI_le, zI_eq, zI_cl, zI_max, zI_min, zI_abs, bnd_ok, bnd_ex, lm_eq, li_eq, grd_inb, grd_ser, grd_z, grd_lt, if_true, if_false, if_pos, if_neg, hse.has, hse'.has, fn_Wa_place, rd31, hgv, e1, e2, e3, hs3.hasn, hs3'.has, fn_Wa_costFrom_129, fn_Wa_costFrom_130, gg, fn_Wa_costFrom_158, wr31, fn_Wa_costFrom_162, upI_eq]
              rw [hq]
          · rw [if_neg (by omega)] at hq
            refine ⟨upI g3 (i * 20 + j) _, kn _ hq.symm, ?_⟩
            simp (disch := omega) only [zlit, zI_add, zI_sub, zI_mul, zI_neg, zI_lt, zI_le, zI_eq, zI_cl, zI_max, zI_min, zI_abs, bnd_ok, bnd_ex, lm_eq, li_eq, grd_inb, grd_ser, grd_z, grd_lt, if_true, if_false, if_pos, if_neg, hse.has, hse'.has, fn_Wa_place, rd31, hgv, e1, e2, e3, hs3.has, fn_Wa_costFrom_129, fn_Wa_costFrom_130, gg, fn_Wa_costFrom_158, wr31, fn_Wa_costFrom_162, upI_eq]
            rw [hq]
        · refine ⟨g, hg, ?_⟩
          simp (disch := omega) only [zlit, zI_add, zI_sub, zI_mul, zI_neg, zI_lt, zI_le, zI_eq, zI_cl, zI_max, zI_min, zI_abs, bnd_ok, bnd_ex, lm_eq, li_eq, grd_inb, grd_ser, grd_z, grd_lt, if_true, if_false, if_pos, if_neg, hse.has, hse'.has, fn_Wa_place, rd31, hgv, fn_Wa_costFrom_162]
theorem c_goingOn_2 {M : Mm} {v w : Nat} {n m : Int} {a b : Int → Int} (h : Ser M v n a) (h' : Ser M w m b) (hn0 : 0 < n) (hm0 : 0 < m) : ∀ (k : Nat) (i : Int) (g : Int → Int), (∀ x, 0 ≤ x → x < i → g x = -1) → 0 ≤ i → i ≤ 400 → 400 - i < k → ∃ g2, fn_Wa_costByGoingOn_2 v w k (zI i) (S1 M 31 g) = some (.inl (zI (eX a b n m 0 0)), S1 M 31 g2) := by
  have hv := h.v
  have hn := h.n
  have hw := h'.v
  have hm := h'.n
  intro k
  induction k with
  | zero => intros; omega
  | succ k ih =>
    intro i g hg h0 h1 h2
    rw [fn_Wa_costByGoingOn_2]
    by_cases c : 400 ≤ i
    · obtain ⟨g2, -, e2⟩ := c_costFrom h h' 45 0 0 0 g (fun x y x1 x2 y1 y2 => .inl (hg _ (by omega) (by omega))) (by omega) (by omega) (by omega) (by omega) (by omega) (by omega) (by omega)
      refine ⟨g2, ?_⟩
      simp (disch := omega) only [zlit, zI_add, zI_sub, zI_mul, zI_neg, zI_lt, zI_le, zI_eq, zI_cl, zI_max, zI_min, zI_abs, bnd_ok, bnd_ex, lm_eq, li_eq, grd_inb, grd_ser, grd_z, grd_lt, if_true, if_false, if_pos, if_neg, fn_Wa_costByGoingOn_26, e2]
    · obtain ⟨g2, e2⟩ := ih (i + 1) (upI g i (-1)) (fun x x1 x2 => by
        by_cases c3 : x = i
        · rw [c3, upI_eq]
        · rw [upI_ne _ _ c3]
          exact hg x x1 (by omega)) (by omega) (by omega) (by omega)
      refine ⟨g2, ?_⟩
      simp (disch := omega) only [zlit, zI_add, zI_sub, zI_mul, zI_neg, zI_lt, zI_le, zI_eq, zI_cl, zI_max, zI_min, zI_abs, bnd_ok, bnd_ex, lm_eq, li_eq, grd_inb, grd_ser, grd_z, grd_lt, if_true, if_false, if_pos, if_neg, wr31, e2]
theorem Ser.goingOn {M : Mm} {v w : Nat} {n m : Int} {a b : Int → Int} (h : Ser M v n a) (h' : Ser M w m b) (hn0 : 0 < n) (hm0 : 0 < m) : ∃ M1, fn_Wa_costByGoingOn v w M = some (.inl (zI (dF a b (n - 1) (m - 1))), M1) ∧ Off M M1 := by
  have hv := h.v
  have hn := h.n
  have hw := h'.v
  have hm := h'.n
  obtain ⟨g2, e1⟩ := c_goingOn_2 h h' hn0 hm0 2000 0 (fun i => (M 31 i.toNat).toInt) (fun x x1 x2 => by omega) (by omega) (by omega) (by omega)
  rw [S1_self] at e1
  have e2 : eX a b n m 0 0 = dF a b (n - 1) (m - 1) := by
    unfold eX eF
    rw [if_pos (by omega), Int.sub_zero, Int.sub_zero, dF_rv hn0 hm0]
  rw [e2] at e1
  refine ⟨S1 M 31 g2, ?_, Off.sc M 31 _ (by omega)⟩
  unfold fn_Wa_costByGoingOn fuel0
  simp (disch := omega) only [zlit, zI_add, zI_sub, zI_mul, zI_neg, zI_lt, zI_le, zI_eq, zI_cl, zI_max, zI_min, zI_abs, bnd_ok, bnd_ex, lm_eq, li_eq, grd_inb, grd_ser, grd_z, grd_lt, if_true, if_false, if_pos, if_neg, e1]
theorem Q_distanceByWalks {p q : Int} (hp : -2147483648 ≤ p ∧ p < 2147483648) (hq : -2147483648 ≤ q ∧ q < 2147483648) : AgR (fn_SA_distanceByWalks (zI p) (zI q)) [(0, 1), (2, 2)] (fn_Mo_distanceByWalks (zI p) (zI q)) := by
  refine Q_both (f := fn_SA_distanceByWalks) (g := fn_Mo_distanceByWalks) hp hq (fun M => rfl) (fun M N A H c c2 h0 h1 => ?_) (fun M c e => ?_)
  · have h := H p c.1 c.2
    have h' := H q c2.1 c2.2
    obtain ⟨M1, e1, o1⟩ := h.goingOn h' h0 h1
    refine ⟨M1, ?_, o1⟩
    unfold fn_SA_distanceByWalks
    simp (disch := omega) only [zlit, zI_add, zI_sub, zI_mul, zI_neg, zI_lt, zI_le, zI_eq, zI_cl, zI_max, zI_min, zI_abs, bnd_ok, bnd_ex, lm_eq, li_eq, grd_inb, grd_ser, grd_z, grd_lt, if_true, if_false, if_pos, if_neg, SA_both c c2 h h', St_at_z, e1]
  · unfold fn_SA_distanceByWalks
    rw [e]
    rfl
