/-! ONE SCRATCH ROW; sums by the tree, next greater by the stack, window maxima by the queue -/
def S1 (M : Mm) (k : Nat) (g : Int → Int) : Mm := mrow M k (Wr g)
theorem S1_at (M : Mm) (k : Nat) (g : Int → Int) : S1 M k g k = Wr g := mrow_eq M k _
theorem S1_rd {M : Mm} {k L : Nat} {g : Int → Int} (hk : alen k = L) (h0 : L < 2147483648) {i : Int} (hi : 0 ≤ i ∧ i < L) : fn_SA_read k (zI i) (S1 M k g) = some (.inl (zI (g i)), S1 M k g) := by
  rw [rd hk h0 hi, S1_at, Wr_at hi.1]
theorem S1_wr {M : Mm} {k L : Nat} {g : Int → Int} (hk : alen k = L) (h0 : L < 2147483648) {i x : Int} (hi : 0 ≤ i ∧ i < L) : fn_SA_write k (zI i) (zI x) (S1 M k g) = some (.inl (), S1 M k (upI g i x)) := by
  rw [wr hk h0 hi, mset_row, S1_at, Wr_upd hi.1]
  unfold S1
  rw [mrow_mrow]
theorem S1_self (M : Mm) (k : Nat) : S1 M k (fun i => (M k i.toNat).toInt) = M := by
  unfold S1
  rw [Wr_all, mrow_self]
theorem Ser.s1 {M : Mm} {v : Nat} {n : Int} {a : Int → Int} (h : Ser M v n a) (k : Nat) (hk : 12 ≤ k) (g : Int → Int) : Ser (S1 M k g) v n a := by
  have hv := h.v
  exact h.row (k := k) (by omega) _
theorem rd22 {M : Mm} {g : Int → Int} {i : Int} (hi : 0 ≤ i ∧ i < 21) : fn_SA_read 22 (zI i) (S1 M 22 g) = some (.inl (zI (g i)), S1 M 22 g) := S1_rd (L := 21) (by decide) (by decide) hi
theorem wr22 {M : Mm} {g : Int → Int} {i x : Int} (hi : 0 ≤ i ∧ i < 21) : fn_SA_write 22 (zI i) (zI x) (S1 M 22 g) = some (.inl (), S1 M 22 (upI g i x)) := S1_wr (L := 21) (by decide) (by decide) hi
theorem rd23 {M : Mm} {g : Int → Int} {i : Int} (hi : 0 ≤ i ∧ i < 20) : fn_SA_read 23 (zI i) (S1 M 23 g) = some (.inl (zI (g i)), S1 M 23 g) := S1_rd (L := 20) (by decide) (by decide) hi
theorem wr23 {M : Mm} {g : Int → Int} {i x : Int} (hi : 0 ≤ i ∧ i < 20) : fn_SA_write 23 (zI i) (zI x) (S1 M 23 g) = some (.inl (), S1 M 23 (upI g i x)) := S1_wr (L := 20) (by decide) (by decide) hi
/-! the tree -/
def lbN (n : Nat) : Nat := if n % 16 = 0 then 16 else if n % 8 = 0 then 8 else if n % 4 = 0 then 4 else if n % 2 = 0 then 2 else 1
def lbF (i : Int) : Int := (lbN i.toNat : Nat)
theorem lb_nat : ∀ n : Nat, n < 21 → 1 ≤ n → (zI (n : Int) &&& -zI (n : Int)) = zI ((lbN n : Nat) : Int) := by decide +kernel
theorem lb_b : ∀ n : Nat, n < 21 → 1 ≤ n → 1 ≤ lbN n ∧ lbN n ≤ n := by decide +kernel
theorem lb_f1 : ∀ i : Nat, i < 21 → ∀ v : Nat, v < 21 → (1 ≤ i ∧ i ≤ v ∧ v - lbN v < i ∧ v + lbN v < 21) → (v + lbN v) - lbN (v + lbN v) < i := by decide +kernel
theorem lb_f2b : ((List.range 21).all fun i => (List.range 21).all fun v => (List.range 21).all fun j => !(decide (1 ≤ i ∧ i ≤ v ∧ v - lbN v < i ∧ v < j ∧ j < v + lbN v)) || decide (¬ j - lbN j < i)) = true := by decide +kernel
theorem lb_f2 (i : Nat) (hi : i < 21) (v : Nat) (hv : v < 21) (j : Nat) (hj : j < 21) (hc : 1 ≤ i ∧ i ≤ v ∧ v - lbN v < i ∧ v < j ∧ j < v + lbN v) : ¬ j - lbN j < i := by
  have h3 := List.all_eq_true.mp (List.all_eq_true.mp (List.all_eq_true.mp lb_f2b i (List.mem_range.mpr hi)) v (List.mem_range.mpr hv)) j (List.mem_range.mpr hj)
  rw [decide_eq_true hc] at h3
  exact of_decide_eq_true h3
theorem zI_lb {i : Int} (h : 1 ≤ i ∧ i ≤ 20) : zI i &&& zI (-i) = zI (lbF i) := by
  have e := lb_nat i.toNat (by omega) (by omega)
  rw [show ((i.toNat : Nat) : Int) = i by omega, zI_neg] at e
  exact e
theorem lbF_b {i : Int} (h : 1 ≤ i ∧ i ≤ 20) : 1 ≤ lbF i ∧ lbF i ≤ i := by
  have e := lb_b i.toNat (by omega) (by omega)
  unfold lbF
  omega
theorem lbF_1 {i v : Int} (h : 1 ≤ i ∧ i ≤ v ∧ v ≤ 20) (h2 : v - lbF v < i) (h3 : v + lbF v ≤ 20) : (v + lbF v) - lbF (v + lbF v) < i := by
  have b := lbF_b (i := v) (by omega)
  have b2 := lbF_b (i := v + lbF v) (by omega)
  have e := lb_f1 i.toNat (by omega) v.toNat (by omega)
  have e0 : (v + lbF v).toNat = v.toNat + lbN v.toNat := by unfold lbF; unfold lbF at b; omega
  unfold lbF at *
  rw [e0] at *
  omega
theorem lbF_2 {i v j : Int} (h : 1 ≤ i ∧ i ≤ v ∧ v ≤ 20) (h2 : v - lbF v < i) (h3 : v < j ∧ j < v + lbF v ∧ j ≤ 20) : i ≤ j - lbF j := by
  have b := lbF_b (i := v) (by omega)
  have b2 := lbF_b (i := j) (by omega)
  unfold lbF at *
  have e := lb_f2 i.toNat (by omega) v.toNat (by omega) j.toNat (by omega) (by omega)
  omega
/-- what the tree holds at j when i numbers are in it -/
def trF (a : Int → Int) (i j : Int) : Int := sumF a (j - lbF j) (min j i) 0
theorem trF_in (a : Int → Int) {i j : Int} (hi : 1 ≤ i) (h : j - lbF j < i ∧ i ≤ j) : trF a i j = trF a (i - 1) j + a (i - 1) := by
  unfold trF sumF
  have := lp_end (f := fun x s => s + a x) (i := j - lbF j) (j := i - 1) (b := 0) (by omega)
  rw [Int.sub_add_cancel] at this
  rw [show min j i = i by omega, show min j (i - 1) = i - 1 by omega, this]
theorem trF_out (a : Int → Int) {i j : Int} (h : ¬ (j - lbF j < i ∧ i ≤ j)) : trF a i j = trF a (i - 1) j := by
  unfold trF sumF
  by_cases c : j < i
  · rw [show min j i = min j (i - 1) by omega]
  · rw [lp_stop (by omega), lp_stop (by omega)]
theorem c_grow_37 {M : Mm} {v : Nat} {n : Int} {a : Int → Int} (h : Ser M v n a) (k27 : Int32 → Mm → Rs Unit) {i : Int} (hi : 1 ≤ i ∧ i ≤ n) : ∀ (k : Nat) (u : Int) (g : Int → Int), i ≤ u → (u ≤ n → u - lbF u < i) → (∀ j, 1 ≤ j → j ≤ n → g j = if j < u then trF a i j else trF a (i - 1) j) → n + 1 - u < k → 1 ≤ k → u ≤ 40 → ∃ g2, (∀ j, 1 ≤ j → j ≤ n → g2 j = trF a i j) ∧ fn_Ra_growTree_37 k27 v (zI i) k (zI u) (S1 M 22 g) = k27 (zI (i + 1)) (S1 M 22 g2) := by
  have hv := h.v
  have hn := h.n
  intro k
  induction k with
  | zero => intros; omega
  | succ k ih =>
    intro u g h0 h1 h2 h3 h4 h5
    have hs := h.s1 22 (by omega) g
    rw [fn_Ra_growTree_37]
    by_cases c : n < u
    · refine ⟨g, fun j j1 j2 => by rw [h2 j j1 j2, if_pos (by omega)], ?_⟩
      simp (disch := omega) only [zlit, zI_add, zI_sub, zI_mul, zI_neg, zI_lt, zI_le, zI_eq, zI_cl, zI_max, zI_min, zI_abs, bnd_ok, bnd_ex, lm_eq, li_eq, grd_inb, grd_ser, grd_z, grd_lt, if_true, if_false, if_pos, if_neg, hs.size, fn_Ra_growTree_79]
    · have b := lbF_b (i := u) (by omega)
      have hu := h1 (by omega)
      obtain ⟨g2, e1, e2⟩ := ih (u + lbF u) (upI g u (g u + a (i - 1))) (by omega) (fun hh => lbF_1 ⟨hi.1, h0, by omega⟩ hu (by omega)) (fun j j1 j2 => by
        by_cases c1 : j = u
        · rw [c1, upI_eq, if_pos (by omega), h2 u (by omega) (by omega), if_neg (by omega), trF_in a hi.1 ⟨hu, h0⟩]
        · rw [upI_ne _ _ c1, h2 j j1 j2]
          by_cases c2 : j < u
          · rw [if_pos c2, if_pos (by omega)]
          · rw [if_neg c2]
            by_cases c3 : j < u + lbF u
            · rw [if_pos c3, trF_out a (i := i) (j := j) (fun z => by have := lbF_2 ⟨hi.1, h0, by omega⟩ hu (j := j) ⟨by omega, c3, by omega⟩; omega)]
            · rw [if_neg c3]) (by omega) (by omega) (by omega)
      refine ⟨g2, e1, ?_⟩
      simp (disch := omega) only [zlit, zI_add, zI_sub, zI_mul, zI_neg, zI_lt, zI_le, zI_eq, zI_cl, zI_max, zI_min, zI_abs, bnd_ok, bnd_ex, lm_eq, li_eq, grd_inb, grd_ser, grd_z, grd_lt, if_true, if_false, if_pos, if_neg, hs.size, rd22, hs.at, wr22, zI_lb, e2]
theorem c_grow_27 {M : Mm} {v : Nat} {n : Int} {a : Int → Int} (h : Ser M v n a) : ∀ (k : Nat) (i : Int) (g : Int → Int), 1 ≤ i → i ≤ n + 1 → (∀ j, 1 ≤ j → j ≤ n → g j = trF a (i - 1) j) → n + 1 - i < k → ∃ g2, (∀ j, 1 ≤ j → j ≤ n → g2 j = trF a n j) ∧ fn_Ra_growTree_27 v k (zI i) (S1 M 22 g) = some (.inl (), S1 M 22 g2) := by
  have hv := h.v
  have hn := h.n
  intro k
  induction k with
  | zero => intros; omega
  | succ k ih =>
    intro i g h0 h1 h2 h3
    have hs := h.s1 22 (by omega) g
    rw [fn_Ra_growTree_27]
    by_cases c : n < i
    · refine ⟨g, fun j j1 j2 => by rw [h2 j j1 j2, show i - 1 = n by omega], ?_⟩
      simp (disch := omega) only [zlit, zI_add, zI_sub, zI_mul, zI_neg, zI_lt, zI_le, zI_eq, zI_cl, zI_max, zI_min, zI_abs, bnd_ok, bnd_ex, lm_eq, li_eq, grd_inb, grd_ser, grd_z, grd_lt, if_true, if_false, if_pos, if_neg, hs.size]
    · have b := lbF_b (i := i) (by omega)
      obtain ⟨g1, e1, e2⟩ := c_grow_37 h (fn_Ra_growTree_27 v k) (i := i) ⟨h0, by omega⟩ 2000 i g (by omega) (fun _ => by omega) (fun j j1 j2 => by
        rw [h2 j j1 j2]
        by_cases c2 : j < i
        · rw [if_pos c2, trF_out a (i := i) (j := j) (by omega)]
        · rw [if_neg c2]) (by omega) (by omega) (by omega)
      obtain ⟨g2, e3, e4⟩ := ih (i + 1) g1 (by omega) (by omega) (fun j j1 j2 => by rw [e1 j j1 j2, show i + 1 - 1 = i by omega]) (by omega)
      refine ⟨g2, e3, ?_⟩
      unfold fuel0
      simp (disch := omega) only [zlit, zI_add, zI_sub, zI_mul, zI_neg, zI_lt, zI_le, zI_eq, zI_cl, zI_max, zI_min, zI_abs, bnd_ok, bnd_ex, lm_eq, li_eq, grd_inb, grd_ser, grd_z, grd_lt, if_true, if_false, if_pos, if_neg, hs.size, e2, e4]
theorem c_grow_2 {M : Mm} {v : Nat} {n : Int} {a : Int → Int} (h : Ser M v n a) : ∀ (k : Nat) (i : Int) (g : Int → Int), 1 ≤ i → i ≤ n + 1 → (∀ j, 1 ≤ j → j < i → g j = 0) → n + 1 - i < k → ∃ g2, (∀ j, 1 ≤ j → j ≤ n → g2 j = trF a n j) ∧ fn_Ra_growTree_2 v k (zI i) (S1 M 22 g) = some (.inl (), S1 M 22 g2) := by
  have hv := h.v
  have hn := h.n
  intro k
  induction k with
  | zero => intros; omega
  | succ k ih =>
    intro i g h0 h1 h2 h3
    have hs := h.s1 22 (by omega) g
    rw [fn_Ra_growTree_2]
    by_cases c : n < i
    · obtain ⟨g2, e3, e4⟩ := c_grow_27 h 2000 1 g (by omega) (by omega) (fun j j1 j2 => by
        have b := lbF_b (i := j) (by omega)
        rw [h2 j j1 (by omega)]
        unfold trF sumF
        rw [lp_stop (by omega)]) (by omega)
      refine ⟨g2, e3, ?_⟩
      simp (disch := omega) only [zlit, zI_add, zI_sub, zI_mul, zI_neg, zI_lt, zI_le, zI_eq, zI_cl, zI_max, zI_min, zI_abs, bnd_ok, bnd_ex, lm_eq, li_eq, grd_inb, grd_ser, grd_z, grd_lt, if_true, if_false, if_pos, if_neg, hs.size, fn_Ra_growTree_25, fuel0, e4]
    · obtain ⟨g2, e1, e2⟩ := ih (i + 1) (upI g i 0) (by omega) (by omega) (fun j j1 j2 => by
        by_cases c1 : j = i
        · rw [c1, upI_eq]
        · rw [upI_ne _ _ c1]
          exact h2 j j1 (by omega)) (by omega)
      refine ⟨g2, e1, ?_⟩
      simp (disch := omega) only [zlit, zI_add, zI_sub, zI_mul, zI_neg, zI_lt, zI_le, zI_eq, zI_cl, zI_max, zI_min, zI_abs, bnd_ok, bnd_ex, lm_eq, li_eq, grd_inb, grd_ser, grd_z, grd_lt, if_true, if_false, if_pos, if_neg, hs.size, wr22, e2]
theorem sumF_split (a : Int → Int) {i m j : Int} : ∀ (k : Nat), k = (j - m).toNat → i ≤ m → m ≤ j → sumF a i j 0 = sumF a i m 0 + sumF a m j 0 := by
  intro k
  induction k generalizing j with
  | zero =>
    intro hk h1 h2
    rw [show j = m by omega]
    have : sumF a m m 0 = 0 := lp_stop (by omega)
    omega
  | succ k ih =>
    intro hk h1 h2
    have e1 : sumF a i j 0 = sumF a i (j - 1) 0 + a (j - 1) := by
      unfold sumF
      have := lp_end (f := fun x s => s + a x) (i := i) (j := j - 1) (b := 0) (by omega)
      rw [Int.sub_add_cancel] at this
      exact this
    have e2 : sumF a m j 0 = sumF a m (j - 1) 0 + a (j - 1) := by
      unfold sumF
      have := lp_end (f := fun x s => s + a x) (i := m) (j := j - 1) (b := 0) (by omega)
      rw [Int.sub_add_cancel] at this
      exact this
    have e3 := ih (j := j - 1) (by omega) h1 (by omega)
    omega
theorem c_treeTotal_4 {M : Mm} {n : Int} {a : Int → Int} {g : Int → Int} (hn : n ≤ 20) (hg : ∀ j, 1 ≤ j → j ≤ n → g j = trF a n j) : ∀ (k : Nat) (s u : Int), 0 ≤ u → u ≤ n → u < k → fn_Ra_treeTotal_4 k (zI s) (zI u) (S1 M 22 g) = some (.inl (zI (s + sumF a 0 u 0)), S1 M 22 g) := by
  intro k
  induction k with
  | zero => intros; omega
  | succ k ih =>
    intro s u h0 h1 h2
    rw [fn_Ra_treeTotal_4]
    by_cases c : u ≤ 0
    · have : sumF a 0 u 0 = 0 := lp_stop (by omega)
      rw [this, Int.add_zero]
      simp (disch := omega) only [zlit, zI_add, zI_sub, zI_mul, zI_neg, zI_lt, zI_le, zI_eq, zI_cl, zI_max, zI_min, zI_abs, bnd_ok, bnd_ex, lm_eq, li_eq, grd_inb, grd_ser, grd_z, grd_lt, if_true, if_false, if_pos, if_neg]
    · have b := lbF_b (i := u) (by omega)
      have e : g u = sumF a (u - lbF u) u 0 := by
        rw [hg u (by omega) h1]
        unfold trF
        rw [show min u n = u by omega]
      have e2 := sumF_split a (i := 0) (m := u - lbF u) (j := u) _ rfl (by omega) (by omega)
      simp (disch := omega) only [zlit, zI_add, zI_sub, zI_mul, zI_neg, zI_lt, zI_le, zI_eq, zI_cl, zI_max, zI_min, zI_abs, bnd_ok, bnd_ex, lm_eq, li_eq, grd_inb, grd_ser, grd_z, grd_lt, if_true, if_false, if_pos, if_neg, rd22, zI_lb]
      rw [ih _ (u - lbF u) (by omega) (by omega) (by omega), e, e2, show s + sumF a (u - lbF u) u 0 + sumF a 0 (u - lbF u) 0 = s + (sumF a 0 (u - lbF u) 0 + sumF a (u - lbF u) u 0) by omega]
theorem Ser.byTree {M : Mm} {v : Nat} {n : Int} {a : Int → Int} (h : Ser M v n a) {f t : Int} (hf : 0 ≤ f) (hft : f ≤ t + 1) (ht : t < n) : ∃ M1, fn_Ra_totalByTree v (zI f) (zI t) M = some (.inl (zI (sumF a f (t + 1) 0)), M1) ∧ Off M M1 := by
  have hv := h.v
  have hn := h.n
  obtain ⟨g2, e1, e2⟩ := c_grow_2 h 2000 1 (fun i => (M 22 i.toNat).toInt) (by omega) (by omega) (fun j j1 j2 => by omega) (by omega)
  rw [S1_self] at e2
  refine ⟨S1 M 22 g2, ?_, Off.sc M 22 _ (by omega)⟩
  have t1 := c_treeTotal_4 (M := M) hn.2 e1 2000 0 (t + 1) (by omega) (by omega) (by omega)
  have t2 := c_treeTotal_4 (M := M) hn.2 e1 2000 0 f (by omega) (by omega) (by omega)
  have sp := sumF_split a (i := 0) (m := f) (j := t + 1) _ rfl (by omega) (by omega)
  unfold fn_Ra_totalByTree fn_Ra_growTree fn_Ra_treeTotal fuel0
  simp (disch := omega) only [zlit, zI_add, zI_sub, zI_mul, zI_neg, zI_lt, zI_le, zI_eq, zI_cl, zI_max, zI_min, zI_abs, bnd_ok, bnd_ex, lm_eq, li_eq, grd_inb, grd_ser, grd_z, grd_lt, if_true, if_false, if_pos, if_neg, e2, t1, t2]
  rw [show 0 + sumF a 0 (t + 1) 0 - (0 + sumF a 0 f 0) = sumF a f (t + 1) 0 by omega]
theorem Q_sumByTree {p f t : Int} (hp : -2147483648 ≤ p ∧ p < 2147483648) (hf : -2147483648 ≤ f ∧ f < 2147483648) (ht : -2147483648 ≤ t ∧ t < 2147483648) : AgR (fn_SA_sumByTree (zI p) (zI f) (zI t)) [(0, 1)] (fn_Mo_sumByTree (zI p) (zI f) (zI t)) := by
  intro M N A H K
  by_cases c : 0 ≤ p ∧ p < 4
  · have h := H p c.1 c.2
    have hn := h.n
    by_cases c2 : 0 ≤ f ∧ f ≤ t ∧ t < N p
    · obtain ⟨M1, e1, o1⟩ := h.byTree (f := f) (t := t) (by omega) (by omega) (by omega)
      refine .inl ⟨zI (sumF (A p) f (t + 1) 0), ⟨M1, ?_, o1⟩, MR.of (fun M' K' => ?_)⟩
      · unfold fn_SA_sumByTree
        simp (disch := omega) only [zlit, zI_add, zI_sub, zI_mul, zI_neg, zI_lt, zI_le, zI_eq, zI_cl, zI_max, zI_min, zI_abs, bnd_ok, bnd_ex, lm_eq, li_eq, grd_inb, grd_ser, grd_z, grd_lt, if_true, if_false, if_pos, if_neg, SA_range c h, e1]
      · have k := K' p c.1 c.2
        have k2 := k.set (k := 32) (by decide) 6 (zI 0)
        unfold fn_Mo_sumByTree fn_Mo_summing
        simp (disch := omega) only [zlit, zI_add, zI_sub, zI_mul, zI_neg, zI_lt, zI_le, zI_eq, zI_cl, zI_max, zI_min, zI_abs, bnd_ok, bnd_ex, lm_eq, li_eq, grd_inb, grd_ser, grd_z, grd_lt, if_true, if_false, if_pos, if_neg, mo_range k, mo_checked, Int.sub_self, k2.total]
    · refine .inr ⟨0, 0, 1, CR.of ?_, rfl, by decide, MR.of (fun M' K' => ?_)⟩
      · unfold fn_SA_sumByTree
        simp (disch := omega) only [zlit, zI_add, zI_sub, zI_mul, zI_neg, zI_lt, zI_le, zI_eq, zI_cl, zI_max, zI_min, zI_abs, bnd_ok, bnd_ex, lm_eq, li_eq, grd_inb, grd_ser, grd_z, grd_lt, if_true, if_false, if_pos, if_neg, SA_range_no c h]
      · have k := K' p c.1 c.2
        unfold fn_Mo_sumByTree fn_Mo_summing
        simp (disch := omega) only [zlit, zI_add, zI_sub, zI_mul, zI_neg, zI_lt, zI_le, zI_eq, zI_cl, zI_max, zI_min, zI_abs, bnd_ok, bnd_ex, lm_eq, li_eq, grd_inb, grd_ser, grd_z, grd_lt, if_true, if_false, if_pos, if_neg, mo_range k, mo_checked, Int.sub_zero]
  · refine .inr ⟨0, 0, 1, CR.of ?_, rfl, by decide, MR.of (fun M' K' => ?_)⟩
    · unfold fn_SA_sumByTree
      simp (disch := omega) only [zlit, zI_add, zI_sub, zI_mul, zI_neg, zI_lt, zI_le, zI_eq, zI_cl, zI_max, zI_min, zI_abs, bnd_ok, bnd_ex, lm_eq, li_eq, grd_inb, grd_ser, grd_z, grd_lt, if_true, if_false, if_pos, if_neg, SA_range_no2]
    · unfold fn_Mo_sumByTree fn_Mo_summing
      simp (disch := omega) only [zlit, zI_add, zI_sub, zI_mul, zI_neg, zI_lt, zI_le, zI_eq, zI_cl, zI_max, zI_min, zI_abs, bnd_ok, bnd_ex, lm_eq, li_eq, grd_inb, grd_ser, grd_z, grd_lt, if_true, if_false, if_pos, if_neg, mo_range_no, mo_checked, Int.sub_zero]
/-! the next greater by the stack: chains of next greater places -/
def ngF (a : Int → Int) (n i : Int) : Int := fs (fun x => decide (a i < a x)) (i + 1) n
/-- the stack g of height h above place i: its top is i, each below is the next greater of the one above -/
def StkOk (a : Int → Int) (n i : Int) (g : Int → Int) (h : Int) : Prop := 0 ≤ h ∧ h ≤ n - i ∧ (h = 0 → i = n) ∧ (1 ≤ h → g (h - 1) = i ∧ ngF a n (g 0) = -1) ∧ (∀ k, 1 ≤ k → k < h → g (k - 1) = ngF a n (g k)) ∧ ∀ k, 0 ≤ k → k < h → i ≤ g k ∧ g k < n
theorem ng_none {a : Int → Int} {n i : Int} (h : ∀ x, i < x → x < n → a x ≤ a i) : ngF a n i = -1 := fs_none (fun x x1 x2 => decide_eq_false (by have := h x (by omega) x2; omega))
theorem ng_is {a : Int → Int} {n i t : Int} (h1 : i < t) (h2 : t < n) (h3 : a i < a t) (h : ∀ x, i < x → x < t → a x ≤ a i) : ngF a n i = t := fs_uniq (by omega) h2 (decide_eq_true h3) (fun x x1 x2 => decide_eq_false (by have := h x (by omega) x2; omega))
theorem ng_spec {a : Int → Int} {n i : Int} : (ngF a n i = -1 ∧ ∀ x, i < x → x < n → a x ≤ a i) ∨ (i < ngF a n i ∧ ngF a n i < n ∧ a i < a (ngF a n i) ∧ ∀ x, i < x → x < ngF a n i → a x ≤ a i) := by
  rcases fs_is (p := fun x => decide (a i < a x)) (i + 1) n with ⟨h1, h2⟩ | ⟨h1, h2, h3, h4⟩
  · refine .inl ⟨h1, fun x x1 x2 => ?_⟩
    have := of_decide_eq_false (h2 x (by omega) x2)
    omega
  · refine .inr ⟨by unfold ngF; omega, h2, of_decide_eq_true h3, fun x x1 x2 => ?_⟩
    have := of_decide_eq_false (h4 x (by omega) x2)
    omega
/-- popping for i: all between i and the top are not greater -/
theorem c_pop_19 {M : Mm} {v : Nat} {n : Int} {a : Int → Int} (h : Ser M v n a) (k13 : Int32 → Int32 → Int32 → Mm → Rs Int32) {w i : Int} (hi : 0 ≤ i ∧ i < n) {g : Int → Int} {H : Int} (hs : StkOk a n (i + 1) g H) : ∀ (k : Nat) (u : Int), 0 ≤ u → u ≤ H → (1 ≤ u → ∀ x, i < x → x < g (u - 1) → a x ≤ a i) → (u = 0 → ∀ x, i < x → x < n → a x ≤ a i) → u < k → ∃ u2, 0 ≤ u2 ∧ u2 ≤ H ∧ (1 ≤ u2 → g (u2 - 1) = ngF a n i) ∧ (u2 = 0 → ngF a n i = -1) ∧ fn_Ra_nextAbove_19 k13 v (zI w) (zI i) k (zI u) (S1 M 23 g) = fn_Ra_nextAbove_52 k13 v (zI w) (zI u2) (zI i) (S1 M 23 g) := by
  have hv := h.v
  have hn := h.n
  obtain ⟨s1, s2, s3, s4, s5, s6⟩ := hs
  have b1 := h.b i
  intro k
  induction k with
  | zero => intros; omega
  | succ k ih =>
    intro u h0 h1 h2 h3 h4
    have hse := h.s1 23 (by omega) g
    rw [fn_Ra_nextAbove_19]
    by_cases c : u ≤ 0
    · refine ⟨u, h0, h1, fun e => by omega, fun e => ng_none (h3 e), ?_⟩
      simp (disch := omega) only [zlit, zI_add, zI_sub, zI_mul, zI_neg, zI_lt, zI_le, zI_eq, zI_cl, zI_max, zI_min, zI_abs, bnd_ok, bnd_ex, lm_eq, li_eq, grd_inb, grd_ser, grd_z, grd_lt, if_true, if_false, if_pos, if_neg]
    · have b2 := h.b (g (u - 1))
      have b3 := s6 (u - 1) (by omega) (by omega)
      by_cases c2 : a i < a (g (u - 1))
      · refine ⟨u, h0, h1, fun e => (ng_is (by omega) (by omega) c2 (h2 (by omega))).symm, fun e => by omega, ?_⟩
        simp (disch := omega) only [zlit, zI_add, zI_sub, zI_mul, zI_neg, zI_lt, zI_le, zI_eq, zI_cl, zI_max, zI_min, zI_abs, bnd_ok, bnd_ex, lm_eq, li_eq, grd_inb, grd_ser, grd_z, grd_lt, if_true, if_false, if_pos, if_neg, rd23, hse.at]
      · obtain ⟨u2, e1, e2, e3, e4, e5⟩ := ih (u - 1) (by omega) (by omega) (fun hu x x1 x2 => by
          have e9 := s5 (u - 1) (by omega) (by omega)
          have e8 := ng_spec (a := a) (n := n) (i := g (u - 1))
          by_cases x3 : x < g (u - 1)
          · exact h2 (by omega) x x1 x3
          · by_cases x4 : x = g (u - 1)
            · rw [x4]; omega
            · rcases e8 with ⟨e81, e82⟩ | ⟨e81, e82, e83, e84⟩
              · have := s6 (u - 1 - 1) (by omega) (by omega)
                omega
              · have := e84 x (by omega) (by omega)
                omega) (fun hu x x1 x2 => by
          have e9 := (s4 (by omega)).2
          have e8 := ng_spec (a := a) (n := n) (i := g 0)
          have eu : u - 1 = 0 := hu
          rw [eu] at h2 c2 b3
          by_cases x3 : x < g 0
          · exact h2 (by omega) x x1 x3
          · by_cases x4 : x = g 0
            · rw [x4]; omega
            · rcases e8 with ⟨e81, e82⟩ | ⟨e81, e82, e83, e84⟩
              · have := e82 x (by omega) x2
                omega
              · omega) (by omega)
        refine ⟨u2, e1, e2, e3, e4, ?_⟩
        simp (disch := omega) only [zlit, zI_add, zI_sub, zI_mul, zI_neg, zI_lt, zI_le, zI_eq, zI_cl, zI_max, zI_min, zI_abs, bnd_ok, bnd_ex, lm_eq, li_eq, grd_inb, grd_ser, grd_z, grd_lt, if_true, if_false, if_pos, if_neg, rd23, hse.at]
        exact e5
theorem c_next_13 {M : Mm} {v : Nat} {n : Int} {a : Int → Int} (h : Ser M v n a) {w : Int} (hw : 0 ≤ w ∧ w < n) : ∀ (k : Nat) (g : Int → Int) (H nx i : Int), StkOk a n (i + 1) g H → w - 1 ≤ i → i < n → (i < n - 1 → nx = ngF a n (i + 1)) → i - w + 1 < k → ∃ g2, fn_Ra_nextAbove_13 v (zI w) k (zI H) (zI nx) (zI i) (S1 M 23 g) = some (.inl (zI (if i = w - 1 then nx else ngF a n w)), S1 M 23 g2) := by
  have hv := h.v
  have hn := h.n
  intro k
  induction k with
  | zero => intros; omega
  | succ k ih =>
    intro g H nx i hs h0 h1 h2 h3
    rw [fn_Ra_nextAbove_13]
    by_cases c : i < w
    · refine ⟨g, ?_⟩
      simp (disch := omega) only [zlit, zI_add, zI_sub, zI_mul, zI_neg, zI_lt, zI_le, zI_eq, zI_cl, zI_max, zI_min, zI_abs, bnd_ok, bnd_ex, lm_eq, li_eq, grd_inb, grd_ser, grd_z, grd_lt, if_true, if_false, if_pos, if_neg]
    · have hs2 := hs
      obtain ⟨s1, s2, s3, s4, s5, s6⟩ := hs2
      have hi : 0 ≤ i ∧ i < n := ⟨by omega, h1⟩
      obtain ⟨u2, e1, e2, e3, e4, e5⟩ := c_pop_19 h (fn_Ra_nextAbove_13 v (zI w) k) (w := w) hi hs 2000 H s1 (by omega) (fun hu x x1 x2 => by
        have := (s4 hu).1
        omega) (fun hu x x1 x2 => by
        have := s3 hu
        omega) (by omega)
      have hnx : zI (if u2 = 0 then -1 else g (u2 - 1)) = zI (ngF a n i) := by
        by_cases c2 : u2 = 0
        · rw [if_pos c2, e4 c2]
        · rw [if_neg c2, e3 (by omega)]
      have hs3 : StkOk a n (i - 1 + 1) (upI g u2 i) (u2 + 1) := by
        rw [Int.sub_add_cancel]
        refine ⟨by omega, by omega, fun e => by omega, fun _ => ⟨by rw [show u2 + 1 - 1 = u2 by omega, upI_eq], ?_⟩, fun q q1 q2 => ?_, fun q q1 q2 => ?_⟩
        · by_cases c2 : u2 = 0
          · rw [c2, upI_eq]
            exact e4 c2
          · rw [upI_ne _ _ (by omega)]
            exact (s4 (by omega)).2
        · by_cases c2 : q = u2
          · rw [c2, upI_eq, upI_ne _ _ (by omega)]
            exact e3 (by omega)
          · rw [upI_ne _ _ (by omega), upI_ne _ _ c2]
            exact s5 q q1 (by omega)
        · by_cases c2 : q = u2
          · rw [c2, upI_eq]
            omega
          · rw [upI_ne _ _ c2]
            have := s6 q q1 (by omega)
            omega
      obtain ⟨g2, e6⟩ := ih (upI g u2 i) (u2 + 1) (ngF a n i) (i - 1) hs3 (by omega) (by omega) (fun _ => by rw [Int.sub_add_cancel]) (by omega)
      refine ⟨g2, ?_⟩
      unfold fuel0
      have e7 : fn_Ra_nextAbove_52 (fn_Ra_nextAbove_13 v (zI w) k) v (zI w) (zI u2) (zI i) (S1 M 23 g) = fn_Ra_nextAbove_13 v (zI w) k (zI (u2 + 1)) (zI (ngF a n i)) (zI (i - 1)) (S1 M 23 (upI g u2 i)) := by
        unfold fn_Ra_nextAbove_52
        by_cases c2 : u2 = 0
        · have e8 := e4 c2
          simp (disch := omega) only [zlit, zI_add, zI_sub, zI_mul, zI_neg, zI_lt, zI_le, zI_eq, zI_cl, zI_max, zI_min, zI_abs, bnd_ok, bnd_ex, lm_eq, li_eq, grd_inb, grd_ser, grd_z, grd_lt, if_true, if_false, if_pos, if_neg, fn_Ra_nextAbove_70, wr23, e8]
          rfl
        · have e8 := e3 (by omega)
          simp (disch := omega) only [zlit, zI_add, zI_sub, zI_mul, zI_neg, zI_lt, zI_le, zI_eq, zI_cl, zI_max, zI_min, zI_abs, bnd_ok, bnd_ex, lm_eq, li_eq, grd_inb, grd_ser, grd_z, grd_lt, if_true, if_false, if_pos, if_neg, fn_Ra_nextAbove_70, rd23, wr23, e8]
          rfl
      simp (disch := omega) only [zlit, zI_add, zI_sub, zI_mul, zI_neg, zI_lt, zI_le, zI_eq, zI_cl, zI_max, zI_min, zI_abs, bnd_ok, bnd_ex, lm_eq, li_eq, grd_inb, grd_ser, grd_z, grd_lt, if_true, if_false, if_pos, if_neg, e5, e7, e6]
      by_cases c3 : i - 1 = w - 1
      · rw [if_pos c3, show i = w by omega]
      · rw [if_neg c3]
theorem Ser.nextStack {M : Mm} {v : Nat} {n : Int} {a : Int → Int} (h : Ser M v n a) {w : Int} (hw : 0 ≤ w ∧ w < n) : ∃ M1, fn_Ra_nextAbove v (zI w) M = some (.inl (zI (ngF a n w)), M1) ∧ Off M M1 := by
  have hv := h.v
  have hn := h.n
  obtain ⟨g2, e1⟩ := c_next_13 h hw 2000 (fun i => (M 23 i.toNat).toInt) 0 (-1) (n - 1) ⟨by omega, by omega, fun _ => by omega, fun e => by omega, fun k k1 k2 => by omega, fun k k1 k2 => by omega⟩ (by omega) (by omega) (fun e => by omega) (by omega)
  rw [S1_self, if_neg (by omega)] at e1
  refine ⟨S1 M 23 g2, ?_, Off.sc M 23 _ (by omega)⟩
  unfold fn_Ra_nextAbove fuel0
  simp (disch := omega) only [zlit, zI_add, zI_sub, zI_mul, zI_neg, zI_lt, zI_le, zI_eq, zI_cl, zI_max, zI_min, zI_abs, bnd_ok, bnd_ex, lm_eq, li_eq, grd_inb, grd_ser, grd_z, grd_lt, if_true, if_false, if_pos, if_neg, h.size]
  exact e1
theorem Q_nextGreater {p i : Int} (hp : -2147483648 ≤ p ∧ p < 2147483648) (hi : -2147483648 ≤ i ∧ i < 2147483648) : AgR (fn_SA_nextGreater (zI p) (zI i)) [(0, 1), (3, 2)] (fn_Mo_nextGreater (zI p) (zI i)) := by
  refine Q_later (f := fn_SA_nextGreater) (g := fn_Mo_nextGreater) hp hi (fun M => rfl) (fun M N A H c c2 => ?_) (fun M q e => ?_)
  · have h := H p c.1 c.2
    have hn := h.n
    obtain ⟨M1, e1, o1⟩ := h.nextStack c2
    refine ⟨M1, o1, ?_⟩
    unfold fn_SA_nextGreater
    simp (disch := omega) only [zlit, zI_add, zI_sub, zI_mul, zI_neg, zI_lt, zI_le, zI_eq, zI_cl, zI_max, zI_min, zI_abs, bnd_ok, bnd_ex, lm_eq, li_eq, grd_inb, grd_ser, grd_z, grd_lt, if_true, if_false, if_pos, if_neg, SA_with c h, e1, bnd_fnd]
    rfl
  · unfold fn_SA_nextGreater
    rw [e]
    rfl
