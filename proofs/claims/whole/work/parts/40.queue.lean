/-! window maxima by the queue -/
/-- the queue g from hd to tl, of the window that begins at ws, when all before i are in -/
def QOk (a : Int → Int) (ws i : Int) (g : Int → Int) (hd tl : Int) : Prop := 0 ≤ hd ∧ hd ≤ tl ∧ tl ≤ i ∧ (∀ k, hd ≤ k → k < tl → ws ≤ g k ∧ g k < i) ∧ (∀ k q, hd ≤ k → k < q → q < tl → g k < g q) ∧ ∀ x, ws ≤ x → x < i → ∃ k, hd ≤ k ∧ k < tl ∧ x ≤ g k ∧ a x ≤ a (g k) ∧ ∀ q, hd ≤ q → q < k → a (g k) < a (g q)
theorem c_queue_9 {M : Mm} {v : Nat} {n : Int} {a : Int → Int} (h : Ser M v n a) {wd w : Int} (hwd : 1 ≤ wd ∧ wd ≤ n) (hw : 0 ≤ w ∧ w < n) : ∀ (k : Nat) (g : Int → Int) (hd tl i : Int), QOk a (max 0 (i - wd)) i g hd tl → 0 ≤ i → i ≤ w + 1 → (1 ≤ i → hd < tl) → w + 1 - i < k → ∃ g2 hd2 tl2, QOk a (max 0 (w + 1 - wd)) (w + 1) g2 hd2 tl2 ∧ hd2 < tl2 ∧ fn_Ra_windowTop_9 v (zI wd) (zI w) k (zI hd) (zI tl) (zI i) (S1 M 23 g) = fn_Ra_windowTop_91 v (zI hd2) (S1 M 23 g2) := by
  have hv := h.v
  have hn := h.n
  intro k
  induction k with
  | zero => intros; omega
  | succ k ih =>
    intro g hd tl i hq h0 h1 h2 h3
    rw [fn_Ra_windowTop_9]
    by_cases c : w < i
    · have e : i = w + 1 := by omega
      refine ⟨g, hd, tl, by rw [← e]; exact hq, h2 (by omega), ?_⟩
      simp (disch := omega) only [zlit, zI_add, zI_sub, zI_mul, zI_neg, zI_lt, zI_le, zI_eq, zI_cl, zI_max, zI_min, zI_abs, bnd_ok, bnd_ex, lm_eq, li_eq, grd_inb, grd_ser, grd_z, grd_lt, if_true, if_false, if_pos, if_neg]
    · have hq2 := hq
      obtain ⟨q1, q2, q3, q4, q5, q6⟩ := hq2
      -- what lies from hd on below tl is in order; beyond tl it doesn't count
      have hi : 0 ≤ i ∧ i < n := ⟨h0, by omega⟩
      have hpop : ∀ (kk : Nat) (u : Int), hd ≤ u → u ≤ tl → u - hd < kk → ∃ u2, hd ≤ u2 ∧ u2 ≤ u ∧ (∀ q, u2 ≤ q → q < u → a (g q) ≤ a i) ∧ (hd < u2 → a i < a (g (u2 - 1))) ∧ fn_Ra_windowTop_15 (fn_Ra_windowTop_9 v (zI wd) (zI w) k) v (zI wd) (zI w) (zI hd) (zI i) kk (zI u) (S1 M 23 g) = fn_Ra_windowTop_52 (fn_Ra_windowTop_9 v (zI wd) (zI w) k) v (zI wd) (zI w) (zI hd) (zI u2) (zI i) (S1 M 23 g) := by
        have hse := h.s1 23 (by omega) g
        have b1 := h.b i
        intro kk
        induction kk with
        | zero => intros; omega
        | succ kk ih2 =>
          intro u u1 u2' u3
          rw [fn_Ra_windowTop_15]
          by_cases c4 : u ≤ hd
          · refine ⟨u, u1, by omega, fun q q1 q2 => by omega, fun e => by omega, ?_⟩
            simp (disch := omega) only [zlit, zI_add, zI_sub, zI_mul, zI_neg, zI_lt, zI_le, zI_eq, zI_cl, zI_max, zI_min, zI_abs, bnd_ok, bnd_ex, lm_eq, li_eq, grd_inb, grd_ser, grd_z, grd_lt, if_true, if_false, if_pos, if_neg]
          · have b2 := h.b (g (u - 1))
            have b3 := q4 (u - 1) (by omega) (by omega)
            by_cases c2 : a i < a (g (u - 1))
            · refine ⟨u, u1, by omega, fun q q1 q2 => by omega, fun e => c2, ?_⟩
              simp (disch := omega) only [zlit, zI_add, zI_sub, zI_mul, zI_neg, zI_lt, zI_le, zI_eq, zI_cl, zI_max, zI_min, zI_abs, bnd_ok, bnd_ex, lm_eq, li_eq, grd_inb, grd_ser, grd_z, grd_lt, if_true, if_false, if_pos, if_neg, rd23, hse.at]
            · obtain ⟨u2, e1, e2, e3, e4, e5⟩ := ih2 (u - 1) (by omega) (by omega) (by omega)
              refine ⟨u2, e1, by omega, fun q q1 q2 => ?_, e4, ?_⟩
              · by_cases c3 : q = u - 1
                · rw [c3]; omega
                · exact e3 q q1 (by omega)
              · simp (disch := omega) only [zlit, zI_add, zI_sub, zI_mul, zI_neg, zI_lt, zI_le, zI_eq, zI_cl, zI_max, zI_min, zI_abs, bnd_ok, bnd_ex, lm_eq, li_eq, grd_inb, grd_ser, grd_z, grd_lt, if_true, if_false, if_pos, if_neg, rd23, hse.at]
                exact e5
      obtain ⟨u2, e1, e2, e3, e4, e5⟩ := hpop 2000 tl q2 (by omega) (by omega)
      -- the queue with i behind, of the old window
      have hlast : ∀ x, max 0 (i - wd) ≤ x → x < i + 1 → ∃ k, hd ≤ k ∧ k < u2 + 1 ∧ x ≤ upI g u2 i k ∧ a x ≤ a (upI g u2 i k) ∧ ∀ q, hd ≤ q → q < k → a (upI g u2 i k) < a (upI g u2 i q) := by
        have hall : ∀ q, hd ≤ q → q < u2 → a i < a (g q) := by
          intro q qa qb
          have e9 := e4 (by omega)
          by_cases c5 : q = u2 - 1
          · rw [c5]; exact e9
          · have b9 := q4 (u2 - 1) (by omega) (by omega)
            obtain ⟨kk, k1, k2, k3, k4, k5⟩ := q6 (g (u2 - 1)) (by omega) (by omega)
            -- kk is the place u2 - 1, or behind it
            by_cases c6 : kk < u2 - 1
            · have := q5 kk (u2 - 1) k1 c6 (by omega)
              omega
            · have := k5 q qa (by omega)
              omega
        intro x x1 x2
        by_cases c7 : x = i
        · refine ⟨u2, e1, by omega, by rw [upI_eq]; omega, by rw [upI_eq, c7]; omega, fun q qa qb => ?_⟩
          rw [upI_eq, upI_ne _ _ (by omega)]
          exact hall q qa qb
        · obtain ⟨kk, k1, k2, k3, k4, k5⟩ := q6 x (by omega) (by omega)
          by_cases c8 : kk < u2
          · refine ⟨kk, k1, by omega, by rw [upI_ne _ _ (by omega)]; exact k3, by rw [upI_ne _ _ (by omega)]; exact k4, fun q qa qb => ?_⟩
            rw [upI_ne _ _ (by omega), upI_ne _ _ (by omega)]
            exact k5 q qa qb
          · have := e3 kk (by omega) k2
            refine ⟨u2, e1, by omega, by rw [upI_eq]; omega, by rw [upI_eq]; omega, fun q qa qb => ?_⟩
            rw [upI_eq, upI_ne _ _ (by omega)]
            exact hall q qa qb
      have hin : ∀ k, hd ≤ k → k < u2 + 1 → max 0 (i - wd) ≤ upI g u2 i k ∧ upI g u2 i k < i + 1 := by
        intro k k1 k2
        by_cases c9 : k = u2
        · rw [c9, upI_eq]; omega
        · rw [upI_ne _ _ c9]
          have := q4 k k1 (by omega)
          omega
      have hord : ∀ k q, hd ≤ k → k < q → q < u2 + 1 → upI g u2 i k < upI g u2 i q := by
        intro k q k1 k2 k3
        rw [upI_ne _ _ (show k ≠ u2 by omega)]
        by_cases c9 : q = u2
        · rw [c9, upI_eq]
          have := q4 k k1 (by omega)
          omega
        · rw [upI_ne _ _ c9]
          exact q5 k q k1 k2 (by omega)
      have hse := h.s1 23 (by omega) (upI g u2 i)
      unfold fuel0
      by_cases c10 : upI g u2 i hd ≤ i - wd
      · -- the head falls out of the window
        have hne : hd < u2 := by
          by_cases c11 : hd = u2
          · rw [c11, upI_eq] at c10
            omega
          · omega
        have hq' : QOk a (max 0 (i + 1 - wd)) (i + 1) (upI g u2 i) (hd + 1) (u2 + 1) := by
          refine ⟨by omega, by omega, by omega, fun k k1 k2 => ?_, fun k q k1 k2 k3 => hord k q (by omega) k2 k3, fun x x1 x2 => ?_⟩
          · have a1 := hin k (by omega) k2
            have a2 := hord hd k (by omega) (by omega) k2
            have a3 := hin hd (by omega) (by omega)
            omega
          · obtain ⟨kk, k1, k2, k3, k4, k5⟩ := hlast x (by omega) x2
            refine ⟨kk, ?_, k2, k3, k4, fun q qa qb => k5 q (by omega) qb⟩
            by_cases c12 : kk = hd
            · rw [c12] at k3
              omega
            · omega
        obtain ⟨g2, hd2, tl2, f1, f2, f3⟩ := ih (upI g u2 i) (hd + 1) (u2 + 1) (i + 1) hq' (by omega) (by omega) (fun _ => by omega) (by omega)
        refine ⟨g2, hd2, tl2, f1, f2, ?_⟩
        have a3 := hin hd (by omega) (by omega)
        simp (disch := omega) only [zlit, zI_add, zI_sub, zI_mul, zI_neg, zI_lt, zI_le, zI_eq, zI_cl, zI_max, zI_min, zI_abs, bnd_ok, bnd_ex, lm_eq, li_eq, grd_inb, grd_ser, grd_z, grd_lt, if_true, if_false, if_pos, if_neg, e5, fn_Ra_windowTop_52, wr23, rd23, fn_Ra_windowTop_85, f3]
      · have hq' : QOk a (max 0 (i + 1 - wd)) (i + 1) (upI g u2 i) hd (u2 + 1) := by
          refine ⟨by omega, by omega, by omega, fun k k1 k2 => ?_, hord, fun x x1 x2 => hlast x (by omega) x2⟩
          have a1 := hin k k1 k2
          by_cases c12 : k = hd
          · rw [c12] at a1 ⊢
            omega
          · have a2 := hord hd k (by omega) (by omega) k2
            omega
        obtain ⟨g2, hd2, tl2, f1, f2, f3⟩ := ih (upI g u2 i) hd (u2 + 1) (i + 1) hq' (by omega) (by omega) (fun _ => by omega) (by omega)
        refine ⟨g2, hd2, tl2, f1, f2, ?_⟩
        have a3 := hin hd (by omega) (by omega)
        simp (disch := omega) only [zlit, zI_add, zI_sub, zI_mul, zI_neg, zI_lt, zI_le, zI_eq, zI_cl, zI_max, zI_min, zI_abs, bnd_ok, bnd_ex, lm_eq, li_eq, grd_inb, grd_ser, grd_z, grd_lt, if_true, if_false, if_pos, if_neg, e5, fn_Ra_windowTop_52, wr23, rd23, fn_Ra_windowTop_85, f3]
theorem maxF_is {a : Int → Int} {f t m : Int} (h1 : ∃ x, f ≤ x ∧ x ≤ t ∧ a x = m) (h2 : ∀ x, f ≤ x → x ≤ t → a x ≤ m) : maxF a (f + 1) (t + 1) (a f) = m := by
  obtain ⟨y, y1, y2, y3⟩ := h1
  have e := lp_inv (f := fun x m => max m (a x)) (fun i q => (∀ x, f ≤ x → x < i → a x ≤ q) ∧ ∃ x, f ≤ x ∧ x < i ∧ a x = q) (i := f + 1) (j := t + 1) (b := a f) (by omega)
    ⟨fun x x1 x2 => by rw [show x = f by omega]; omega, ⟨f, by omega, by omega, rfl⟩⟩ (fun i q i1 i2 hq => by
      refine ⟨fun x x1 x2 => ?_, ?_⟩
      · by_cases c : x = i
        · rw [c]
          show a i ≤ max q (a i)
          omega
        · have := hq.1 x x1 (by omega)
          show a x ≤ max q (a i)
          omega
      · by_cases c : q ≤ a i
        · exact ⟨i, by omega, by omega, by show a i = max q (a i); omega⟩
        · obtain ⟨x, x1, x2, x3⟩ := hq.2
          exact ⟨x, x1, by omega, by show a x = max q (a i); omega⟩)
  obtain ⟨e1, x, x1, x2, x3⟩ := e
  have := e1 y y1 (by omega)
  have := h2 x x1 (by omega)
  show lp (fun x m => max m (a x)) (f + 1) (t + 1) (a f) = m
  omega
theorem Ser.queue {M : Mm} {v : Nat} {n : Int} {a : Int → Int} (h : Ser M v n a) {wd w : Int} (hwd : 1 ≤ wd ∧ wd ≤ n) (hw : 0 ≤ w ∧ w < n) (hww : 0 ≤ w - wd + 1) : ∃ M1, fn_Ra_windowTop v (zI wd) (zI w) M = some (.inl (zI (maxF a (w - wd + 1 + 1) (w + 1) (a (w - wd + 1)))), M1) ∧ Off M M1 := by
  have hv := h.v
  have hn := h.n
  obtain ⟨g2, hd2, tl2, e1, e2, e3⟩ := c_queue_9 h hwd hw 2000 (fun i => (M 23 i.toNat).toInt) 0 0 0 ⟨by omega, by omega, by omega, fun k k1 k2 => by omega, fun k q k1 k2 k3 => by omega, fun x x1 x2 => by omega⟩ (by omega) (by omega) (fun e => by omega) (by omega)
  rw [S1_self] at e3
  have hse := h.s1 23 (by omega) g2
  refine ⟨S1 M 23 g2, ?_, Off.sc M 23 _ (by omega)⟩
  obtain ⟨q1, q2, q3, q4, q5, q6⟩ := e1
  have b := q4 hd2 (by omega) e2
  have em : maxF a (w - wd + 1 + 1) (w + 1) (a (w - wd + 1)) = a (g2 hd2) := by
    refine maxF_is ⟨g2 hd2, by omega, by omega, rfl⟩ (fun x x1 x2 => ?_)
    obtain ⟨k, k1, k2, k3, k4, k5⟩ := q6 x (by omega) (by omega)
    by_cases c : k = hd2
    · rw [c] at k4
      exact k4
    · have := k5 hd2 (by omega) (by omega)
      omega
  rw [em]
  unfold fn_Ra_windowTop fuel0
  simp (disch := omega) only [zlit, zI_add, zI_sub, zI_mul, zI_neg, zI_lt, zI_le, zI_eq, zI_cl, zI_max, zI_min, zI_abs, bnd_ok, bnd_ex, lm_eq, li_eq, grd_inb, grd_ser, grd_z, grd_lt, if_true, if_false, if_pos, if_neg, e3, fn_Ra_windowTop_91, rd23, hse.at]
theorem Q_windowMaximum {p w i : Int} (hp : -2147483648 ≤ p ∧ p < 2147483648) (hw : -2147483648 ≤ w ∧ w < 2147483648) (hi : -2147483648 ≤ i ∧ i < 2147483648) : AgR (fn_SA_windowMaximum (zI p) (zI w) (zI i)) [(0, 1), (1, 2), (3, 3)] (fn_Mo_windowMaximum (zI p) (zI w) (zI i)) := by
  refine Q_win (f := fn_SA_windowMaximum) (g := fn_Mo_windowMaximum) hp hw hi (fun M => rfl) (fun M N A H c c2 c3 c4 => ?_) (fun M q e => ?_)
  · have h := H p c.1 c.2
    have hn := h.n
    obtain ⟨M1, e1, o1⟩ := h.queue c3 c2 c4
    refine ⟨M1, ?_, o1⟩
    unfold fn_SA_windowMaximum
    simp (disch := omega) only [zlit, zI_add, zI_sub, zI_mul, zI_neg, zI_lt, zI_le, zI_eq, zI_cl, zI_max, zI_min, zI_abs, bnd_ok, bnd_ex, lm_eq, li_eq, grd_inb, grd_ser, grd_z, grd_lt, if_true, if_false, if_pos, if_neg, SA_win c h, e1]
  · unfold fn_SA_windowMaximum
    rw [e]
    rfl
