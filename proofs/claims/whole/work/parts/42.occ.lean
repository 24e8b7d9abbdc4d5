/-! OCCURRENCES -/
def mtB (t p : Int → Int) (q x : Int) : Bool := al (fun j => decide (t (x + j) = p j)) 0 q
theorem cntF_end {p : Int → Bool} {i j s : Int} (h : i ≤ j) : cntF p i (j + 1) s = cntF p i j s + b01 (p j) := by
  unfold cntF
  rw [lp_end h]
theorem mtB_suf {t p : Int → Int} {e q : Int} (hq : 0 ≤ q) (he : q ≤ e) : mtB t p q (e - q) = true ↔ suf p t e q := by
  unfold mtB
  rw [al_iff]
  exact ⟨fun h => ⟨hq, he, fun j j1 j2 => (of_decide_eq_true (h j j1 j2)).symm⟩, fun h j j1 j2 => decide_eq_true (h.2.2 j j1 j2).symm⟩
theorem c_stands_2 {M : Mm} {v w : Nat} {n q : Int} {t p : Int → Int} (h : Ser M v n t) (h' : Ser M w q p) {x : Int} (hx : 0 ≤ x ∧ x + q ≤ n) : ∀ (k : Nat) (j : Int), 0 ≤ j → j ≤ q → q - j < k → fn_Pa_standsAt_2 v w (zI x) k (zI j) M = some (.inl (zI (b01 (al (fun j => decide (t (x + j) = p j)) j q))), M) := by
  have hv := h.v
  have hn := h.n
  have hw := h'.v
  have hq := h'.n
  intro k
  induction k with
  | zero => intros; omega
  | succ k ih =>
    intro j h0 h1 h2
    have b1 := h.b (x + j)
    have b2 := h'.b j
    rw [fn_Pa_standsAt_2]
    by_cases c : q ≤ j
    · simp (disch := omega) only [zlit, zI_add, zI_sub, zI_mul, zI_neg, zI_lt, zI_le, zI_eq, zI_cl, zI_max, zI_min, zI_abs, bnd_ok, bnd_ex, lm_eq, li_eq, grd_inb, grd_ser, grd_z, grd_lt, if_true, if_false, if_pos, if_neg, h'.size, al_stop, b01_true]
    · by_cases c2 : t (x + j) = p j
      · rw [ad_go (q := fun j => t (x + j) = p j) (i := j) (by omega) c2]
        simp (disch := omega) only [zlit, zI_add, zI_sub, zI_mul, zI_neg, zI_lt, zI_le, zI_eq, zI_cl, zI_max, zI_min, zI_abs, bnd_ok, bnd_ex, lm_eq, li_eq, grd_inb, grd_ser, grd_z, grd_lt, if_true, if_false, if_pos, if_neg, h'.size, h.at, h'.at]
        exact ih (j + 1) (by omega) (by omega) (by omega)
      · rw [ad_no (q := fun j => t (x + j) = p j) (i := j) (by omega) c2]
        simp (disch := omega) only [zlit, zI_add, zI_sub, zI_mul, zI_neg, zI_lt, zI_le, zI_eq, zI_cl, zI_max, zI_min, zI_abs, bnd_ok, bnd_ex, lm_eq, li_eq, grd_inb, grd_ser, grd_z, grd_lt, if_true, if_false, if_pos, if_neg, h'.size, h.at, h'.at, b01_false]
theorem c_scan_4 {M : Mm} {v w : Nat} {n q : Int} {t p : Int → Int} (h : Ser M v n t) (h' : Ser M w q p) (hq0 : 0 < q) : ∀ (k : Nat) (s x : Int), 0 ≤ x → x ≤ max 0 (n - q + 1) → max 0 (n - q + 1) - x < k → fn_Pa_placesByScan_4 v w k (zI s) (zI x) M = some (.inl (zI (cntF (mtB t p q) x (n - q + 1) s)), M) := by
  have hv := h.v
  have hn := h.n
  have hw := h'.v
  have hq := h'.n
  intro k
  induction k with
  | zero => intros; omega
  | succ k ih =>
    intro s x h0 h1 h2
    rw [fn_Pa_placesByScan_4]
    by_cases c : n < x + q
    · simp (disch := omega) only [zlit, zI_add, zI_sub, zI_mul, zI_neg, zI_lt, zI_le, zI_eq, zI_cl, zI_max, zI_min, zI_abs, bnd_ok, bnd_ex, lm_eq, li_eq, grd_inb, grd_ser, grd_z, grd_lt, if_true, if_false, if_pos, if_neg, h'.size, h.size, cd_stop]
    · have e : fn_Pa_standsAt v w (zI x) M = some (.inl (zI (b01 (mtB t p q x))), M) := by
        unfold fn_Pa_standsAt fuel0
        simp (disch := omega) only [zlit, zI_add, zI_sub, zI_mul, zI_neg, zI_lt, zI_le, zI_eq, zI_cl, zI_max, zI_min, zI_abs, bnd_ok, bnd_ex, lm_eq, li_eq, grd_inb, grd_ser, grd_z, grd_lt, if_true, if_false, if_pos, if_neg]
        exact c_stands_2 h h' ⟨h0, by omega⟩ 2000 0 (by omega) (by omega) (by omega)
      by_cases c2 : mtB t p q x = true
      · simp (disch := omega) only [zlit, zI_add, zI_sub, zI_mul, zI_neg, zI_lt, zI_le, zI_eq, zI_cl, zI_max, zI_min, zI_abs, bnd_ok, bnd_ex, lm_eq, li_eq, grd_inb, grd_ser, grd_z, grd_lt, if_true, if_false, if_pos, if_neg, h'.size, h.size, e, b01_t c2, fn_Pa_placesByScan_32]
        rw [ih (s + 1) (x + 1) (by omega) (by omega) (by omega), cb_y (i := x) (by omega) c2]
      · simp (disch := omega) only [zlit, zI_add, zI_sub, zI_mul, zI_neg, zI_lt, zI_le, zI_eq, zI_cl, zI_max, zI_min, zI_abs, bnd_ok, bnd_ex, lm_eq, li_eq, grd_inb, grd_ser, grd_z, grd_lt, if_true, if_false, if_pos, if_neg, h'.size, h.size, e, b01_f c2, fn_Pa_placesByScan_32]
        rw [ih (s + 0) (x + 1) (by omega) (by omega) (by omega), cb_n (i := x) (by omega) c2]
def occF (t p : Int → Int) (n q : Int) : Int := cntF (mtB t p q) 0 (n - q + 1) 0
theorem Ser.scan {M : Mm} {v w : Nat} {n q : Int} {t p : Int → Int} (h : Ser M v n t) (h' : Ser M w q p) (hq0 : 0 < q) : fn_Pa_placesByScan v w M = some (.inl (zI (occF t p n q)), M) := by
  have hv := h.v
  have hn := h.n
  have hw := h'.v
  have hq := h'.n
  unfold fn_Pa_placesByScan fuel0
  simp (disch := omega) only [zlit, zI_add, zI_sub, zI_mul, zI_neg, zI_lt, zI_le, zI_eq, zI_cl, zI_max, zI_min, zI_abs, bnd_ok, bnd_ex, lm_eq, li_eq, grd_inb, grd_ser, grd_z, grd_lt, if_true, if_false, if_pos, if_neg]
  exact c_scan_4 h h' hq0 2000 0 0 (by omega) (by omega) (by omega)
theorem c_places_13 {M : Mm} {v w : Nat} {n q : Int} {t p : Int → Int} (h : Ser M v n t) (h' : Ser M w q p) (hq0 : 0 < q) {g : Int → Int} (hg : ∀ m, 1 ≤ m → m ≤ q → LBo p m (g (m - 1))) : ∀ (k : Nat) (s mm i : Int), s = cntF (mtB t p q) 0 (i - q + 1) 0 → suf p t i mm → mm < q → (∀ d, suf p t i d → d < q → d ≤ mm) → 0 ≤ i → i ≤ n → n - i < k → fn_Pa_places_13 v w k (zI s) (zI mm) (zI i) (S1 M 27 g) = some (.inl (zI (occF t p n q)), S1 M 27 g) := by
  have hv := h.v
  have hn := h.n
  have hw := h'.v
  have hq := h'.n
  intro k
  induction k with
  | zero => intros; omega
  | succ k ih =>
    intro s mm i hs h1 h2 h3 h4 h5 h6
    have hse := h.s1 27 (by omega) g
    have hse' := h'.s1 27 (by omega) g
    rw [fn_Pa_places_13]
    by_cases c : n ≤ i
    · have e : i = n := by omega
      rw [e] at hs
      rw [show occF t p n q = s from hs.symm]
      simp (disch := omega) only [zlit, zI_add, zI_sub, zI_mul, zI_neg, zI_lt, zI_le, zI_eq, zI_cl, zI_max, zI_min, zI_abs, bnd_ok, bnd_ex, lm_eq, li_eq, grd_inb, grd_ser, grd_z, grd_lt, if_true, if_false, if_pos, if_neg, hse.size]
    · have hm0 := h1.1
      obtain ⟨r, e1, e2, e3, e4⟩ := h'.goOn (t := t) (g := g) (i := i) (B := q - 1) (k0 := mm) (h.b i) (fun m m1 m2 => hg m m1 (by omega)) (by omega) h1 (by omega)
      have hr0 := e2.1
      have hmax : ∀ c, suf p t (i + 1) c → c ≤ q → c ≤ r := fun c' hc' hl => by
        by_cases c3 : c' ≤ 0
        · omega
        · have := suf_back hc' (by omega)
          have := h3 (c' - 1) this.1 (by omega)
          exact e4 c' hc' (by omega)
      have hcnt : cntF (mtB t p q) 0 (i + 1 - q + 1) 0 = s + (if r = q then 1 else 0) := by
        by_cases c2 : q ≤ i + 1
        · rw [show i + 1 - q + 1 = (i - q + 1) + 1 by omega, cntF_end (by omega), ← hs]
          have hb := mtB_suf (t := t) (p := p) (e := i + 1) (q := q) (by omega) c2
          rw [show i + 1 - q = i - q + 1 by omega] at hb
          by_cases c3 : r = q
          · rw [if_pos c3, b01_t (hb.mpr (by rw [← c3]; exact e2))]
          · rw [if_neg c3, b01_f (fun z => c3 (by have := hmax q (hb.mp z) (by omega); omega))]
        · have hrq : r ≠ q := by have := e2.2.1; omega
          rw [if_neg hrq, hs, cd_stop (by omega), cd_stop (by omega)]
          rfl
      by_cases c2 : r = q
      · obtain ⟨⟨l1, l2⟩, l3⟩ := hg q (by omega) (by omega)
        rw [if_pos c2] at hcnt
        rw [c2] at e1 e2
        have l0 := l1.1
        have := ih (s + 1) (g (q - 1)) (i + 1) hcnt.symm (suf_out e2 l1) l2 (fun d d1 d2 => l3 d (suf_in e2 d1 (by omega)) d2) (by omega) (by omega) (by omega)
        simp (disch := omega) only [zlit, zI_add, zI_sub, zI_mul, zI_neg, zI_lt, zI_le, zI_eq, zI_cl, zI_max, zI_min, zI_abs, bnd_ok, bnd_ex, lm_eq, li_eq, grd_inb, grd_ser, grd_z, grd_lt, if_true, if_false, if_pos, if_neg, hse.size, hse.at, e1, hse'.size, rd27, fn_Pa_places_62]
        exact this
      · rw [if_neg c2, Int.add_zero] at hcnt
        have := ih s r (i + 1) hcnt.symm e2 (by omega) (fun d d1 d2 => hmax d d1 (by omega)) (by omega) (by omega) (by omega)
        simp (disch := omega) only [zlit, zI_add, zI_sub, zI_mul, zI_neg, zI_lt, zI_le, zI_eq, zI_cl, zI_max, zI_min, zI_abs, bnd_ok, bnd_ex, lm_eq, li_eq, grd_inb, grd_ser, grd_z, grd_lt, if_true, if_false, if_pos, if_neg, hse.size, hse.at, e1, hse'.size, fn_Pa_places_62]
        exact this
theorem Ser.places {M : Mm} {v w : Nat} {n q : Int} {t p : Int → Int} (h : Ser M v n t) (h' : Ser M w q p) (hq0 : 0 < q) : ∃ M1, fn_Pa_places v w M = some (.inl (zI (occF t p n q)), M1) ∧ Off M M1 := by
  have hv := h.v
  have hn := h.n
  have hw := h'.v
  have hq := h'.n
  obtain ⟨g, e1, e2⟩ := h'.borders hq0
  refine ⟨S1 M 27 g, ?_, Off.sc M 27 _ (by omega)⟩
  unfold fn_Pa_places fuel0
  simp (disch := omega) only [zlit, zI_add, zI_sub, zI_mul, zI_neg, zI_lt, zI_le, zI_eq, zI_cl, zI_max, zI_min, zI_abs, bnd_ok, bnd_ex, lm_eq, li_eq, grd_inb, grd_ser, grd_z, grd_lt, if_true, if_false, if_pos, if_neg, e1]
  exact c_places_13 h h' hq0 e2 2000 0 0 0 (by rw [cd_stop (by omega)]) (suf_0 (by omega)) hq0 (fun d d1 d2 => d1.2.1) (by omega) (by omega) (by omega)
theorem m_there_3 {M : Mm} {v w n q : Int} {t p : Int → Int} (h : Mse M v n t) (h' : Mse M w q p) {x : Int} (hx : 0 ≤ x ∧ x + q ≤ n) : ∀ (k : Nat) (j : Int), 0 ≤ j → j ≤ q → q - j < k → fn_Mo_isThere_3 (zI v) (zI w) (zI x) k (zI j) M = some (.inl (zI (b01 (al (fun j => decide (t (x + j) = p j)) j q))), M) := by
  have hv := h.s
  have hn := h.n
  have hw := h'.s
  have hq := h'.n
  intro k
  induction k with
  | zero => intros; omega
  | succ k ih =>
    intro j h0 h1 h2
    have b1 := h.b (x + j)
    have b2 := h'.b j
    rw [fn_Mo_isThere_3]
    by_cases c : q ≤ j
    · simp (disch := omega) only [zlit, zI_add, zI_sub, zI_mul, zI_neg, zI_lt, zI_le, zI_eq, zI_cl, zI_max, zI_min, zI_abs, bnd_ok, bnd_ex, lm_eq, li_eq, grd_inb, grd_ser, grd_z, grd_lt, if_true, if_false, if_pos, if_neg, h'.many, al_stop, b01_true]
    · by_cases c2 : t (x + j) = p j
      · rw [ad_go (q := fun j => t (x + j) = p j) (i := j) (by omega) c2]
        simp (disch := omega) only [zlit, zI_add, zI_sub, zI_mul, zI_neg, zI_lt, zI_le, zI_eq, zI_cl, zI_max, zI_min, zI_abs, bnd_ok, bnd_ex, lm_eq, li_eq, grd_inb, grd_ser, grd_z, grd_lt, if_true, if_false, if_pos, if_neg, h'.many, h.at, h'.at]
        exact ih (j + 1) (by omega) (by omega) (by omega)
      · rw [ad_no (q := fun j => t (x + j) = p j) (i := j) (by omega) c2]
        simp (disch := omega) only [zlit, zI_add, zI_sub, zI_mul, zI_neg, zI_lt, zI_le, zI_eq, zI_cl, zI_max, zI_min, zI_abs, bnd_ok, bnd_ex, lm_eq, li_eq, grd_inb, grd_ser, grd_z, grd_lt, if_true, if_false, if_pos, if_neg, h'.many, h.at, h'.at, b01_false]
theorem m_places_49 {M : Mm} {v w n q : Int} {t p : Int → Int} (h : Mse M v n t) (h' : Mse M w q p) (hq0 : 0 < q) : ∀ (k : Nat) (s x : Int), 0 ≤ x → x ≤ max 0 (n - q + 1) → max 0 (n - q + 1) - x < k → fn_Mo_places_49 (zI v) (zI w) k (zI s) (zI x) M = some (.inl (zI (cntF (mtB t p q) x (n - q + 1) s)), M) := by
  have hv := h.s
  have hn := h.n
  have hw := h'.s
  have hq := h'.n
  intro k
  induction k with
  | zero => intros; omega
  | succ k ih =>
    intro s x h0 h1 h2
    rw [fn_Mo_places_49]
    by_cases c : n < x + q
    · simp (disch := omega) only [zlit, zI_add, zI_sub, zI_mul, zI_neg, zI_lt, zI_le, zI_eq, zI_cl, zI_max, zI_min, zI_abs, bnd_ok, bnd_ex, lm_eq, li_eq, grd_inb, grd_ser, grd_z, grd_lt, if_true, if_false, if_pos, if_neg, h'.many, h.many, cd_stop]
    · have e : fn_Mo_isThere (zI v) (zI w) (zI x) M = some (.inl (zI (b01 (mtB t p q x))), M) := by
        unfold fn_Mo_isThere fuel0
        simp (disch := omega) only [zlit, zI_add, zI_sub, zI_mul, zI_neg, zI_lt, zI_le, zI_eq, zI_cl, zI_max, zI_min, zI_abs, bnd_ok, bnd_ex, lm_eq, li_eq, grd_inb, grd_ser, grd_z, grd_lt, if_true, if_false, if_pos, if_neg]
        exact m_there_3 h h' ⟨h0, by omega⟩ 2000 0 (by omega) (by omega) (by omega)
      by_cases c2 : mtB t p q x = true
      · simp (disch := omega) only [zlit, zI_add, zI_sub, zI_mul, zI_neg, zI_lt, zI_le, zI_eq, zI_cl, zI_max, zI_min, zI_abs, bnd_ok, bnd_ex, lm_eq, li_eq, grd_inb, grd_ser, grd_z, grd_lt, if_true, if_false, if_pos, if_neg, h'.many, h.many, e, b01_t c2, fn_Mo_places_82]
        rw [ih (s + 1) (x + 1) (by omega) (by omega) (by omega), cb_y (i := x) (by omega) c2]
      · simp (disch := omega) only [zlit, zI_add, zI_sub, zI_mul, zI_neg, zI_lt, zI_le, zI_eq, zI_cl, zI_max, zI_min, zI_abs, bnd_ok, bnd_ex, lm_eq, li_eq, grd_inb, grd_ser, grd_z, grd_lt, if_true, if_false, if_pos, if_neg, h'.many, h.many, e, b01_f c2, fn_Mo_places_82]
        rw [ih (s + 0) (x + 1) (by omega) (by omega) (by omega), cb_n (i := x) (by omega) c2]
theorem Q_occ {f g : Int32 → Int32 → Mm → Rs Int32} {p q : Int} (hp : -2147483648 ≤ p ∧ p < 2147483648) (hq : -2147483648 ≤ q ∧ q < 2147483648)
    (hg : ∀ M, g (zI p) (zI q) M = bnd (fn_Mo_places (zI p) (zI q) M) (fun r M => some (.inl r, M)))
    (hf1 : ∀ M N A, Cs N A M → 0 ≤ p ∧ p < 4 → 0 ≤ q ∧ q < 4 → 0 < N q → CR (f (zI p) (zI q) M) M (.inl (zI (occF (A p) (A q) (N p) (N q)))))
    (hf2 : ∀ M, fn_SA_seriesIn (zI p) M = some (.inr 0, M) → f (zI p) (zI q) M = some (.inr 0, M))
    (hf3 : ∀ M c, 0 ≤ p ∧ p < 4 → fn_SA_filledSeries (zI q) M = some (.inr c, M) → f (zI p) (zI q) M = some (.inr c, M)) : AgR (f (zI p) (zI q)) [(0, 1), (2, 2)] (g (zI p) (zI q)) := by
  intro M N A H K
  by_cases c : 0 ≤ p ∧ p < 4
  · by_cases c2 : 0 ≤ q ∧ q < 4
    · have h' := H q c2.1 c2.2
      have hn := h'.n
      by_cases c3 : N q = 0
      · refine .inr ⟨2, 0, 2, CR.of (hf3 M 2 c (SA_fil_2 c2 h' c3)), rfl, by decide, MR.of (fun M' K' => ?_)⟩
        have k := K' p c.1 c.2
        have k' := K' q c2.1 c2.2
        rw [hg]
        unfold fn_Mo_places
        simp (disch := omega) only [zlit, zI_add, zI_sub, zI_mul, zI_neg, zI_lt, zI_le, zI_eq, zI_cl, zI_max, zI_min, zI_abs, bnd_ok, bnd_ex, lm_eq, li_eq, grd_inb, grd_ser, grd_z, grd_lt, if_true, if_false, if_pos, if_neg, mo_slot, k'.many, fn_Mo_places_32, mset_at]
      · refine .inl ⟨_, hf1 M N A H c c2 (by omega), MR.of (fun M' K' => ?_)⟩
        have k := K' p c.1 c.2
        have k' := K' q c2.1 c2.2
        have k2 := k.set (k := 32) (by decide) 6 (zI 0)
        have k2' := k'.set (k := 32) (by decide) 6 (zI 0)
        have hn1 := k.n
        have e := m_places_49 k2 k2' (by omega) 2000 0 0 (by omega) (by omega) (by omega)
        rw [hg]
        unfold fn_Mo_places
        simp (disch := omega) only [zlit, zI_add, zI_sub, zI_mul, zI_neg, zI_lt, zI_le, zI_eq, zI_cl, zI_max, zI_min, zI_abs, bnd_ok, bnd_ex, lm_eq, li_eq, grd_inb, grd_ser, grd_z, grd_lt, if_true, if_false, if_pos, if_neg, mo_slot, k'.many, fn_Mo_places_32, mset_at, fuel0, e]
        rfl
    · refine .inr ⟨0, 0, 1, CR.of (hf3 M 0 c (SA_fil_0 hq c2)), rfl, by decide, MR.of (fun M' K' => ?_)⟩
      rw [hg]
      unfold fn_Mo_places
      simp (disch := omega) only [zlit, zI_add, zI_sub, zI_mul, zI_neg, zI_lt, zI_le, zI_eq, zI_cl, zI_max, zI_min, zI_abs, bnd_ok, bnd_ex, lm_eq, li_eq, grd_inb, grd_ser, grd_z, grd_lt, if_true, if_false, if_pos, if_neg, mo_slot, fn_Mo_places_15, fn_Mo_places_32, mset_at]
  · refine .inr ⟨0, 0, 1, CR.of (hf2 M (SA_in_no hp c)), rfl, by decide, MR.of (fun M' K' => ?_)⟩
    rw [hg]
    unfold fn_Mo_places
    simp (disch := omega) only [zlit, zI_add, zI_sub, zI_mul, zI_neg, zI_lt, zI_le, zI_eq, zI_cl, zI_max, zI_min, zI_abs, bnd_ok, bnd_ex, lm_eq, li_eq, grd_inb, grd_ser, grd_z, grd_lt, if_true, if_false, if_pos, if_neg, mo_slot, fn_Mo_places_15, fn_Mo_places_32, mset_at]
theorem Q_occurrences {p q : Int} (hp : -2147483648 ≤ p ∧ p < 2147483648) (hq : -2147483648 ≤ q ∧ q < 2147483648) : AgR (fn_SA_occurrences (zI p) (zI q)) [(0, 1), (2, 2)] (fn_Mo_occurrences (zI p) (zI q)) := by
  refine Q_occ (f := fn_SA_occurrences) (g := fn_Mo_occurrences) hp hq (fun M => rfl) (fun M N A H c c2 h0 => ?_) (fun M e => ?_) (fun M c hc e => ?_)
  · have h := H p c.1 c.2
    have h' := H q c2.1 c2.2
    obtain ⟨M1, e1, o1⟩ := h.places h' h0
    refine ⟨M1, ?_, o1⟩
    unfold fn_SA_occurrences
    simp (disch := omega) only [zlit, zI_add, zI_sub, zI_mul, zI_neg, zI_lt, zI_le, zI_eq, zI_cl, zI_max, zI_min, zI_abs, bnd_ok, bnd_ex, lm_eq, li_eq, grd_inb, grd_ser, grd_z, grd_lt, if_true, if_false, if_pos, if_neg, SA_in, SA_fil c2 h', e1]
  · unfold fn_SA_occurrences
    rw [e]
    rfl
  · unfold fn_SA_occurrences
    simp (disch := omega) only [zlit, zI_add, zI_sub, zI_mul, zI_neg, zI_lt, zI_le, zI_eq, zI_cl, zI_max, zI_min, zI_abs, bnd_ok, bnd_ex, lm_eq, li_eq, grd_inb, grd_ser, grd_z, grd_lt, if_true, if_false, if_pos, if_neg, SA_in, e]
theorem Q_occurrencesByScan {p q : Int} (hp : -2147483648 ≤ p ∧ p < 2147483648) (hq : -2147483648 ≤ q ∧ q < 2147483648) : AgR (fn_SA_occurrencesByScan (zI p) (zI q)) [(0, 1), (2, 2)] (fn_Mo_occurrencesByScan (zI p) (zI q)) := by
  refine Q_occ (f := fn_SA_occurrencesByScan) (g := fn_Mo_occurrencesByScan) hp hq (fun M => rfl) (fun M N A H c c2 h0 => CR.of ?_) (fun M e => ?_) (fun M c hc e => ?_)
  · have h := H p c.1 c.2
    have h' := H q c2.1 c2.2
    unfold fn_SA_occurrencesByScan
    simp (disch := omega) only [zlit, zI_add, zI_sub, zI_mul, zI_neg, zI_lt, zI_le, zI_eq, zI_cl, zI_max, zI_min, zI_abs, bnd_ok, bnd_ex, lm_eq, li_eq, grd_inb, grd_ser, grd_z, grd_lt, if_true, if_false, if_pos, if_neg, SA_in, SA_fil c2 h', h.scan h']
  · unfold fn_SA_occurrencesByScan
    rw [e]
    rfl
  · unfold fn_SA_occurrencesByScan
    simp (disch := omega) only [zlit, zI_add, zI_sub, zI_mul, zI_neg, zI_lt, zI_le, zI_eq, zI_cl, zI_max, zI_min, zI_abs, bnd_ok, bnd_ex, lm_eq, li_eq, grd_inb, grd_ser, grd_z, grd_lt, if_true, if_false, if_pos, if_neg, SA_in, e]
