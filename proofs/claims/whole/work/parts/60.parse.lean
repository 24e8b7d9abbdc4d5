/-! A PROGRAM'S TEXT: one reading of it, and the class's side of that reading -/
def pzc (cnt : Int) (tx : Int → Int) (i : Int) : Int := if 0 ≤ i ∧ i < cnt then tx i else 0
def pzd (cnt : Int) (tx : Int → Int) (i : Int) : Int := if 48 ≤ pzc cnt tx i ∧ pzc cnt tx i ≤ 57 then pzc cnt tx i - 48 else -1
def pzI (cnt : Int) (tx : Int → Int) (s p : Int) : Bool × Int × Int := if pzd cnt tx p = -1 then (false, p, 0) else if pzd cnt tx (p + 1) = -1 then (true, p + 1, s * pzd cnt tx p) else (true, p + 2, s * (10 * pzd cnt tx p + pzd cnt tx (p + 1)))
def pzD (cnt : Int) (tx : Int → Int) (p : Int) : Bool × Int × Int := if pzd cnt tx p = -1 then (false, p, 0) else (true, p + 1, pzd cnt tx p)
def pzN (cnt : Int) (tx : Int → Int) (p : Int) : Bool × Int × Int := if pzc cnt tx p = 45 then pzI cnt tx (-1) (p + 1) else pzI cnt tx 1 p
def pzL (cnt : Int) (tx : Int → Int) (c p : Int) : Bool × Int × Int := if pzc cnt tx p = c then (true, p + 1, 0) else (false, p, 0)
def pzP (cnt : Int) (tx : Int → Int) (c p : Int) : Bool × Int × Int := if c = 68 then pzD cnt tx p else if c = 73 then pzI cnt tx 1 p else if c = 78 then pzN cnt tx p else pzL cnt tx c p
def pzk (c : Int) : Bool := decide (c = 68 ∨ c = 73 ∨ c = 78)
theorem pzc_b {cnt : Int} {tx : Int → Int} (h : ∀ i, 32 ≤ tx i ∧ tx i ≤ 126) (i : Int) : 0 ≤ pzc cnt tx i ∧ pzc cnt tx i ≤ 126 := by
  have := h i
  unfold pzc
  by_cases c : 0 ≤ i ∧ i < cnt
  · rw [if_pos c]; omega
  · rw [if_neg c]; omega
theorem pzc_in {cnt : Int} {tx : Int → Int} {i : Int} (h : pzc cnt tx i ≠ 0) : 0 ≤ i ∧ i < cnt := by
  unfold pzc at h
  by_cases c : 0 ≤ i ∧ i < cnt
  · exact c
  · rw [if_neg c] at h
    exact absurd rfl h
theorem pzd_b {cnt : Int} {tx : Int → Int} (i : Int) : -1 ≤ pzd cnt tx i ∧ pzd cnt tx i ≤ 9 := by
  unfold pzd
  by_cases c : 48 ≤ pzc cnt tx i ∧ pzc cnt tx i ≤ 57
  · rw [if_pos c]; omega
  · rw [if_neg c]; omega
theorem pzd_in {cnt : Int} {tx : Int → Int} {i : Int} (h : pzd cnt tx i ≠ -1) : 0 ≤ i ∧ i < cnt := by
  unfold pzd at h
  by_cases c : 48 ≤ pzc cnt tx i ∧ pzc cnt tx i ≤ 57
  · exact pzc_in (cnt := cnt) (tx := tx) (i := i) (by omega)
  · rw [if_neg c] at h
    exact absurd rfl h
theorem pz_no {p cnt : Int} (h : p ≤ cnt) : p ≤ ((false, p, 0) : Bool × Int × Int).2.1 ∧ ((false, p, 0) : Bool × Int × Int).2.1 ≤ cnt ∧ -99 ≤ ((false, p, 0) : Bool × Int × Int).2.2 ∧ ((false, p, 0) : Bool × Int × Int).2.2 ≤ 99 ∧ (((false, p, 0) : Bool × Int × Int).1 = true → p < ((false, p, 0) : Bool × Int × Int).2.1) := ⟨Int.le_refl _, h, (by decide : (-99 : Int) ≤ 0), (by decide : (0 : Int) ≤ 99), fun h => Bool.noConfusion h⟩
theorem pz_yes {p q v cnt : Int} (h1 : p < q) (h2 : q ≤ cnt) (h3 : -99 ≤ v ∧ v ≤ 99) : p ≤ ((true, q, v) : Bool × Int × Int).2.1 ∧ ((true, q, v) : Bool × Int × Int).2.1 ≤ cnt ∧ -99 ≤ ((true, q, v) : Bool × Int × Int).2.2 ∧ ((true, q, v) : Bool × Int × Int).2.2 ≤ 99 ∧ (((true, q, v) : Bool × Int × Int).1 = true → p < ((true, q, v) : Bool × Int × Int).2.1) := ⟨Int.le_of_lt h1, h2, h3.1, h3.2, fun _ => h1⟩
theorem pzI_b {cnt : Int} {tx : Int → Int} {s p : Int} (hs : s = 1 ∨ s = -1) (hp : 0 ≤ p ∧ p ≤ cnt) : p ≤ (pzI cnt tx s p).2.1 ∧ (pzI cnt tx s p).2.1 ≤ cnt ∧ -99 ≤ (pzI cnt tx s p).2.2 ∧ (pzI cnt tx s p).2.2 ≤ 99 ∧ ((pzI cnt tx s p).1 = true → p < (pzI cnt tx s p).2.1) := by
  have b1 := pzd_b (cnt := cnt) (tx := tx) p
  have b2 := pzd_b (cnt := cnt) (tx := tx) (p + 1)
  unfold pzI
  by_cases c : pzd cnt tx p = -1
  · rw [if_pos c]
    exact pz_no hp.2
  · have i1 := pzd_in c
    rw [if_neg c]
    by_cases c2 : pzd cnt tx (p + 1) = -1
    · rw [if_pos c2]
      refine pz_yes (by omega) (by omega) ?_
      rcases hs with rfl | rfl <;> omega
    · have i2 := pzd_in c2
      rw [if_neg c2]
      refine pz_yes (by omega) (by omega) ?_
      rcases hs with rfl | rfl <;> omega
theorem pzP_b {cnt : Int} {tx : Int → Int} {c p : Int} (hc : c ≠ 0) (hp : 0 ≤ p ∧ p ≤ cnt) : p ≤ (pzP cnt tx c p).2.1 ∧ (pzP cnt tx c p).2.1 ≤ cnt ∧ -99 ≤ (pzP cnt tx c p).2.2 ∧ (pzP cnt tx c p).2.2 ≤ 99 ∧ ((pzP cnt tx c p).1 = true → p < (pzP cnt tx c p).2.1) := by
  unfold pzP
  by_cases c1 : c = 68
  · rw [if_pos c1]
    have b1 := pzd_b (cnt := cnt) (tx := tx) p
    unfold pzD
    by_cases d : pzd cnt tx p = -1
    · rw [if_pos d]
      exact pz_no hp.2
    · have i1 := pzd_in d
      rw [if_neg d]
      exact pz_yes (by omega) (by omega) (by omega)
  · rw [if_neg c1]
    by_cases c2 : c = 73
    · rw [if_pos c2]
      exact pzI_b (.inl rfl) hp
    · rw [if_neg c2]
      by_cases c3 : c = 78
      · rw [if_pos c3]
        unfold pzN
        by_cases d : pzc cnt tx p = 45
        · rw [if_pos d]
          have i1 := pzc_in (cnt := cnt) (tx := tx) (i := p) (by omega)
          have h := pzI_b (cnt := cnt) (tx := tx) (s := -1) (p := p + 1) (.inr rfl) (by omega)
          exact ⟨by omega, h.2.1, h.2.2.1, h.2.2.2.1, fun _ => by omega⟩
        · rw [if_neg d]
          exact pzI_b (.inl rfl) hp
      · rw [if_neg c3]
        unfold pzL
        by_cases d : pzc cnt tx p = c
        · rw [if_pos d]
          have i1 := pzc_in (cnt := cnt) (tx := tx) (i := p) (by omega)
          exact pz_yes (by omega) (by omega) (by omega)
        · rw [if_neg d]
          exact pz_no hp.2
/-- the class while it reads: text, m arguments kept, greatest place given up at -/
def CP (cnt : Int) (tx : Int → Int) (m e : Int) (ag : Int → Int) (M : Mm) : Prop := ICt cnt tx M ∧ (0 ≤ m ∧ m ≤ 3) ∧ M 16 3 = zI m ∧ (-1 ≤ e ∧ e ≤ 60) ∧ M 16 5 = zI e ∧ ∀ i, 0 ≤ i → i < m → M 18 i.toNat = zI (ag i)
def FI (M M1 : Mm) : Prop := ∀ j, j ≠ 16 → j ≠ 18 → M1 j = M j
theorem In_sign {cnt : Int} {tx : Int → Int} {M : Mm} (h : ICt cnt tx M) {p : Int} (hp : -1000 ≤ p ∧ p ≤ 1000) : fn_In_signAt (zI p) M = some (.inl (zI (pzc cnt tx p)), M) := by
  obtain ⟨t1, t2, t3, t4⟩ := h
  unfold fn_In_signAt pzc
  by_cases c : 0 ≤ p ∧ p < cnt
  · have t5 := t4 p
    have nc := (nar_c (v := tx p) (by omega)).1
    rw [if_pos c]
    simp (disch := omega) only [zlit, zI_add, zI_sub, zI_mul, zI_neg, zI_lt, zI_le, zI_eq, zI_cl, zI_max, zI_min, zI_abs, bnd_ok, bnd_ex, lm_eq, li_eq, grd_inb, grd_ser, grd_z, grd_lt, if_true, if_false, if_pos, if_neg, t2, t3 p c.1 c.2]
    exact grd_t nc
  · rw [if_neg c]
    by_cases c2 : p < 0
    · simp (disch := omega) only [zlit, zI_add, zI_sub, zI_mul, zI_neg, zI_lt, zI_le, zI_eq, zI_cl, zI_max, zI_min, zI_abs, bnd_ok, bnd_ex, lm_eq, li_eq, grd_inb, grd_ser, grd_z, grd_lt, if_true, if_false, if_pos, if_neg]
    · simp (disch := omega) only [zlit, zI_add, zI_sub, zI_mul, zI_neg, zI_lt, zI_le, zI_eq, zI_cl, zI_max, zI_min, zI_abs, bnd_ok, bnd_ex, lm_eq, li_eq, grd_inb, grd_ser, grd_z, grd_lt, if_true, if_false, if_pos, if_neg, t2]
theorem In_digit {cnt : Int} {tx : Int → Int} {M : Mm} (h : ICt cnt tx M) {p : Int} (hp : -1000 ≤ p ∧ p ≤ 1000) : fn_In_digitAt (zI p) M = some (.inl (zI (pzd cnt tx p)), M) := by
  have hb := pzc_b (cnt := cnt) h.2.2.2 p
  unfold fn_In_digitAt pzd
  rw [In_sign h hp, bnd_ok]
  by_cases c : pzc cnt tx p < 48
  · simp (disch := omega) only [zlit, zI_add, zI_sub, zI_mul, zI_neg, zI_lt, zI_le, zI_eq, zI_cl, zI_max, zI_min, zI_abs, bnd_ok, bnd_ex, lm_eq, li_eq, grd_inb, grd_ser, grd_z, grd_lt, if_true, if_false, if_pos, if_neg]
  · by_cases c2 : 57 < pzc cnt tx p
    · simp (disch := omega) only [zlit, zI_add, zI_sub, zI_mul, zI_neg, zI_lt, zI_le, zI_eq, zI_cl, zI_max, zI_min, zI_abs, bnd_ok, bnd_ex, lm_eq, li_eq, grd_inb, grd_ser, grd_z, grd_lt, if_true, if_false, if_pos, if_neg]
    · simp (disch := omega) only [zlit, zI_add, zI_sub, zI_mul, zI_neg, zI_lt, zI_le, zI_eq, zI_cl, zI_max, zI_min, zI_abs, bnd_ok, bnd_ex, lm_eq, li_eq, grd_inb, grd_ser, grd_z, grd_lt, if_true, if_false, if_pos, if_neg]
theorem CP.give {cnt : Int} {tx : Int → Int} {m e : Int} {ag : Int → Int} {M : Mm} (h : CP cnt tx m e ag M) {p : Int} (hp : 0 ≤ p ∧ p ≤ 60) : ∃ M1, fn_In_giveUp (zI p) M = some (.inl (zI (-1)), M1) ∧ CP cnt tx m (max e p) ag M1 ∧ FI M M1 := by
  obtain ⟨h1, h2, h3, h4, h5, h6⟩ := h
  refine ⟨mset M 16 5 (zI (max e p)), ?_, ⟨h1.to (by rw [mset_oth _ _ _ _ (by decide)]) (mset_ne _ _ _ (by decide)), h2, by rw [mset_oth _ _ _ _ (by decide)]; exact h3, by omega, mset_at _ _ _ _, fun i i0 i1 => by rw [mset_ne _ _ _ (by decide)]; exact h6 i i0 i1⟩, fun j j1 j2 => mset_ne _ _ _ j1⟩
  unfold fn_In_giveUp
  simp (disch := omega) only [zlit, zI_add, zI_sub, zI_mul, zI_neg, zI_lt, zI_le, zI_eq, zI_cl, zI_max, zI_min, zI_abs, bnd_ok, bnd_ex, lm_eq, li_eq, grd_inb, grd_ser, grd_z, grd_lt, if_true, if_false, if_pos, if_neg, h5]
theorem CP.keep {cnt : Int} {tx : Int → Int} {m e : Int} {ag : Int → Int} {M : Mm} (h : CP cnt tx m e ag M) (hm : m < 3) {v : Int} (q : Int) : ∃ M1, fn_In_keepArgument (zI v) (zI q) M = some (.inl (zI q), M1) ∧ CP cnt tx (m + 1) e (upI ag m v) M1 ∧ FI M M1 := by
  obtain ⟨h1, h2, h3, h4, h5, h6⟩ := h
  refine ⟨mset (mset M 18 m.toNat (zI v)) 16 3 (zI (m + 1)), ?_, ⟨h1.to (by rw [mset_oth _ _ _ _ (by decide), mset_ne _ _ _ (by decide)]) (by rw [mset_ne _ _ _ (by decide), mset_ne _ _ _ (by decide)]), by omega, mset_at _ _ _ _, h4, by rw [mset_oth _ _ _ _ (by decide), mset_ne _ _ _ (by decide)]; exact h5, fun i i0 i1 => ?_⟩, fun j j1 j2 => by rw [mset_ne _ _ _ j1, mset_ne _ _ _ j2]⟩
  · unfold fn_In_keepArgument
    have q1 : mset M 18 m.toNat (zI v) 16 3 = zI m := by rw [mset_ne _ _ _ (by decide)]; exact h3
    rw [h3, wr (k := 18) (L := 3) (by decide) (by decide) (by omega), bnd_ok, q1]
    simp (disch := omega) only [zlit, zI_add, zI_sub, zI_mul, zI_neg, zI_lt, zI_le, zI_eq, zI_cl, zI_max, zI_min, zI_abs, bnd_ok, bnd_ex, lm_eq, li_eq, grd_inb, grd_ser, grd_z, grd_lt, if_true, if_false, if_pos, if_neg]
  · rw [mset_ne _ _ _ (by decide)]
    unfold upI
    by_cases c : i = m
    · rw [if_pos c, c, mset_at]
    · rw [if_neg c, mset_oth _ _ _ _ (by omega)]
      exact h6 i i0 (by omega)
/-- what a reader of the class does at a place, against the one reading -/
def RP (x : Rs Int32) (cnt : Int) (tx : Int → Int) (m e : Int) (ag : Int → Int) (M : Mm) (r : Bool × Int × Int) (kp : Bool) : Prop := (r.1 = true → ∃ M1, x = some (.inl (zI r.2.1), M1) ∧ CP cnt tx (if kp = true then m + 1 else m) e (if kp = true then upI ag m r.2.2 else ag) M1 ∧ FI M M1) ∧ (r.1 = false → ∃ M1, x = some (.inl (zI (-1)), M1) ∧ CP cnt tx m (max e r.2.1) ag M1 ∧ FI M M1)
theorem RP.no {x : Rs Int32} {cnt : Int} {tx : Int → Int} {m e : Int} {ag : Int → Int} {M : Mm} {p v : Int} {kp : Bool} (h : CP cnt tx m e ag M) (hp : 0 ≤ p ∧ p ≤ 60) (hx : x = fn_In_giveUp (zI p) M) : RP x cnt tx m e ag M (false, p, v) kp := by
  refine ⟨fun c => Bool.noConfusion c, fun _ => ?_⟩
  rw [hx]
  exact h.give hp
theorem RP.kept {x : Rs Int32} {cnt : Int} {tx : Int → Int} {m e : Int} {ag : Int → Int} {M : Mm} {q v : Int} (h : CP cnt tx m e ag M) (hm : m < 3) (hx : x = fn_In_keepArgument (zI v) (zI q) M) : RP x cnt tx m e ag M (true, q, v) true := by
  refine ⟨fun _ => ?_, fun c => Bool.noConfusion c⟩
  rw [hx]
  exact h.keep hm q
theorem bnd_id {x : Rs Int32} : bnd x (fun r M => some (.inl r, M)) = x := by
  unfold bnd
  cases x with
  | none => rfl
  | some z =>
    obtain ⟨o, M⟩ := z
    cases o with
    | inl r => rfl
    | inr q => rfl
theorem In_readDigit {cnt : Int} {tx : Int → Int} {m e : Int} {ag : Int → Int} {M : Mm} (h : CP cnt tx m e ag M) (hm : m < 3) {p : Int} (hp : 0 ≤ p ∧ p ≤ 60) : RP (fn_In_readDigit (zI p) M) cnt tx m e ag M (pzD cnt tx p) true := by
  have b1 := pzd_b (cnt := cnt) (tx := tx) p
  unfold pzD
  by_cases c : pzd cnt tx p = -1
  · rw [if_pos c]
    refine RP.no h hp ?_
    unfold fn_In_readDigit
    rw [In_digit h.1 (by omega), bnd_ok, c, if_pos (by decide), bnd_id]
  · rw [if_neg c]
    refine RP.kept h hm ?_
    unfold fn_In_readDigit
    rw [In_digit h.1 (by omega), bnd_ok, if_neg (by rw [show (-1 : Int32) = zI (-1) from rfl, zI_eq (by omega) (by omega)]; exact c), bnd_id, show (1 : Int32) = zI 1 from rfl, zI_add]
theorem In_readIndex {cnt : Int} {tx : Int → Int} {m e : Int} {ag : Int → Int} {M : Mm} (h : CP cnt tx m e ag M) (hm : m < 3) {p s : Int} (hp : 0 ≤ p ∧ p ≤ 60) : RP (fn_In_readIndex (zI p) (zI s) M) cnt tx m e ag M (pzI cnt tx s p) true := by
  have b1 := pzd_b (cnt := cnt) (tx := tx) p
  have b2 := pzd_b (cnt := cnt) (tx := tx) (p + 1)
  have q1 : ∀ z, -1 ≤ z ∧ z ≤ 9 → z ≠ -1 → ¬ zI z = -1 := fun z h0 h1 => by
    rw [show (-1 : Int32) = zI (-1) from rfl, zI_eq (by omega) (by omega)]
    exact h1
  have hx : fn_In_readIndex (zI p) (zI s) M = if zI (pzd cnt tx p) = -1 then (fn_In_readIndex_26 (zI p) (zI s) (zI (pzd cnt tx p)) M) else (if zI (pzd cnt tx (p + 1)) = -1 then (fn_In_readIndex_26 (zI p) (zI s) (zI (pzd cnt tx p)) M) else fn_In_keepArgument (zI (s * (10 * pzd cnt tx p + pzd cnt tx (p + 1)))) (zI (p + 2)) M) := by
    unfold fn_In_readIndex
    rw [In_digit h.1 (by omega), bnd_ok, show (1 : Int32) = zI 1 from rfl, zI_add, In_digit h.1 (by omega), bnd_ok, bnd_id, show (10 : Int32) = zI 10 from rfl, show (2 : Int32) = zI 2 from rfl, zI_mul, zI_add, zI_mul, zI_add]
  unfold pzI
  by_cases c : pzd cnt tx p = -1
  · rw [if_pos c]
    refine RP.no h hp ?_
    rw [hx, c, if_pos (by decide)]
    unfold fn_In_readIndex_26
    rw [if_pos (by decide), bnd_id]
  · rw [if_neg c]
    by_cases c2 : pzd cnt tx (p + 1) = -1
    · rw [if_pos c2]
      refine RP.kept h hm ?_
      rw [hx, if_neg (q1 _ b1 c), c2, if_pos (by decide)]
      unfold fn_In_readIndex_26
      rw [if_neg (q1 _ b1 c), bnd_id, zI_mul, show (1 : Int32) = zI 1 from rfl, zI_add]
    · rw [if_neg c2]
      refine RP.kept h hm ?_
      rw [hx, if_neg (q1 _ b1 c), if_neg (q1 _ b2 c2)]
theorem In_readPart {cnt : Int} {tx : Int → Int} {m e : Int} {ag : Int → Int} {M : Mm} (h : CP cnt tx m e ag M) {c p : Int} (hc : 0 < c ∧ c < 128) (hm : pzk c = true → m < 3) (hp : 0 ≤ p ∧ p ≤ cnt) : RP (fn_In_readPart (zI c) (zI p) M) cnt tx m e ag M (pzP cnt tx c p) (pzk c) := by
  have hcnt := h.1.1
  have ne : ∀ z, 0 ≤ z ∧ z < 128 → ∀ y, 0 ≤ y ∧ y < 128 → z ≠ y → ¬ zI z = zI y := fun z h0 y h2 h1 => by
    rw [zI_eq (by omega) (by omega)]
    exact h1
  have hb := pzc_b (cnt := cnt) h.1.2.2.2 p
  unfold fn_In_readPart pzP
  by_cases c1 : c = 68
  · have kp : pzk c = true := by rw [c1]; rfl
    rw [if_pos c1, kp, c1, if_pos (by decide), bnd_id]
    exact In_readDigit h (hm kp) (by omega)
  · rw [if_neg c1, if_neg (show ¬ zI c = 68 from ne c (by omega) 68 (by omega) c1)]
    by_cases c2 : c = 73
    · have kp : pzk c = true := by rw [c2]; rfl
      rw [if_pos c2, kp, c2, if_pos (by decide), bnd_id, show (1 : Int32) = zI 1 from rfl]
      exact In_readIndex (s := 1) h (hm kp) (by omega)
    · rw [if_neg c2, if_neg (show ¬ zI c = 73 from ne c (by omega) 73 (by omega) c2)]
      by_cases c3 : c = 78
      · have kp : pzk c = true := by rw [c3]; rfl
        rw [if_pos c3, kp, c3, if_pos (by decide), In_sign h.1 (by omega), bnd_ok]
        unfold pzN
        by_cases d : pzc cnt tx p = 45
        · have i1 := pzc_in (cnt := cnt) (tx := tx) (i := p) (by omega)
          rw [if_pos d, d, if_pos (by decide), bnd_id, show (1 : Int32) = zI 1 from rfl, zI_add, zI_neg]
          exact In_readIndex (s := -1) h (hm kp) (by omega)
        · rw [if_neg d, if_neg (show ¬ zI (pzc cnt tx p) = 45 from ne _ (by omega) 45 (by omega) d), bnd_id, show (1 : Int32) = zI 1 from rfl]
          exact In_readIndex (s := 1) h (hm kp) (by omega)
      · have kp : pzk c = false := decide_eq_false (by omega)
        rw [if_neg c3, if_neg (show ¬ zI c = 78 from ne c (by omega) 78 (by omega) c3), kp, In_sign h.1 (by omega), bnd_ok]
        unfold pzL
        by_cases d : pzc cnt tx p = c
        · rw [if_pos d, d, if_pos rfl]
          refine ⟨fun _ => ⟨M, ?_, h, fun _ _ _ => rfl⟩, fun c => Bool.noConfusion c⟩
          rw [show (1 : Int32) = zI 1 from rfl, zI_add]
        · rw [if_neg d, if_neg (ne _ (by omega) c (by omega) d)]
          refine RP.no h (by omega) ?_
          rw [bnd_id]
