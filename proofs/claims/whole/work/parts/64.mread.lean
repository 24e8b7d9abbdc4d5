/-! THE MODEL READS: letters, digits, numbers -/
def MP (cnt : Int) (tx : Int → Int) (p f : Int) (M : Mm) : Prop := (0 ≤ cnt ∧ cnt ≤ 60) ∧ (∀ i, 32 ≤ tx i ∧ tx i ≤ 126) ∧ (0 ≤ p ∧ p ≤ cnt) ∧ (f = 0 ∨ f = 1) ∧ M 32 19 = zI cnt ∧ M 32 20 = zI p ∧ M 32 22 = zI f ∧ ∀ i, 0 ≤ i → i < cnt → M 40 i.toNat = zI (tx i)
def FM (M M1 : Mm) : Prop := (∀ j, j ≠ 32 → M1 j = M j) ∧ ∀ i, i ≠ 20 → i ≠ 22 → M1 32 i = M 32 i
theorem FM.rf (M : Mm) : FM M M := ⟨fun _ _ => rfl, fun _ _ _ => rfl⟩
theorem FM.tr {A B C : Mm} (h : FM A B) (k : FM B C) : FM A C := ⟨fun j j1 => (k.1 j j1).trans (h.1 j j1), fun i i1 i2 => (k.2 i i1 i2).trans (h.2 i i1 i2)⟩
theorem FM.p (M : Mm) (x : Int32) : FM M (mset M 32 20 x) := ⟨fun _ j1 => mset_ne _ _ _ j1, fun _ i1 _ => mset_oth _ _ _ _ i1⟩
theorem FM.f (M : Mm) (x : Int32) : FM M (mset M 32 22 x) := ⟨fun _ j1 => mset_ne _ _ _ j1, fun _ _ i2 => mset_oth _ _ _ _ i2⟩
theorem MP.sp {cnt : Int} {tx : Int → Int} {p f : Int} {M : Mm} (h : MP cnt tx p f M) {q : Int} (hq : 0 ≤ q ∧ q ≤ cnt) : MP cnt tx q f (mset M 32 20 (zI q)) := ⟨h.1, h.2.1, hq, h.2.2.2.1, by rw [mset_oth _ _ _ _ (by decide)]; exact h.2.2.2.2.1, mset_at _ _ _ _, by rw [mset_oth _ _ _ _ (by decide)]; exact h.2.2.2.2.2.2.1, fun i i0 i1 => by rw [mset_ne _ _ _ (by decide)]; exact h.2.2.2.2.2.2.2 i i0 i1⟩
theorem MP.sf {cnt : Int} {tx : Int → Int} {p f : Int} {M : Mm} (h : MP cnt tx p f M) {g : Int} (hg : g = 0 ∨ g = 1) : MP cnt tx p g (mset M 32 22 (zI g)) := ⟨h.1, h.2.1, h.2.2.1, hg, by rw [mset_oth _ _ _ _ (by decide)]; exact h.2.2.2.2.1, by rw [mset_oth _ _ _ _ (by decide)]; exact h.2.2.2.2.2.1, mset_at _ _ _ _, fun i i0 i1 => by rw [mset_ne _ _ _ (by decide)]; exact h.2.2.2.2.2.2.2 i i0 i1⟩
def mkv (cnt : Int) (tx : Int → Int) (p f : Int) : Int := if f = 0 ∧ p < cnt then tx p else -1
theorem mkv_b {cnt : Int} {tx : Int → Int} (h : ∀ i, 32 ≤ tx i ∧ tx i ≤ 126) (p f : Int) : -1 ≤ mkv cnt tx p f ∧ mkv cnt tx p f ≤ 126 := by
  have := h p
  unfold mkv
  by_cases c : f = 0 ∧ p < cnt
  · rw [if_pos c]; omega
  · rw [if_neg c]; omega
theorem mkv_c {cnt : Int} {tx : Int → Int} {p f c : Int} (hp : 0 ≤ p) (hc : 0 < c) : mkv cnt tx p f = c ↔ f = 0 ∧ pzc cnt tx p = c := by
  unfold mkv pzc
  by_cases d : f = 0 ∧ p < cnt
  · rw [if_pos d, if_pos ⟨hp, d.2⟩]
    exact ⟨fun y => ⟨d.1, y⟩, fun y => y.2⟩
  · rw [if_neg d]
    refine ⟨fun y => absurd y (by omega), fun y => ?_⟩
    rw [if_neg (by omega)] at y
    omega
theorem mkv_d {cnt : Int} {tx : Int → Int} {p f : Int} (hp : 0 ≤ p) : (48 ≤ mkv cnt tx p f ∧ mkv cnt tx p f ≤ 57) ↔ f = 0 ∧ pzd cnt tx p ≠ -1 := by
  unfold mkv pzd
  by_cases d : f = 0 ∧ p < cnt
  · have hz : pzc cnt tx p = tx p := if_pos ⟨hp, d.2⟩
    rw [if_pos d, hz]
    by_cases e : 48 ≤ tx p ∧ tx p ≤ 57
    · rw [if_pos e]
      exact ⟨fun _ => ⟨d.1, by omega⟩, fun _ => e⟩
    · rw [if_neg e]
      exact ⟨fun y => absurd y e, fun y => absurd rfl y.2⟩
  · rw [if_neg d]
    refine ⟨fun y => absurd y (by omega), fun y => ?_⟩
    have hz : pzc cnt tx p = 0 := if_neg (fun z => d ⟨y.1, z.2⟩)
    rw [hz, if_neg (by omega)] at y
    exact absurd rfl y.2
theorem pzd_tx {cnt : Int} {tx : Int → Int} {p : Int} (h : pzd cnt tx p ≠ -1) : pzd cnt tx p = tx p - 48 := by
  have hi := pzd_in h
  unfold pzd pzc at h ⊢
  rw [if_pos hi] at h ⊢
  by_cases e : 48 ≤ tx p ∧ tx p ≤ 57
  · rw [if_pos e]
  · rw [if_neg e] at h
    exact absurd rfl h
theorem Mo_mark {cnt : Int} {tx : Int → Int} {p f : Int} {M : Mm} (h : MP cnt tx p f M) : fn_Mo_mark M = some (.inl (zI (mkv cnt tx p f)), M) := by
  obtain ⟨h1, h2, h3, h4, h5, h6, h7, h8⟩ := h
  unfold fn_Mo_mark mkv
  rcases h4 with rfl | rfl
  · by_cases c : p < cnt
    · rw [if_pos (show (0 : Int) = 0 ∧ p < cnt from ⟨rfl, c⟩)]
      simp (disch := omega) only [zlit, zI_add, zI_sub, zI_mul, zI_neg, zI_lt, zI_le, zI_eq, zI_cl, zI_max, zI_min, zI_abs, bnd_ok, bnd_ex, lm_eq, li_eq, grd_inb, grd_ser, grd_z, grd_lt, if_true, if_false, if_pos, if_neg, h5, h6, h7, h8 p h3.1 c]
    · rw [if_neg (show ¬ ((0 : Int) = 0 ∧ p < cnt) from fun z => c z.2)]
      simp (disch := omega) only [zlit, zI_add, zI_sub, zI_mul, zI_neg, zI_lt, zI_le, zI_eq, zI_cl, zI_max, zI_min, zI_abs, bnd_ok, bnd_ex, lm_eq, li_eq, grd_inb, grd_ser, grd_z, grd_lt, if_true, if_false, if_pos, if_neg, h5, h6, h7]
  · rw [if_neg (show ¬ ((1 : Int) = 0 ∧ p < cnt) from fun z => absurd z.1 (by decide))]
    simp (disch := omega) only [zlit, zI_add, zI_sub, zI_mul, zI_neg, zI_lt, zI_le, zI_eq, zI_cl, zI_max, zI_min, zI_abs, bnd_ok, bnd_ex, lm_eq, li_eq, grd_inb, grd_ser, grd_z, grd_lt, if_true, if_false, if_pos, if_neg, h7]
/-- an expected letter -/
theorem Mo_expect_y {cnt : Int} {tx : Int → Int} {p c : Int} {M : Mm} (h : MP cnt tx p 0 M) (hc : 0 < c ∧ c < 128) (hit : pzc cnt tx p = c) : ∃ M1, fn_Mo_expect (zI c) M = some (.inl (), M1) ∧ MP cnt tx (p + 1) 0 M1 ∧ FM M M1 := by
  have hi := pzc_in (cnt := cnt) (tx := tx) (i := p) (by omega)
  have hm := (mkv_c (cnt := cnt) (tx := tx) (f := 0) hi.1 hc.1).2 ⟨rfl, hit⟩
  have k1 := h.sf (g := 0) (.inl rfl)
  refine ⟨mset (mset M 32 22 (zI 0)) 32 20 (zI (p + 1)), ?_, k1.sp (by omega), (FM.f M _).tr (FM.p _ _)⟩
  have k7 := k1.2.2.2.2.2.2.1
  have k6 := k1.2.2.2.2.2.1
  unfold fn_Mo_expect fn_Mo_expect_18 fn_Mo_expect_39
  rw [Mo_mark h, bnd_ok, hm, if_pos rfl, h.2.2.2.2.2.2.1, show (zI 0 ||| 0 : Int32) = zI 0 from rfl, grd_t (by decide), lm_eq, k7, if_pos (by decide), k6, lm_eq, show (1 : Int32) = zI 1 from rfl, zI_add]
theorem or_1 {f : Int} (h : f = 0 ∨ f = 1) : (zI f ||| 1 : Int32) = zI 1 := by
  rcases h with rfl | rfl
  · decide
  · decide
theorem Mo_expect_n {cnt : Int} {tx : Int → Int} {p f c : Int} {M : Mm} (h : MP cnt tx p f M) (hc : 0 < c ∧ c < 128) (miss : ¬ (f = 0 ∧ pzc cnt tx p = c)) : ∃ M1, fn_Mo_expect (zI c) M = some (.inl (), M1) ∧ MP cnt tx p 1 M1 ∧ FM M M1 := by
  have hp := h.2.2.1
  have hb := mkv_b (cnt := cnt) h.2.1 p f
  have hm : ¬ mkv cnt tx p f = c := fun z => miss ((mkv_c hp.1 hc.1).1 z)
  have k1 := h.sf (g := 1) (.inr rfl)
  refine ⟨mset (mset M 32 22 (zI 1)) 32 20 (zI p), ?_, k1.sp hp, (FM.f M _).tr (FM.p _ _)⟩
  have k7 := k1.2.2.2.2.2.2.1
  have k6 := k1.2.2.2.2.2.1
  unfold fn_Mo_expect fn_Mo_expect_18 fn_Mo_expect_39
  rw [Mo_mark h, bnd_ok, if_neg (by rw [zI_eq (by omega) (by omega)]; exact hm), h.2.2.2.2.2.2.1, or_1 h.2.2.2.1, grd_t (by decide), lm_eq, k7, if_neg (by decide), k6, lm_eq, show (0 : Int32) = zI 0 from rfl, zI_add, Int.add_zero]
/-- digits -/
theorem Mo_dig_no {cnt : Int} {tx : Int → Int} {p f m v : Int} {k : Nat} {M : Mm} (h : MP cnt tx p f M) (hm : 0 ≤ m ∧ m ≤ 2) (hv : 0 ≤ v ∧ v ≤ 2) (c : m ≤ v ∨ ¬ (f = 0 ∧ pzd cnt tx p ≠ -1)) (x : Int32) : fn_Mo_digits_32 (zI m) (k + 1) x (zI v) M = some (.inl x, M) := by
  have hp := h.2.2.1
  have hb := mkv_b (cnt := cnt) h.2.1 p f
  rw [fn_Mo_digits_32]
  by_cases c1 : m ≤ v
  · rw [if_pos (by rw [zI_le (by omega) (by omega)]; exact c1)]
  · have c2 : ¬ (48 ≤ mkv cnt tx p f ∧ mkv cnt tx p f ≤ 57) := fun z => (c.resolve_left c1) ((mkv_d hp.1).1 z)
    rw [if_neg (by rw [zI_le (by omega) (by omega)]; exact c1), Mo_mark h, bnd_ok, show (48 : Int32) = zI 48 from rfl, show (57 : Int32) = zI 57 from rfl, mo_in (by omega) (by omega) (by omega), if_neg c2, bnd_ok, if_pos (by decide)]
theorem Mo_dig_yes {cnt : Int} {tx : Int → Int} {p m v x : Int} {k : Nat} {M : Mm} (h : MP cnt tx p 0 M) (hm : 0 ≤ m ∧ m ≤ 2) (hv : 0 ≤ v ∧ v < m) (c : pzd cnt tx p ≠ -1) : fn_Mo_digits_32 (zI m) (k + 1) (zI x) (zI v) M = fn_Mo_digits_32 (zI m) k (zI (10 * x + pzd cnt tx p)) (zI (v + 1)) (mset M 32 20 (zI (p + 1))) := by
  have hp := h.2.2.1
  have hb := mkv_b (cnt := cnt) h.2.1 p 0
  have c2 : 48 ≤ mkv cnt tx p 0 ∧ mkv cnt tx p 0 ≤ 57 := (mkv_d hp.1).2 ⟨rfl, c⟩
  have hi := pzd_in c
  have hcn := h.1
  have ht := h.2.2.2.2.2.2.2 p hi.1 hi.2
  rw [fn_Mo_digits_32, if_neg (by rw [zI_le (by omega) (by omega)]; omega), Mo_mark h, bnd_ok, show (48 : Int32) = zI 48 from rfl, show (57 : Int32) = zI 57 from rfl, mo_in (by omega) (by omega) (by omega), if_pos c2, bnd_ok, if_neg (by decide), h.2.2.2.2.2.1, grd_inb (by omega) (by omega) (by omega), li_eq, lm_eq, li_eq, zI_cl (by omega) (by omega), ht, show (10 : Int32) = zI 10 from rfl, show (1 : Int32) = zI 1 from rfl, zI_mul, zI_add, zI_sub, zI_add, zI_add, pzd_tx c, show 10 * x + tx p - 48 = 10 * x + (tx p - 48) by omega]
theorem Mo_digits_no {cnt : Int} {tx : Int → Int} {p f m : Int} {M : Mm} (h : MP cnt tx p f M) (hm : 0 ≤ m ∧ m ≤ 2) (c : ¬ (f = 0 ∧ pzd cnt tx p ≠ -1)) : ∃ M1, fn_Mo_digits (zI m) M = some (.inl (zI 0), M1) ∧ MP cnt tx p 1 M1 ∧ FM M M1 := by
  have hp := h.2.2.1
  have hb := mkv_b (cnt := cnt) h.2.1 p f
  have c2 : ¬ (48 ≤ mkv cnt tx p f ∧ mkv cnt tx p f ≤ 57) := fun z => c ((mkv_d hp.1).1 z)
  have k1 := h.sf (g := 1) (.inr rfl)
  refine ⟨mset M 32 22 (zI 1), ?_, k1, FM.f M _⟩
  have hd := Mo_dig_no (m := m) (v := 0) (k := 1999) k1 hm (by omega) (.inr (fun z => absurd z.1 (by decide))) (zI 0)
  unfold fn_Mo_digits fn_Mo_digits_24
  rw [Mo_mark h, bnd_ok, show (48 : Int32) = zI 48 from rfl, show (57 : Int32) = zI 57 from rfl, mo_in (by omega) (by omega) (by omega), if_neg c2, bnd_ok, if_pos (by decide), h.2.2.2.2.2.2.1, or_1 h.2.2.2.1, grd_t (by decide), lm_eq]
  exact hd
theorem Mo_digits_yes {cnt : Int} {tx : Int → Int} {p m : Int} {M : Mm} (h : MP cnt tx p 0 M) (hm : 1 ≤ m ∧ m ≤ 2) (c : pzd cnt tx p ≠ -1) : ∃ M1, fn_Mo_digits (zI m) M = some (.inl (zI (if m = 2 ∧ pzd cnt tx (p + 1) ≠ -1 then 10 * pzd cnt tx p + pzd cnt tx (p + 1) else pzd cnt tx p)), M1) ∧ MP cnt tx (if m = 2 ∧ pzd cnt tx (p + 1) ≠ -1 then p + 2 else p + 1) 0 M1 ∧ FM M M1 := by
  have hp := h.2.2.1
  have hb := mkv_b (cnt := cnt) h.2.1 p 0
  have c2 : 48 ≤ mkv cnt tx p 0 ∧ mkv cnt tx p 0 ≤ 57 := (mkv_d hp.1).2 ⟨rfl, c⟩
  have hi := pzd_in c
  have k1 := h.sf (g := 0) (.inl rfl)
  have k2 := k1.sp (q := p + 1) (by omega)
  have hx : fn_Mo_digits (zI m) M = fn_Mo_digits_32 (zI m) (1999 + 1) (zI 0) (zI 0) (mset M 32 22 (zI 0)) := by
    unfold fn_Mo_digits fn_Mo_digits_24
    rw [Mo_mark h, bnd_ok, show (48 : Int32) = zI 48 from rfl, show (57 : Int32) = zI 57 from rfl, mo_in (by omega) (by omega) (by omega), if_pos c2, bnd_ok, if_neg (by decide), h.2.2.2.2.2.2.1, show (zI 0 ||| 0 : Int32) = zI 0 from rfl, grd_t (by decide), lm_eq]
    rfl
  rw [hx, Mo_dig_yes k1 (by omega) (by omega) c, show 10 * 0 + pzd cnt tx p = pzd cnt tx p by omega, show (0 : Int) + 1 = 1 from rfl]
  by_cases c3 : m = 2 ∧ pzd cnt tx (p + 1) ≠ -1
  · have hi2 := pzd_in c3.2
    have k3 := k2.sp (q := p + 1 + 1) (by omega)
    rw [if_pos c3, if_pos c3, Mo_dig_yes (k := 1998) k2 (by omega) (by omega) c3.2, Mo_dig_no (k := 1997) k3 (by omega) (by omega) (.inl (by omega))]
    exact ⟨_, rfl, by rw [show p + 2 = p + 1 + 1 by omega]; exact k3, ((FM.f M _).tr (FM.p _ _)).tr (FM.p _ _)⟩
  · rw [if_neg c3, if_neg c3, Mo_dig_no (k := 1998) k2 (by omega) (by omega) (by
      by_cases c4 : m = 2
      · exact .inr (fun z => c3 ⟨c4, z.2⟩)
      · exact .inl (by omega))]
    exact ⟨_, rfl, k2, (FM.f M _).tr (FM.p _ _)⟩
