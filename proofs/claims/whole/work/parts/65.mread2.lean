/-! THE MODEL READS: digits and numbers behind a letter, against parts of a shape -/
def MOk (x : Rs Int32) (cnt : Int) (tx : Int → Int) (M : Mm) (r : Bool × Int × Int) : Prop := (r.1 = true → ∃ M1, x = some (.inl (zI r.2.2), M1) ∧ MP cnt tx r.2.1 0 M1 ∧ FM M M1) ∧ (r.1 = false → ∃ M1 v, x = some (.inl v, M1) ∧ MP cnt tx r.2.1 1 M1 ∧ FM M M1)
def MNo (x : Rs Int32) (cnt : Int) (tx : Int → Int) (M : Mm) (p : Int) : Prop := ∃ M1 v, x = some (.inl v, M1) ∧ MP cnt tx p 1 M1 ∧ FM M M1
def pz2 (cnt : Int) (tx : Int → Int) (c d p : Int) : Bool × Int × Int := if pzc cnt tx p = c then pzP cnt tx d (p + 1) else (false, p, 0)
theorem pz2_68 (cnt : Int) (tx : Int → Int) (p : Int) : pzP cnt tx 68 p = pzD cnt tx p := if_pos rfl
theorem pz2_73 (cnt : Int) (tx : Int → Int) (p : Int) : pzP cnt tx 73 p = pzI cnt tx 1 p := Eq.trans (if_neg (by decide)) (if_pos rfl)
theorem pz2_78 (cnt : Int) (tx : Int → Int) (p : Int) : pzP cnt tx 78 p = pzN cnt tx p := Eq.trans (if_neg (by decide)) (Eq.trans (if_neg (by decide)) (if_pos rfl))
theorem Mo_db1 {cnt : Int} {tx : Int → Int} {p c : Int} {M : Mm} (h : MP cnt tx p 0 M) (hc : 0 < c ∧ c < 128) : MOk (fn_Mo_digitsBehind (zI c) (zI 1) M) cnt tx M (pz2 cnt tx c 68 p) := by
  unfold pz2
  by_cases hit : pzc cnt tx p = c
  · obtain ⟨M1, e1, e2, e3⟩ := Mo_expect_y h hc hit
    have hx : fn_Mo_digitsBehind (zI c) (zI 1) M = fn_Mo_digits (zI 1) M1 := by
      unfold fn_Mo_digitsBehind
      rw [e1, bnd_ok, bnd_id]
    rw [if_pos hit, pz2_68, hx]
    unfold pzD
    by_cases d : pzd cnt tx (p + 1) = -1
    · obtain ⟨M2, f1, f2, f3⟩ := Mo_digits_no (m := 1) e2 (by omega) (fun z => z.2 d)
      rw [if_pos d]
      exact ⟨fun y => Bool.noConfusion y, fun _ => ⟨M2, _, f1, f2, e3.tr f3⟩⟩
    · obtain ⟨M2, f1, f2, f3⟩ := Mo_digits_yes (m := 1) e2 (by omega) d
      rw [if_neg (by omega)] at f1 f2
      rw [if_neg d]
      exact ⟨fun _ => ⟨M2, f1, f2, e3.tr f3⟩, fun y => Bool.noConfusion y⟩
  · obtain ⟨M1, e1, e2, e3⟩ := Mo_expect_n h hc (fun z => hit z.2)
    obtain ⟨M2, f1, f2, f3⟩ := Mo_digits_no (m := 1) e2 (by omega) (fun z => absurd z.1 (by decide))
    rw [if_neg hit]
    refine ⟨fun y => Bool.noConfusion y, fun _ => ⟨M2, zI 0, ?_, f2, e3.tr f3⟩⟩
    unfold fn_Mo_digitsBehind
    rw [e1, bnd_ok, bnd_id, f1]
/-- two digits from a place, without a sign and with one -/
theorem Mo_dig2 {cnt : Int} {tx : Int → Int} {p : Int} {M : Mm} (h : MP cnt tx p 0 M) : MOk (fn_Mo_digits (zI 2) M) cnt tx M (pzI cnt tx 1 p) := by
  unfold pzI
  by_cases d : pzd cnt tx p = -1
  · obtain ⟨M2, f1, f2, f3⟩ := Mo_digits_no (m := 2) h (by omega) (fun z => z.2 d)
    rw [if_pos d]
    exact ⟨fun y => Bool.noConfusion y, fun _ => ⟨M2, _, f1, f2, f3⟩⟩
  · obtain ⟨M2, f1, f2, f3⟩ := Mo_digits_yes (m := 2) h (by omega) d
    rw [if_neg d]
    by_cases d2 : pzd cnt tx (p + 1) = -1
    · rw [if_neg (show ¬ ((2 : Int) = 2 ∧ pzd cnt tx (p + 1) ≠ -1) from fun z => z.2 d2)] at f1 f2
      rw [if_pos d2]
      exact ⟨fun _ => ⟨M2, by show _ = some (Sum.inl (zI (1 * pzd cnt tx p)), M2); rw [Int.one_mul]; exact f1, f2, f3⟩, fun y => Bool.noConfusion y⟩
    · rw [if_pos (show (2 : Int) = 2 ∧ pzd cnt tx (p + 1) ≠ -1 from ⟨rfl, d2⟩)] at f1 f2
      rw [if_neg d2]
      exact ⟨fun _ => ⟨M2, by show _ = some (Sum.inl (zI (1 * (10 * pzd cnt tx p + pzd cnt tx (p + 1)))), M2); rw [Int.one_mul]; exact f1, f2, f3⟩, fun y => Bool.noConfusion y⟩
theorem Mo_db2 {cnt : Int} {tx : Int → Int} {p c : Int} {M : Mm} (h : MP cnt tx p 0 M) (hc : 0 < c ∧ c < 128) : MOk (fn_Mo_digitsBehind (zI c) (zI 2) M) cnt tx M (pz2 cnt tx c 73 p) := by
  unfold pz2
  by_cases hit : pzc cnt tx p = c
  · obtain ⟨M1, e1, e2, e3⟩ := Mo_expect_y h hc hit
    have hx : fn_Mo_digitsBehind (zI c) (zI 2) M = fn_Mo_digits (zI 2) M1 := by
      unfold fn_Mo_digitsBehind
      rw [e1, bnd_ok, bnd_id]
    have hr := Mo_dig2 e2
    rw [if_pos hit, pz2_73, hx]
    refine ⟨fun y => ?_, fun y => ?_⟩
    · obtain ⟨M2, f1, f2, f3⟩ := hr.1 y
      exact ⟨M2, f1, f2, e3.tr f3⟩
    · obtain ⟨M2, v, f1, f2, f3⟩ := hr.2 y
      exact ⟨M2, v, f1, f2, e3.tr f3⟩
  · obtain ⟨M1, e1, e2, e3⟩ := Mo_expect_n h hc (fun z => hit z.2)
    obtain ⟨M2, f1, f2, f3⟩ := Mo_digits_no (m := 2) e2 (by omega) (fun z => absurd z.1 (by decide))
    rw [if_neg hit]
    refine ⟨fun y => Bool.noConfusion y, fun _ => ⟨M2, zI 0, ?_, f2, e3.tr f3⟩⟩
    unfold fn_Mo_digitsBehind
    rw [e1, bnd_ok, bnd_id, f1]
theorem Mo_db_no {cnt : Int} {tx : Int → Int} {p c m : Int} {M : Mm} (h : MP cnt tx p 1 M) (hc : 0 < c ∧ c < 128) (hm : 0 ≤ m ∧ m ≤ 2) : MNo (fn_Mo_digitsBehind (zI c) (zI m) M) cnt tx M p := by
  obtain ⟨M1, e1, e2, e3⟩ := Mo_expect_n h hc (fun z => absurd z.1 (by decide))
  obtain ⟨M2, f1, f2, f3⟩ := Mo_digits_no (m := m) e2 hm (fun z => absurd z.1 (by decide))
  refine ⟨M2, zI 0, ?_, f2, e3.tr f3⟩
  unfold fn_Mo_digitsBehind
  rw [e1, bnd_ok, bnd_id, f1]
theorem Mo_nb_fail {cnt : Int} {tx : Int → Int} {p c f : Int} {M : Mm} (h : MP cnt tx p f M) (hc : 0 < c ∧ c < 128) (miss : ¬ (f = 0 ∧ pzc cnt tx p = c)) : MNo (fn_Mo_numberBehind (zI c) M) cnt tx M p := by
  obtain ⟨M1, e1, e2, e3⟩ := Mo_expect_n h hc miss
  have e4 := e2.sp (q := p) e2.2.2.1
  obtain ⟨M2, f1, f2, f3⟩ := Mo_digits_no (m := 2) e4 (by omega) (fun z => absurd z.1 (by decide))
  refine ⟨M2, zI 0, ?_, f2, (e3.tr (FM.p _ _)).tr f3⟩
  have hk : mkv cnt tx p 1 = -1 := if_neg (fun z => absurd z.1 (by decide))
  have f1' : fn_Mo_digits 2 (mset M1 32 20 (zI p)) = some (.inl (zI 0), M2) := f1
  unfold fn_Mo_numberBehind
  rw [e1, bnd_ok, Mo_mark e2, bnd_ok, hk, if_neg (by decide)]
  unfold fn_Mo_numberBehind_19 fn_Mo_numberBehind_34
  rw [if_pos rfl, e2.2.2.2.2.2.1, lm_eq, show (0 : Int32) = zI 0 from rfl, zI_add, Int.add_zero, f1', bnd_ok, if_pos (by decide)]
theorem Mo_nb {cnt : Int} {tx : Int → Int} {p c : Int} {M : Mm} (h : MP cnt tx p 0 M) (hc : 0 < c ∧ c < 128) : MOk (fn_Mo_numberBehind (zI c) M) cnt tx M (pz2 cnt tx c 78 p) := by
  unfold pz2
  by_cases hit : pzc cnt tx p = c
  · obtain ⟨M1, e1, e2, e3⟩ := Mo_expect_y h hc hit
    have hp1 := e2.2.2.1
    have hb := mkv_b (cnt := cnt) h.2.1 (p + 1) 0
    rw [if_pos hit, pz2_78]
    unfold pzN
    by_cases s : pzc cnt tx (p + 1) = 45
    · have hi := pzc_in (cnt := cnt) (tx := tx) (i := p + 1) (by omega)
      have hk : mkv cnt tx (p + 1) 0 = 45 := (mkv_c hp1.1 (by omega)).2 ⟨rfl, s⟩
      have e4 := e2.sp (q := p + 1 + 1) (by omega)
      have hr := Mo_dig2 e4
      have hx : fn_Mo_numberBehind (zI c) M = bnd (fn_Mo_digits (zI 2) (mset M1 32 20 (zI (p + 1 + 1)))) (fun r40 M40 => some (.inl (-r40), M40)) := by
        unfold fn_Mo_numberBehind
        rw [e1, bnd_ok, Mo_mark e2, bnd_ok, hk, if_pos (by decide)]
        unfold fn_Mo_numberBehind_19 fn_Mo_numberBehind_34
        rw [if_neg (by decide), e2.2.2.2.2.2.1, lm_eq, show (1 : Int32) = zI 1 from rfl, zI_add]
        rfl
      rw [if_pos s, hx]
      have hneg : pzI cnt tx (-1) (p + 1 + 1) = ((pzI cnt tx 1 (p + 1 + 1)).1, (pzI cnt tx 1 (p + 1 + 1)).2.1, -(pzI cnt tx 1 (p + 1 + 1)).2.2) := by
        unfold pzI
        by_cases d : pzd cnt tx (p + 1 + 1) = -1
        · rw [if_pos d, if_pos d]
          rfl
        · rw [if_neg d, if_neg d]
          by_cases d2 : pzd cnt tx (p + 1 + 1 + 1) = -1
          · rw [if_pos d2, if_pos d2, Int.one_mul, Int.neg_one_mul]
          · rw [if_neg d2, if_neg d2, Int.one_mul, Int.neg_one_mul]
      rw [hneg]
      refine ⟨fun y => ?_, fun y => ?_⟩
      · obtain ⟨M2, f1, f2, f3⟩ := hr.1 y
        refine ⟨M2, ?_, f2, (e3.tr (FM.p _ _)).tr f3⟩
        rw [f1, bnd_ok, zI_neg]
      · obtain ⟨M2, v, f1, f2, f3⟩ := hr.2 y
        refine ⟨M2, -v, ?_, f2, (e3.tr (FM.p _ _)).tr f3⟩
        rw [f1, bnd_ok]
    · have hk : ¬ mkv cnt tx (p + 1) 0 = 45 := fun z => s ((mkv_c hp1.1 (by omega)).1 z).2
      have e4 := e2.sp (q := p + 1) hp1
      have hr := Mo_dig2 e4
      have hx : fn_Mo_numberBehind (zI c) M = fn_Mo_digits (zI 2) (mset M1 32 20 (zI (p + 1))) := by
        unfold fn_Mo_numberBehind
        rw [e1, bnd_ok, Mo_mark e2, bnd_ok, if_neg (show ¬ zI (mkv cnt tx (p + 1) 0) = 45 by rw [show (45 : Int32) = zI 45 from rfl, zI_eq (by omega) (by omega)]; exact hk)]
        unfold fn_Mo_numberBehind_19 fn_Mo_numberBehind_34
        rw [if_pos rfl, e2.2.2.2.2.2.1, lm_eq]
        simp only [eq_self, if_true]
        rw [bnd_id, show (0 : Int32) = zI 0 from rfl, zI_add, Int.add_zero]
        rfl
      rw [if_neg s, hx]
      refine ⟨fun y => ?_, fun y => ?_⟩
      · obtain ⟨M2, f1, f2, f3⟩ := hr.1 y
        exact ⟨M2, f1, f2, (e3.tr (FM.p _ _)).tr f3⟩
      · obtain ⟨M2, v, f1, f2, f3⟩ := hr.2 y
        exact ⟨M2, v, f1, f2, (e3.tr (FM.p _ _)).tr f3⟩
  · rw [if_neg hit]
    obtain ⟨M2, v, f1, f2, f3⟩ := Mo_nb_fail h hc (fun z => hit z.2)
    exact ⟨fun y => Bool.noConfusion y, fun _ => ⟨M2, v, f1, f2, f3⟩⟩
