/-! THE MODEL READS A COMMAND -/
theorem shR_keep {cnt : Int} {tx : Int → Int} : ∀ (l : List Int) (p m : Int) (ag : Int → Int) (i : Int), i < m → (shR cnt tx l p m ag).2.2.2 i = ag i := by
  intro l
  induction l with
  | nil => intro p m ag i _; rfl
  | cons c l ih =>
    intro p m ag i hi
    have hu : shR cnt tx (c :: l) p m ag = if (pzP cnt tx c p).1 = true then shR cnt tx l (pzP cnt tx c p).2.1 (if pzk c = true then m + 1 else m) (if pzk c = true then upI ag m (pzP cnt tx c p).2.2 else ag) else (false, (pzP cnt tx c p).2.1, m, ag) := rfl
    rw [hu]
    by_cases ok : (pzP cnt tx c p).1 = true
    · rw [if_pos ok]
      by_cases d : pzk c = true
      · rw [if_pos d, if_pos d, ih _ _ _ i (by omega), upI_ne _ _ (by omega)]
      · rw [if_neg d, if_neg d, ih _ _ _ i hi]
    · rw [if_neg ok]
theorem rs_at : ∀ k : Fin 9, rsL k.val = 32 :: 68 :: RsK k.val ∧ kcF (pzS k.val) = 1 + kcF (RsK k.val) ∧ ∀ c ∈ RsK k.val, 0 < c ∧ c < 128 := by decide +kernel
theorem RR.one_no {y : Rs Int32} {x : Rs Unit} {cnt : Int} {tx : Int → Int} {p q : Int} {M : Mm} (hq : M 32 21 = zI q) (hb : 0 ≤ q ∧ q < 32) (hy : MNo y cnt tx M p) (hx : x = bnd y (fun v Mv => grd (inb (M 32 21) 32) (lm (mset Mv 43 (M 32 21).toNatClampNeg v) (fun M66 => some (.inl (), M66))))) : ∃ M1, x = some (.inl (), M1) ∧ MP cnt tx p 1 M1 ∧ M1 32 21 = zI q ∧ FQ q M M1 := by
  obtain ⟨M1, e1, e2, e3, e4⟩ := Pt_n hy hq hb (row := 43) (by omega)
  exact ⟨M1, by rw [hx]; exact e1 _, e2, e3, e4⟩
theorem RR.two_no {y : Rs Int32} {g : Mm → Rs Int32} {x : Rs Unit} {cnt : Int} {tx : Int → Int} {p q : Int} {M : Mm} (hq : M 32 21 = zI q) (hb : 0 ≤ q ∧ q < 32) (hy : MNo y cnt tx M p) (hn : ∀ p M, MP cnt tx p 1 M → MNo (g M) cnt tx M p)
    (hx : x = bnd y (fun v Mv => grd (inb (M 32 21) 32) (lm (mset Mv 43 (M 32 21).toNatClampNeg v) (fun M85 => bnd (g M85) (fun r97 M97 => grd (inb (M85 32 21) 32) (lm (mset M97 44 (M85 32 21).toNatClampNeg r97) (fun M100 => some (.inl (), M100)))))))) : ∃ M1, x = some (.inl (), M1) ∧ MP cnt tx p 1 M1 ∧ M1 32 21 = zI q ∧ FQ q M M1 := by
  obtain ⟨M1, e1, e2, e3, e4⟩ := Pt_n hy hq hb (row := 43) (by omega)
  obtain ⟨M2, f1, f2, f3, f4⟩ := Pt_n (hn _ M1 e2) e3 hb (row := 44) (by omega)
  refine ⟨M2, ?_, f2, f3, e4.tr f4⟩
  rw [hx, e1]
  exact f1 _
theorem Mo_rest_no {k : Nat} (hk : k < 9) {cnt : Int} {tx : Int → Int} {p q : Int} {M : Mm} (h : MP cnt tx p 1 M) (hq : M 32 21 = zI q) (hb : 0 ≤ q ∧ q < 32) : ∃ M1, fn_Mo_readsRest (zI (k : Int)) M = some (.inl (), M1) ∧ MP cnt tx p 1 M1 ∧ M1 32 21 = zI q ∧ FQ q M M1 := by
  have nn := fun p M h => Mo_nb_fail (cnt := cnt) (tx := tx) (p := p) (c := 32) (f := 1) (M := M) h (by omega) (fun z => absurd z.1 (by decide))
  have nn61 := fun p M h => Mo_nb_fail (cnt := cnt) (tx := tx) (p := p) (c := 61) (f := 1) (M := M) h (by omega) (fun z => absurd z.1 (by decide))
  have d32 := fun m (hm : 0 ≤ m ∧ m ≤ 2) => Mo_db_no (cnt := cnt) (tx := tx) (p := p) (c := 32) (m := m) h (by omega) hm
  have d60 := fun m (hm : 0 ≤ m ∧ m ≤ 2) => Mo_db_no (cnt := cnt) (tx := tx) (p := p) (c := 60) (m := m) h (by omega) hm
  have idn : ∃ M1, some (Sum.inl (), M) = (some (.inl (), M1) : Rs Unit) ∧ MP cnt tx p 1 M1 ∧ M1 32 21 = zI q ∧ FQ q M M1 := ⟨M, rfl, h, hq, ⟨fun _ _ _ _ _ _ => rfl, fun _ _ _ _ => rfl, fun _ _ _ _ _ => rfl⟩⟩
  rcases (by omega : k = 0 ∨ k = 1 ∨ k = 2 ∨ k = 3 ∨ k = 4 ∨ k = 5 ∨ k = 6 ∨ k = 7 ∨ k = 8) with rfl | rfl | rfl | rfl | rfl | rfl | rfl | rfl | rfl
  · exact RR.one_no hq hb (nn p M h) rfl
  · exact RR.two_no hq hb (d32 2 (by omega)) nn61 rfl
  · exact RR.one_no hq hb (d32 2 (by omega)) rfl
  · exact RR.one_no hq hb (d60 1 (by omega)) rfl
  · exact idn
  · exact RR.one_no hq hb (nn p M h) rfl
  · exact RR.one_no hq hb (d32 1 (by omega)) rfl
  · exact idn
  · exact RR.two_no hq hb (nn p M h) nn rfl
theorem pz2_b {cnt : Int} {tx : Int → Int} {c d p : Int} (hc : c ≠ 0) (hd : d ≠ 0) (hp : 0 ≤ p ∧ p ≤ cnt) : -99 ≤ (pz2 cnt tx c d p).2.2 ∧ (pz2 cnt tx c d p).2.2 ≤ 99 := by
  unfold pz2
  by_cases e : pzc cnt tx p = c
  · have hi := pzc_in (cnt := cnt) (tx := tx) (i := p) (by omega)
    have h := pzP_b (cnt := cnt) (tx := tx) (c := d) (p := p + 1) hd (by omega)
    rw [if_pos e]
    exact ⟨h.2.2.1, h.2.2.2.1⟩
  · rw [if_neg e]
    exact ⟨(by decide : (-99 : Int) ≤ 0), (by decide : (0 : Int) ≤ 99)⟩
def AR (M : Mm) (q : Int) (k : Nat) (ag : Int → Int) : Prop := M 41 q.toNat = zI (k : Int) ∧ M 42 q.toNat = zI (ag 0) ∧ (2 ≤ kcF (pzS k) → M 43 q.toNat = zI (ag 1)) ∧ (3 ≤ kcF (pzS k) → M 44 q.toNat = zI (ag 2))
def CO (x : Rs Unit) (cnt : Int) (tx : Int → Int) (q : Int) (M : Mm) (r : Bool × Int × Nat × (Int → Int)) : Prop := (r.1 = true → ∃ M1, x = some (.inl (), M1) ∧ MP cnt tx r.2.1 0 M1 ∧ M1 32 21 = zI (q + 1) ∧ AR M1 q r.2.2.1 r.2.2.2 ∧ FQ q M M1) ∧ (r.1 = false → ∃ M1, x = some (.inl (), M1) ∧ MP cnt tx r.2.1 1 M1 ∧ M1 32 21 = zI q ∧ FQ q M M1)
theorem Mo_command {cnt : Int} {tx : Int → Int} {p q : Int} {M : Mm} (h : MP cnt tx p 0 M) (hq : M 32 21 = zI q) (hb : 0 ≤ q ∧ q < 32) : CO (fn_Mo_command M) cnt tx q M (cmd cnt tx p) := by
  have hp := h.2.2.1
  have hcb := cmd_b (cnt := cnt) (tx := tx) hp
  have hw := Mo_word h
  rcases cmd_word (cnt := cnt) (tx := tx) hp with ⟨w, e⟩ | ⟨k, hk, hf, w, e⟩
  · rw [w, if_neg (fun y => Bool.noConfusion y)] at hw
    have e21 : (cmd cnt tx p).2.1 = (wdR cnt tx p 9 0 0).2.1 := by rw [e]
    rw [← e21] at hw
    have k1 := (h.sp (q := (cmd cnt tx p).2.1) (by omega)).sf (g := 1) (.inr rfl)
    have k22 := k1.2.2.2.2.2.2.1
    refine ⟨fun y => absurd y (by rw [e]; exact fun y => Bool.noConfusion y), fun _ => ⟨_, ?_, k1, by rw [mset_oth _ _ _ _ (by decide), mset_oth _ _ _ _ (by decide)]; exact hq, ((FM.p _ _).tr (FM.f _ _)).q⟩⟩
    unfold fn_Mo_command
    rw [hw, bnd_ok, k22, if_neg (by decide)]
  · rw [w, if_pos rfl] at hw
    obtain ⟨r1, r2, r3⟩ := rs_at ⟨k, hk⟩
    have r1' : rsL k = 32 :: 68 :: RsK k := r1
    have r2' : kcF (pzS k) = 1 + kcF (RsK k) := r2
    have hmc := mtF_cnt (cnt := cnt) (tx := tx) (wdL k) p (wd_at ⟨k, hk⟩).2.2.2 hp.2
    have k1 := h.sp (q := p + wlF k) (by omega)
    have k22 := k1.2.2.2.2.2.2.1
    have k21 : mset M 32 20 (zI (p + wlF k)) 32 21 = zI q := by rw [mset_oth _ _ _ _ (by decide)]; exact hq
    have fm : FQ q M (mset M 32 20 (zI (p + wlF k))) := (FM.p _ _).q
    have hx : fn_Mo_command M = bnd (fn_Mo_digitsBehind 32 1 (mset M 32 20 (zI (p + wlF k)))) (fun r25 M25 => grd (inb (mset M 32 20 (zI (p + wlF k)) 32 21) 32) (lm (mset M25 42 (mset M 32 20 (zI (p + wlF k)) 32 21).toNatClampNeg r25) (fun M28 => bnd (fn_Mo_readsRest (zI (k : Int)) M28) (fun r31 M31 => if (M31 32 22) = 0 then (grd (inb (M31 32 21) 32) (lm (mset M31 41 (M31 32 21).toNatClampNeg (zI (k : Int))) (fun M51 => lm (mset M51 32 21 ((M51 32 21) + 1)) (fun M59 => some (.inl (), M59))))) else (some (.inl (), M31)))))) := by
      unfold fn_Mo_command
      rw [hw, bnd_ok, k22, if_pos (by decide)]
    generalize mset M 32 20 (zI (p + wlF k)) = Mw at *
    have hdb : MOk (fn_Mo_digitsBehind 32 1 Mw) cnt tx Mw (pz2 cnt tx 32 68 (p + wlF k)) := Mo_db1 k1 (by omega)
    have hrs : rsR cnt tx p k = if (pz2 cnt tx 32 68 (p + wlF k)).1 = true then shR cnt tx (RsK k) (pz2 cnt tx 32 68 (p + wlF k)).2.1 1 (upI (fun _ => 0) 0 (pz2 cnt tx 32 68 (p + wlF k)).2.2) else (false, (pz2 cnt tx 32 68 (p + wlF k)).2.1, 0, fun _ => 0) := by
      unfold rsR
      rw [r1', shR_2 (by omega) (by omega)]
      rfl
    rw [e]
    rw [hx]
    unfold cmT
    by_cases ok : (pz2 cnt tx 32 68 (p + wlF k)).1 = true
    · rw [if_pos ok] at hrs
      obtain ⟨M2, e1, e2, e3, e4, e5, e6⟩ := Pt_y hdb k21 hb (row := 42) (by omega) ok
      have hr := Mo_rest hk e2 e4 hb (upI (fun _ => 0) 0 (pz2 cnt tx 32 68 (p + wlF k)).2.2)
      have hkp := shR_keep (cnt := cnt) (tx := tx) (RsK k) (pz2 cnt tx 32 68 (p + wlF k)).2.1 1 (upI (fun _ => 0) 0 (pz2 cnt tx 32 68 (p + wlF k)).2.2) 0 (by decide)
      have hsb := fun a => shR_b (cnt := cnt) (tx := tx) (RsK k) (pz2 cnt tx 32 68 (p + wlF k)).2.1 1 (upI (fun _ => 0) 0 (pz2 cnt tx 32 68 (p + wlF k)).2.2) r3 e2.2.2.1.1 e2.2.2.1.2 a
      rw [e1]
      rw [← hrs] at hr hkp hsb
      have hv := pz2_b (cnt := cnt) (tx := tx) (c := 32) (d := 68) (p := p + wlF k) (by decide) (by decide) (by omega)
      by_cases ok2 : (rsR cnt tx p k).1 = true
      · obtain ⟨M3, f1, f2, f3, f4, f5, f6, f7, f8⟩ := hr.1 ok2
        have hm := ((hsb (fun i => by
          unfold upI
          by_cases c : i = 0
          · rw [if_pos c]; exact hv
          · rw [if_neg c]; exact ⟨(by decide : (-99 : Int) ≤ 0), (by decide : (0 : Int) ≤ 99)⟩)).2.2.1 ok2).2
        rw [if_pos ok2]
        refine ⟨fun _ => ⟨mset (mset M3 41 q.toNat (zI (k : Int))) 32 21 (zI (q + 1)), ?_, ?_, mset_at _ _ _ _, ⟨by rw [mset_ne _ _ _ (by decide), mset_at], ?_, fun z => ?_, fun z => ?_⟩, ?_⟩, fun y => Bool.noConfusion y⟩
        · have q3 : mset M3 41 q.toNat (zI (k : Int)) 32 21 = zI q := by rw [mset_ne _ _ _ (by decide)]; exact f3
          rw [f1, bnd_ok, f2.2.2.2.2.2.2.1, if_pos (by decide), f3, grd_inb (by omega) (by omega) (by omega), lm_eq, zI_cl (by omega) (by omega), q3, lm_eq, show (1 : Int32) = zI 1 from rfl, zI_add]
        · have f9 := f2.row (row := 41) (by omega) q.toNat (zI (k : Int))
          exact ⟨f9.1, f9.2.1, f9.2.2.1, f9.2.2.2.1, by rw [mset_oth _ _ _ _ (by decide)]; exact f9.2.2.2.2.1, by rw [mset_oth _ _ _ _ (by decide)]; exact f9.2.2.2.2.2.1, by rw [mset_oth _ _ _ _ (by decide)]; exact f9.2.2.2.2.2.2.1, fun i i0 i1 => by rw [mset_ne _ _ _ (by decide)]; exact f9.2.2.2.2.2.2.2 i i0 i1⟩
        · rw [mset_ne _ _ _ (by decide), mset_ne _ _ _ (by decide), f6, e3]
          show _ = zI ((rsR cnt tx p k).2.2.2 0)
          rw [hkp, upI_eq]
        · rw [mset_ne _ _ _ (by decide), mset_ne _ _ _ (by decide)]
          have z' : 2 ≤ kcF (pzS k) := z
          exact f4 (by omega)
        · rw [mset_ne _ _ _ (by decide), mset_ne _ _ _ (by decide)]
          have z' : 3 ≤ kcF (pzS k) := z
          exact f5 (by omega)
        · exact (fm.tr (e5.tr f8)).tr ((FQ.put q M3 (by omega) _).tr ⟨fun j j1 _ _ _ _ => mset_ne _ _ _ j1, fun i _ i2 _ => mset_oth _ _ _ _ i2, fun j i j1 j2 _ => by rw [mset_ne _ _ _ (by omega)]⟩)
      · obtain ⟨M3, f1, f2, f3, f4⟩ := hr.2 (bool_f ok2)
        rw [if_neg ok2]
        refine ⟨fun y => Bool.noConfusion y, fun _ => ⟨M3, ?_, f2, f3, fm.tr (e5.tr f4)⟩⟩
        rw [f1, bnd_ok, f2.2.2.2.2.2.2.1, if_neg (by decide)]
    · rw [if_neg ok] at hrs
      obtain ⟨M2, e1, e2, e3, e4⟩ := Pt_n (hdb.no ok) k21 hb (row := 42) (by omega)
      obtain ⟨M3, f1, f2, f3, f4⟩ := Mo_rest_no hk e2 e3 hb
      rw [e1, hrs, if_neg (fun y => Bool.noConfusion y)]
      refine ⟨fun y => Bool.noConfusion y, fun _ => ⟨M3, ?_, f2, f3, fm.tr (e4.tr f4)⟩⟩
      rw [f1, bnd_ok, f2.2.2.2.2.2.2.1, if_neg (by decide)]
