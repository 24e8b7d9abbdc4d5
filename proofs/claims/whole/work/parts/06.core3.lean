section CORE3
variable {α β : Type} {l : Launch} {K : KT} {d nL mc ms : Nat} {rv : α → Option Value} {X : XT} {cc : ByteArray} {own : String} {ret : Option FieldType} {hh : List (Nat × Nat × Nat × Nat)} {L : zz_L}
variable {x : Rs α} {cells slots : Nat} {M : Mm} {pc : Nat} {lc : List (Nat × Value)} {st rest : List Value}
abbrev rvI : Int32 → Option Value := fun v => some (.int v)
abbrev rvU : Unit → Option Value := fun _ => none
abbrev rvL (K : KT) : Nat → Option Value := fun k => some (.ref (kA K k))
abbrev rvD : UInt64 → Option Value := fun v => some (.double v)
abbrev rvF : UInt32 → Option Value := fun v => some (.float v)
theorem zz_q {K : KT} {v : α} {M : Mm} {s t : State} {H : Heap} {locs : List Loc} {a : Array Value} {oc : Outcome} (hI : InvH K M H) (hS : va_S (kF K) s.heap H locs) (ht : t.heap = H) (ho : oc = .returned (rv v)) : Qcc K rv (.inl v) M a s oc t :=
  ⟨⟨v, rfl, ho, by rw [ht]; exact hI⟩, hS.F ht⟩
theorem V_iret (hX : Cx l K d nL mc ms X cc own ret hh L) {v : Int32} (k : Nat) (hr : ret = some .int) (h1 : cells ≤ mc) (h2 : slots ≤ ms) (hk : L[k]? = some (pc, .ireturn, 1)) : VV l K d nL mc ms rvI X (some (.inl v, M)) cells slots M pc lc [.int v] := by
  intro o M' ho H locs ls hI hS hl
  cases ho
  exact W.widen h1 h2 (vx_ret (W.iret (cx_x hX) (cx_b hX) ((cx_r hX).trans hr) (fun t ht _ => zz_q (rv := rvI) (v := v) hI hS ht rfl) hS.2.2 (zz_at (cx_d hX) k hk) (cx_lk hX)))
theorem V_zret (hX : Cx l K d nL mc ms X cc own ret hh L) {v : Int32} {ty : FieldType} (k : Nat) (hr : ret = some ty) (hn : narrow ty (.int v) = .int v) (h1 : cells ≤ mc) (h2 : slots ≤ ms) (hk : L[k]? = some (pc, .ireturn, 1)) : VV l K d nL mc ms rvI X (some (.inl v, M)) cells slots M pc lc [.int v] := by
  intro o M' ho H locs ls hI hS hl
  cases ho
  exact W.widen h1 h2 (vx_ret (W.zret (cx_x hX) (cx_b hX) ((cx_r hX).trans hr) hn (fun t ht _ => zz_q (rv := rvI) (v := v) hI hS ht rfl) hS.2.2 (zz_at (cx_d hX) k hk) (cx_lk hX)))
theorem V_vret (hX : Cx l K d nL mc ms X cc own ret hh L) (k : Nat) (hr : ret = none) (h1 : cells ≤ mc) (h2 : slots ≤ ms) (hk : L[k]? = some (pc, .return_, 1)) : VV l K d nL mc ms rvU X (some (.inl (), M)) cells slots M pc lc [] := by
  intro o M' ho H locs ls hI hS hl
  cases ho
  exact W.widen h1 h2 (vx_ret (W.vret (cx_x hX) (cx_b hX) ((cx_r hX).trans hr) (fun t ht _ => zz_q (rv := rvU) (v := ()) hI hS ht rfl) hS.2.2 (zz_at (cx_d hX) k hk) (cx_lk hX)))
theorem V_aret (hX : Cx l K d nL mc ms X cc own ret hh L) {v : α} {a : Nat} (k : Nat) (n : String) (hr : ret = some (.object n)) (hv : rv v = some (.ref a)) (h1 : cells ≤ mc) (h2 : slots ≤ ms) (hk : L[k]? = some (pc, .areturn, 1)) : VV l K d nL mc ms rv X (some (.inl v, M)) cells slots M pc lc [.ref a] := by
  intro o M' ho H locs ls hI hS hl
  cases ho
  exact W.widen h1 h2 (vx_ret (W.aret (cx_x hX) (cx_b hX) ((cx_r hX).trans hr) (Or.inl ⟨n, rfl⟩) (Or.inr ⟨a, rfl⟩) (fun t ht _ => zz_q hI hS ht (by rw [hv])) hS.2.2 (zz_at (cx_d hX) k hk) (cx_lk hX)))
theorem V_dret (hX : Cx l K d nL mc ms X cc own ret hh L) {v : UInt64} (k : Nat) (hr : ret = some .double) (h1 : cells ≤ mc) (h2 : slots ≤ ms) (hk : L[k]? = some (pc, .dreturn, 1)) : VV l K d nL mc ms rvD X (some (.inl v, M)) cells slots M pc lc [.double v] := by
  intro o M' ho H locs ls hI hS hl
  cases ho
  exact W.widen h1 h2 (vx_ret (W.dret (cx_x hX) (cx_b hX) ((cx_r hX).trans hr) (fun t ht _ => zz_q (rv := rvD) (v := v) hI hS ht rfl) hS.2.2 (zz_at (cx_d hX) k hk) (cx_lk hX)))
theorem V_fret (hX : Cx l K d nL mc ms X cc own ret hh L) {v : UInt32} (k : Nat) (hr : ret = some .float) (h1 : cells ≤ mc) (h2 : slots ≤ ms) (hk : L[k]? = some (pc, .freturn, 1)) : VV l K d nL mc ms rvF X (some (.inl v, M)) cells slots M pc lc [.float v] := by
  intro o M' ho H locs ls hI hS hl
  cases ho
  exact W.widen h1 h2 (vx_ret (W.fret (cx_x hX) (cx_b hX) ((cx_r hX).trans hr) (fun t ht _ => zz_q (rv := rvF) (v := v) hI hS ht rfl) hS.2.2 (zz_at (cx_d hX) k hk) (cx_lk hX)))
/-! throw new E("..") -/
def zz_up : List String := ["java/lang/RuntimeException", "java/lang/Exception"]
def zz_ok (w : Cond) : Bool := goodWord w || zz_isx w
theorem zz_kx (hX : Cx l K d nL mc ms X cc own ret hh L) : ∀ w ∈ zz_ex, va_Nw w X.2.2.1 := by
  have h := cx_k hX
  obtain ⟨-, -, -, -, -, -, -, -, -, -, -, -, -, -, -, -, -, -, -, -, h21⟩ := h
  exact h21
theorem zz_wx (hX : Cx l K d nL mc ms X cc own ret hh L) {w : Cond} (h : w ∈ lw_tbl) (hg : zz_ok w = true) : w.before X.2.2.2.2.1 X.2.2.1 = true := by
  simp only [zz_ok, Bool.or_eq_true] at hg
  rcases hg with hg | hg
  · exact cx_w hX w (zz_in h hg)
  · exact zz_xu hg (zz_kx hX w (zz_inx h hg))
def ThO (q ik ic : Nat) : Prop := Bundle.fit (exN q) = true ∧ Cond.classLink "SeriesArchive" ik (exN q) ∈ zz_good ∧ Cond.initialized (exN q) ∈ zz_good ∧ (∀ w ∈ vx_atS "SeriesArchive" ic (exN q) zz_up, w ∈ lw_tbl ∧ zz_ok w = true) ∧ (∀ w ∈ Cond.classLink "SeriesArchive" ik (exN q) :: Cond.initialized (exN q) :: vx_atS "SeriesArchive" ic (exN q) zz_up, vx_ot w = true)
/-- NoSuchElementException -/
def ThN (ik ic : Nat) : Prop := Cond.classLink "SeriesArchive" ik (exN 3) ∈ zz_good ∧ Cond.initialized (exN 3) ∈ zz_good ∧ (∀ w ∈ zx_at "SeriesArchive" ic (exN 3) "java/lang/RuntimeException" 13 prog_43_method_4_code ["java/lang/Exception"], w ∈ lw_tbl ∧ zz_ok w = true) ∧ (∀ w ∈ Cond.classLink "SeriesArchive" ik (exN 3) :: Cond.initialized (exN 3) :: zx_at "SeriesArchive" ic (exN 3) "java/lang/RuntimeException" 13 prog_43_method_4_code ["java/lang/Exception"], vx_ot w = true)
theorem zz_tab0 (h : Cx l K d nL mc ms X cc own ret [] L) : ∀ x ∈ X.2.2.2.2.2.2.2.exceptionTable.toList, False := by
  intro x hx
  rw [cx_h h] at hx
  cases hx
theorem V_throw (hX : Cx l K d nL mc ms X cc "SeriesArchive" ret [] L) {ik is ic : Nat} {text : String} (k q : Nat) (hT : ThO q ik ic) (htx : (is, text) ∈ zz_texts) (hd9 : 9 ≤ d) (h1 : cells + 1 ≤ mc) (h2 : slots + 6 ≤ ms) (hst : (st.map fun v => v.category).sum ≤ 8)
    (k0 : L[k]? = some (pc, .new ik, 3)) (k1 : L[k + 1]? = some (pc + 3, .dup, 1)) (k2 : L[k + 2]? = some (pc + 4, .ldc_w is, 3)) (k3 : L[k + 3]? = some (pc + 7, .invokespecial ic, 3)) (k4 : L[k + 4]? = some (pc + 10, .athrow, 1)) : VV l K d nL mc ms rv X (some (.inr q, M)) cells slots M pc lc st := by
  obtain ⟨hf, hk1, hk2, hat, hgd⟩ := hT
  intro o M' ho H locs ls hI hS hl
  cases ho
  have hN := cx_k hX
  obtain ⟨-, -, -, -, -, -, -, -, htxs, hU, hV, -⟩ := hN
  obtain ⟨sa, hsa⟩ := htxs _ htx
  exact vx_throwSW (names := zz_up) (cls := exN q) (A := kF K) (cx_x hX) (cx_b hX) (cx_t hX) (cx_own hX) hf (by decide +kernel) (cx_w hX _ hk1) (cx_w hX _ hk2) hsa (fun w hw => zz_wx hX (hat w hw).1 (hat w hw).2) hgd hU hV hS (hl.1.trans (cx_ml hX).symm)
    (zz_at (cx_d hX) k k0) (zz_at (cx_d hX) (k + 1) k1) (zz_at (cx_d hX) (k + 2) k2) (zz_at (cx_d hX) (k + 3) k3) (zz_at (cx_d hX) (k + 4) k4)
    (fun x hx => (zz_tab0 hX x hx).elim) (by show 5 < d; omega) (by show _ + (13 * (2 + 1) + 43) ≤ 60 * d; omega) h1 h2 (cx_lk hX)
    (fun t ht hz hk => ⟨⟨q, rfl, rfl, by
      obtain ⟨sb, hsb, hP, hD⟩ := hI
      exact ⟨sb, hsb, va_P.kept hP (fun i z hz2 => hk _ (hP i z hz2).lt), hD⟩⟩, Nat.le_trans hS.1 hz, fun b hb1 hb2 => by rw [hk b (Nat.lt_of_lt_of_le hb1 hS.1)]; exact hS.2.1 b hb1 hb2⟩)
    hS.2.2 h1 h2
theorem V_throwS (hX : Cx l K d nL mc ms X cc "SeriesArchive" ret [] L) {ik is ic : Nat} {text : String} (k q : Nat) (hT : ThO q ik ic) (htx : (is, text) ∈ zz_texts) (hd9 : 9 ≤ d) (h1 : cells + 1 ≤ mc) (h2 : slots + 6 ≤ ms) (hst : (st.map fun v => v.category).sum ≤ 8)
    (k0 : L[k]? = some (pc, .new ik, 3)) (k1 : L[k + 1]? = some (pc + 3, .dup, 1)) (k2 : L[k + 2]? = some (pc + 4, .ldc is, 2)) (k3 : L[k + 3]? = some (pc + 6, .invokespecial ic, 3)) (k4 : L[k + 4]? = some (pc + 9, .athrow, 1)) : VV l K d nL mc ms rv X (some (.inr q, M)) cells slots M pc lc st := by
  obtain ⟨hf, hk1, hk2, hat, hgd⟩ := hT
  intro o M' ho H locs ls hI hS hl
  cases ho
  have hN := cx_k hX
  obtain ⟨-, -, -, -, -, -, -, -, htxs, hU, hV, -⟩ := hN
  obtain ⟨sa, hsa⟩ := htxs _ htx
  exact vx_throwS (names := zz_up) (cls := exN q) (A := kF K) (cx_x hX) (cx_b hX) (cx_t hX) (cx_own hX) hf (by decide +kernel) (cx_w hX _ hk1) (cx_w hX _ hk2) hsa (fun w hw => zz_wx hX (hat w hw).1 (hat w hw).2) hgd hU hV hS (hl.1.trans (cx_ml hX).symm)
    (zz_at (cx_d hX) k k0) (zz_at (cx_d hX) (k + 1) k1) (zz_at (cx_d hX) (k + 2) k2) (zz_at (cx_d hX) (k + 3) k3) (zz_at (cx_d hX) (k + 4) k4)
    (fun x hx => (zz_tab0 hX x hx).elim) (by show 5 < d; omega) (by show _ + (13 * (2 + 1) + 43) ≤ 60 * d; omega) h1 h2 (cx_lk hX)
    (fun t ht hz hk => ⟨⟨q, rfl, rfl, by
      obtain ⟨sb, hsb, hP, hD⟩ := hI
      exact ⟨sb, hsb, va_P.kept hP (fun i z hz2 => hk _ (hP i z hz2).lt), hD⟩⟩, Nat.le_trans hS.1 hz, fun b hb1 hb2 => by rw [hk b (Nat.lt_of_lt_of_le hb1 hS.1)]; exact hS.2.1 b hb1 hb2⟩)
    hS.2.2 h1 h2
theorem V_throwN (hX : Cx l K d nL mc ms X cc "SeriesArchive" ret [] L) {ik is ic : Nat} {text : String} (k q : Nat) (h3 : q = 3) (hT : ThN ik ic) (htx : (is, text) ∈ zz_texts) (hd9 : 9 ≤ d) (h1 : cells + 1 ≤ mc) (h2 : slots + 6 ≤ ms) (hst : (st.map fun v => v.category).sum ≤ 8)
    (k0 : L[k]? = some (pc, .new ik, 3)) (k1 : L[k + 1]? = some (pc + 3, .dup, 1)) (k2 : L[k + 2]? = some (pc + 4, .ldc_w is, 3)) (k3 : L[k + 3]? = some (pc + 7, .invokespecial ic, 3)) (k4 : L[k + 4]? = some (pc + 10, .athrow, 1)) : VV l K d nL mc ms rv X (some (.inr q, M)) cells slots M pc lc st := by
  subst h3
  obtain ⟨hk1, hk2, hat, hgd⟩ := hT
  intro o M' ho H locs ls hI hS hl
  cases ho
  have hN := cx_k hX
  obtain ⟨-, -, -, -, -, -, -, -, htxs, hU, hV, -⟩ := hN
  obtain ⟨sa, hsa⟩ := htxs _ htx
  refine zx_makeSW (cls := exN 3) (Y9 := "java/lang/RuntimeException") (r9 := ["java/lang/Exception"]) (ix := 13) (rx := prog_43_method_4_code) (A := kF K) (cx_x hX) (cx_b hX) (cx_t hX) (cx_own hX) (by decide +kernel) (by decide +kernel) (by decide +kernel) (by decide +kernel) (by decide +kernel) (by decide +kernel) (cx_w hX _ hk1) (cx_w hX _ hk2) hsa (fun w hw => zz_wx hX (hat w hw).1 (hat w hw).2) hgd hU hV hS (hl.1.trans (cx_ml hX).symm)
    (zz_at (cx_d hX) k k0) (zz_at (cx_d hX) (k + 1) k1) (zz_at (cx_d hX) (k + 2) k2) (zz_at (cx_d hX) (k + 3) k3)
    (by show 5 < d; omega) (by show _ + (13 * (2 + 1) + 43) ≤ 60 * d; omega) h1 h2 (fun q H1 ce hce hcv hcl hz hk => ?_)
  refine vx_athrow (cx_x hX) (cx_b hX) (zz_at (cx_d hX) (k + 4) k4) (vx_out (fun x hx => (zz_tab0 hX x hx).elim) (cx_lk hX) hce hcv hcl (fun t ht _ => ⟨⟨3, rfl, rfl, ?_⟩, ?_⟩) hS.2.2 h1 h2)
  · obtain ⟨sb, hsb, hP, hD⟩ := hI
    exact ⟨sb, hsb, va_P.kept hP (fun i z hz2 => by rw [ht]; exact hk _ (hP i z hz2).lt), hD⟩
  · exact ⟨by rw [ht]; exact Nat.le_trans hS.1 hz, fun b hb1 hb2 => by rw [ht, hk b (Nat.lt_of_lt_of_le hb1 hS.1)]; exact hS.2.1 b hb1 hb2⟩
theorem V_throwNS (hX : Cx l K d nL mc ms X cc "SeriesArchive" ret [] L) {ik is ic : Nat} {text : String} (k q : Nat) (h3 : q = 3) (hT : ThN ik ic) (htx : (is, text) ∈ zz_texts) (hd9 : 9 ≤ d) (h1 : cells + 1 ≤ mc) (h2 : slots + 6 ≤ ms) (hst : (st.map fun v => v.category).sum ≤ 8)
    (k0 : L[k]? = some (pc, .new ik, 3)) (k1 : L[k + 1]? = some (pc + 3, .dup, 1)) (k2 : L[k + 2]? = some (pc + 4, .ldc is, 2)) (k3 : L[k + 3]? = some (pc + 6, .invokespecial ic, 3)) (k4 : L[k + 4]? = some (pc + 9, .athrow, 1)) : VV l K d nL mc ms rv X (some (.inr q, M)) cells slots M pc lc st := by
  subst h3
  obtain ⟨hk1, hk2, hat, hgd⟩ := hT
  intro o M' ho H locs ls hI hS hl
  cases ho
  have hN := cx_k hX
  obtain ⟨-, -, -, -, -, -, -, -, htxs, hU, hV, -⟩ := hN
  obtain ⟨sa, hsa⟩ := htxs _ htx
  refine zx_makeS (cls := exN 3) (Y9 := "java/lang/RuntimeException") (r9 := ["java/lang/Exception"]) (ix := 13) (rx := prog_43_method_4_code) (A := kF K) (cx_x hX) (cx_b hX) (cx_t hX) (cx_own hX) (by decide +kernel) (by decide +kernel) (by decide +kernel) (by decide +kernel) (by decide +kernel) (by decide +kernel) (cx_w hX _ hk1) (cx_w hX _ hk2) hsa (fun w hw => zz_wx hX (hat w hw).1 (hat w hw).2) hgd hU hV hS (hl.1.trans (cx_ml hX).symm)
    (zz_at (cx_d hX) k k0) (zz_at (cx_d hX) (k + 1) k1) (zz_at (cx_d hX) (k + 2) k2) (zz_at (cx_d hX) (k + 3) k3)
    (by show 5 < d; omega) (by show _ + (13 * (2 + 1) + 43) ≤ 60 * d; omega) h1 h2 (fun q H1 ce hce hcv hcl hz hk => ?_)
  refine vx_athrow (cx_x hX) (cx_b hX) (zz_at (cx_d hX) (k + 4) k4) (vx_out (fun x hx => (zz_tab0 hX x hx).elim) (cx_lk hX) hce hcv hcl (fun t ht _ => ⟨⟨3, rfl, rfl, ?_⟩, ?_⟩) hS.2.2 h1 h2)
  · obtain ⟨sb, hsb, hP, hD⟩ := hI
    exact ⟨sb, hsb, va_P.kept hP (fun i z hz2 => by rw [ht]; exact hk _ (hP i z hz2).lt), hD⟩
  · exact ⟨by rw [ht]; exact Nat.le_trans hS.1 hz, fun b hb1 hb2 => by rw [ht, hk b (Nat.lt_of_lt_of_le hb1 hS.1)]; exact hS.2.1 b hb1 hb2⟩
/-! calls -/
def VR (l : Launch) (K : KT) (d nL mc ms : Nat) (X : XT) (f : Rs β) (rv' : β → Option Value) (mc' ms' cells slots : Nat) (M : Mm) (pc : Nat) (lc : List (Nat × Value)) (st0 rest : List Value) : Prop :=
  ∀ o1 M1, f = some (o1, M1) → ∀ (H : Heap) (locs : List Loc) (ls : Array Slot), InvH K M H → va_S (kF K) X.2.2.1.heap H locs → lv_has ls nL lc →
    ∃ a : Array Value, vx_Run X.1 l X.2.1 (rmm d mc ms) X.2.2.1 X.2.2.2.1 X.2.2.2.2.1 X.2.2.2.2.2.1 X.2.2.2.2.2.2.1 X.2.2.2.2.2.2.2 H locs cells slots mc' ms' (F0 X.2.2.2.1 pc ls st0) rest (Qcc K rv' o1 M1 a) (Xcc K o1 M1) (kF K)
theorem V_call (hX : Cx l K d nL mc ms X cc own ret [] L) {f : Rs β} {kf : β → Mm → Rs α} {rv' : β → Option Value} {mc' ms' : Nat} {st0 : List Value} (hr : VR l K d nL mc ms X f rv' mc' ms' cells slots M pc lc st0 rest) (h1 : cells + mc' ≤ mc) (h2 : slots + ms' ≤ ms)
    (kk : ∀ r M1, f = some (.inl r, M1) → VV l K d nL mc ms rv X (kf r M1) (cells + mc') (slots + ms') M1 (pc + 3) lc ((rv' r).toList ++ rest)) : VV l K d nL mc ms rv X (bnd f kf) cells slots M pc lc st0 := by
  intro o M' ho H locs ls hI hS hl
  cases hf : f with
  | none => rw [hf] at ho; cases ho
  | some z =>
    obtain ⟨o1, M1⟩ := z
    obtain ⟨a, hrun⟩ := hr o1 M1 hf H locs ls hI hS hl
    intro T hT X9
    rcases hrun T hT X9 with ⟨v, st₀, t, T', L9, h0, X', hL, e1, e2, ⟨⟨r, hr1, hr2, hI1⟩, hF⟩, st9⟩ | ⟨q, st₀, t, T', L9, E, ce, h0, X', hL, e1, e2, ⟨⟨r, hr1, hr2, hI1⟩, hF⟩, hce, hcv, hcl, st9⟩
    · cases hr1
      cases hr2
      obtain ⟨k1, k2, k3⟩ := vx_keep h0 e1 hS (fun _ _ h => h) (fun _ h => h) hL hF
      have ho2 : kf r M1 = some (o, M') := by rw [hf] at ho; exact ho
      obtain ⟨t2, a1, b1⟩ := kk r M1 hf o M' ho2 T'.heap (locs ++ L9) ls (by rw [e1]; exact hI1) k3 hl T' rfl X'
      exact ⟨t2, st9 t2 a1, b1⟩
    · cases hr1
      obtain ⟨k1, k2, k3⟩ := vx_keep h0 e1 hS (fun _ _ h => h) (fun _ h => h) hL hF
      have ho2 : (some (.inr r, M1) : Rs α) = some (o, M') := by rw [hf] at ho; exact ho
      cases ho2
      have hw := vx_out (p := X.1) (l := l) (e := X.2.1) (R := rmm d mc ms) (s := X.2.2.1) (m := X.2.2.2.1) (args := X.2.2.2.2.1) (below := X.2.2.2.2.2.1) (meth := X.2.2.2.2.2.2.1) (c := X.2.2.2.2.2.2.2) (H := T'.heap) (locs := locs ++ L9) (cells := cells + mc') (slots := slots + ms') (ls := ls) (rest := rest) (free := kF K) (Qc := Qcc K rv (.inr r) M') (XC := Xcc K (α := α) (.inr r) M') (pc := pc) (E := E) (ce := ce) (q := q) (mc := mc) (ms := ms)
        (fun x hx => (zz_tab0 hX x hx).elim) (cx_lk hX) (by rw [e1]; exact hce) hcv hcl (fun t9 ht9 _ => ⟨⟨r, rfl, hr2, by rw [ht9, e1]; exact hI1⟩, k3.F ht9⟩) k3.2.2 h1 h2
      obtain ⟨t2, a1, b1⟩ := hw T' rfl X'
      exact ⟨t2, st9.trans a1, b1⟩
theorem zz_blind {As : List Value} {M : Mm} : FrameBlind (Pcc K As M) := by
  intro a U g mk h
  obtain ⟨h1, h2, h3, h4, h5⟩ := h
  exact ⟨h1, h2, va_K.moved (u := U) (U := U.calling g mk a) (Vm.Alike.refl U.vm) h3, Kon.to (s := U) (U := U.calling g mk a) (State.WarmedH.refl U) (fun _ _ _ => rfl) h4, h5⟩
theorem zz_pc (hX : Cx l K d nL mc ms X cc own ret hh L) {As : List Value} {M : Mm} {H : Heap} {locs : List Loc} (hI : InvH K M H) (hS : va_S (kF K) X.2.2.1.heap H locs) : ∀ U : State, U.heap = H → X.2.2.1.WarmedH U.vm → Pcc K As M As.toArray U :=
  fun U hU hW => ⟨rfl, by rw [hU]; exact hI, va_K.moved hW.alike (cx_K hX), by rw [hU]; exact Kon.to hW (fun a ha hA => hS.2.1 a ha hA) (cx_k hX), by rw [hU]; exact Nat.le_trans (cx_z hX) hS.1⟩
/-- what the tables say of a method that is called -/
def MY (y : MethodName) (bytes : ByteArray) (maxL : Nat) (ret' : Option FieldType) (n : Nat) : Prop := Cond.code y bytes maxL ret' ∈ zz_good ∧ Cond.initialized y.cls ∈ zz_good ∧ (y.cls ≠ "java/lang/invoke/MethodHandle" ∧ y.cls ≠ "java/lang/invoke/VarHandle" ∧ (parseMethodDescriptor y.desc).map (fun d => d.parameters.length) = some n)
theorem zz_CB (hX : Cx l K d nL mc ms X cc own ret hh L) {y : MethodName} {bytes : ByteArray} {maxL n index d' mc' ms' : Nat} {ret' : Option FieldType} (hy : MY y bytes maxL ret' n) (hl : Cond.methodLink own index y ∈ zz_good) (hd : d' + 1 ≤ d) (hm : maxL ≤ 41) :
    CallB (rmm d mc ms) X.2.2.1 X.2.2.2.2.1 own index y bytes maxL ret' (Cond.code y bytes maxL ret' :: zz_good) (rmm d' mc' ms') mc' ms' n :=
  callB_of n (cx_w hX) (zz_gg hy.1) rfl rfl rfl (cx_w hX _ hy.2.1) (cx_w hX _ hl) hy.2.2 ⟨hd, by show 8 + (maxL + 11) + 60 * d' ≤ 60 * d; omega⟩
theorem VR_V (hX : Cx l K d nL mc ms X cc own ret hh L) {f : Rs β} {rv' : β → Option Value} {y : MethodName} {bytes : ByteArray} {maxL n index d' mc' ms' ci kl : Nat} {C : String} {Tb : u_T} {N : Nat} {fs : List Value} {ret' : Option FieldType} {As st0 : List Value} (k : Nat) (hc : CTp l K y (Cond.code y bytes maxL ret') rv' d' mc' ms' (.ref (kA K kl) :: As) M f) (hy : MY y bytes maxL ret' n) (hi : Cond.instanceMethod y ∈ zz_good) (hse : Cond.selects C y y ∈ zz_good) (hl : Cond.methodLink own index y ∈ zz_good) (hd : d' + 1 ≤ d) (hm : maxL ≤ 41) (hkl : kl ∈ zz_locs) (he : ent K kl (M kl) = .inr (ci, fs)) (hcl : wcl[ci]? = some (C, Tb, N)) (hn : As.length = n) (hst : st0 = As.reverse ++ .ref (kA K kl) :: rest) (hW : (rest.map fun v => v.category).sum ≤ 8) (hk : L[k]? = some (pc, .invokevirtual index, 3)) (h1 : cells + mc' ≤ mc) (h2 : slots + ms' ≤ ms) : VR l K d nL mc ms X f rv' mc' ms' cells slots M pc lc st0 rest := by
  intro o1 M1 hf H locs ls hI hS hls
  obtain ⟨sb, hsb, hP, hD⟩ := id hI
  exact ⟨_, vx_runV (Ts := zz_good) (own := own) ⟨cx_x hX, cx_b hX, cx_ml hX, cx_own hX, cx_w hX⟩ (hc o1 M1 hf) ⟨zz_CB hX hy hl hd hm, cx_w hX _ hi, cx_w hX _ hse⟩
    ⟨zz_blind, va_recv (cx_K hX) hP hcl (zz_get K M sb hkl he), zz_pc hX hI hS⟩ rfl hn hls.1 hst (lv_room hW) (zz_at (cx_d hX) k hk) ⟨h1, h2⟩⟩
theorem VR_S (hX : Cx l K d nL mc ms X cc own ret hh L) {f : Rs β} {rv' : β → Option Value} {y : MethodName} {bytes : ByteArray} {maxL n index d' mc' ms' : Nat} {ret' : Option FieldType} {As st0 : List Value} (k : Nat) (hc : CTp l K y (Cond.code y bytes maxL ret') rv' d' mc' ms' As M f) (hy : MY y bytes maxL ret' n) (hi : Cond.static y ∈ zz_good) (hl : Cond.methodLink own index y ∈ zz_good) (hd : d' + 1 ≤ d) (hm : maxL ≤ 41) (hn : As.length = n) (hst : st0 = As.reverse ++ rest) (hW : (rest.map fun v => v.category).sum ≤ 8) (hk : L[k]? = some (pc, .invokestatic index, 3)) (h1 : cells + mc' ≤ mc) (h2 : slots + ms' ≤ ms) : VR l K d nL mc ms X f rv' mc' ms' cells slots M pc lc st0 rest := by
  intro o1 M1 hf H locs ls hI hS hls
  exact ⟨_, vx_runS (Ts := zz_good) (own := own) ⟨cx_x hX, cx_b hX, cx_ml hX, cx_own hX, cx_w hX⟩ (hc o1 M1 hf) ⟨zz_CB hX hy hl hd hm, cx_w hX _ hi⟩
    ⟨zz_blind, zz_pc hX hI hS⟩ rfl hn hls.1 hst (lv_room hW) (zz_at (cx_d hX) k hk) ⟨h1, h2⟩⟩
theorem VR_SN (hX : Cx l K d nL mc ms X cc own ret hh L) {f : Rs β} {rv' : β → Option Value} {y : MethodName} {bytes : ByteArray} {maxL n index d' mc' ms' : Nat} {host : String} {ret' : Option FieldType} {As st0 : List Value} (k : Nat) (hc : CTp l K y (Cond.code y bytes maxL ret') rv' d' mc' ms' As M f) (hy : MY y bytes maxL ret' n) (hi : Cond.static y ∈ zz_good) (hl : (own, index, y, host) ∈ zz_nestM) (hd : d' + 1 ≤ d) (hm : maxL ≤ 41) (hn : As.length = n) (hst : st0 = As.reverse ++ rest) (hW : (rest.map fun v => v.category).sum ≤ 8) (hk : L[k]? = some (pc, .invokestatic index, 3)) (h1 : cells + mc' ≤ mc) (h2 : slots + ms' ≤ ms) : VR l K d nL mc ms X f rv' mc' ms' cells slots M pc lc st0 rest := by
  intro o1 M1 hf H locs ls hI hS hls
  have hN := cx_k hX
  obtain ⟨-, -, -, -, -, -, -, -, -, -, -, -, hnm, -⟩ := hN
  exact ⟨_, vx_runSN (Ts := zz_good) (own := own) ⟨cx_x hX, cx_b hX, cx_ml hX, cx_own hX, cx_w hX⟩ (hc o1 M1 hf) ⟨va_cnB n (cx_w hX) (zz_gg hy.1) rfl rfl rfl (hnm _ hl) (cx_w hX _ hy.2.1) hy.2.2 ⟨hd, by show 8 + (maxL + 11) + 60 * d' ≤ 60 * d; omega⟩, cx_w hX _ hi, trivial⟩
    ⟨zz_blind, zz_pc hX hI hS⟩ rfl hn hls.1 hst (lv_room hW) (zz_at (cx_d hX) k hk) ⟨h1, h2⟩⟩
/-- the call rows by what is answered -/
theorem V_callI (hX : Cx l K d nL mc ms X cc own ret [] L) {f : Rs Int32} {kf : Int32 → Mm → Rs α} {mc' ms' : Nat} {st0 : List Value} (q c9 s9 : Nat) (hq : pc + 3 = q) (hc : cells + mc' = c9) (hs9 : slots + ms' = s9) (h1 : cells + mc' ≤ mc) (h2 : slots + ms' ≤ ms) (hr : VR l K d nL mc ms X f rvI mc' ms' cells slots M pc lc st0 rest)
    (kk : ∀ r M1, VV l K d nL mc ms rv X (kf r M1) c9 s9 M1 q lc (.int r :: rest)) : VV l K d nL mc ms rv X (bnd f kf) cells slots M pc lc st0 := by
  subst hq; subst hc; subst hs9
  exact V_call hX hr h1 h2 (fun r M1 _ => kk r M1)
theorem V_callL (hX : Cx l K d nL mc ms X cc own ret [] L) {f : Rs Nat} {kf : Nat → Mm → Rs α} {mc' ms' : Nat} {st0 : List Value} {g : Nat → Nat} (q c9 s9 : Nat) (hq : pc + 3 = q) (hc : cells + mc' = c9) (hs9 : slots + ms' = s9) (h1 : cells + mc' ≤ mc) (h2 : slots + ms' ≤ ms) (hr : VR l K d nL mc ms X f (fun z => some (.ref (g z))) mc' ms' cells slots M pc lc st0 rest)
    (kk : ∀ r M1, VV l K d nL mc ms rv X (kf r M1) c9 s9 M1 q lc (.ref (g r) :: rest)) : VV l K d nL mc ms rv X (bnd f kf) cells slots M pc lc st0 := by
  subst hq; subst hc; subst hs9
  exact V_call hX hr h1 h2 (fun r M1 _ => kk r M1)
theorem V_callU (hX : Cx l K d nL mc ms X cc own ret [] L) {f : Rs Unit} {kf : Unit → Mm → Rs α} {mc' ms' : Nat} {st0 : List Value} (q c9 s9 : Nat) (hq : pc + 3 = q) (hc : cells + mc' = c9) (hs9 : slots + ms' = s9) (h1 : cells + mc' ≤ mc) (h2 : slots + ms' ≤ ms) (hr : VR l K d nL mc ms X f rvU mc' ms' cells slots M pc lc st0 rest)
    (kk : ∀ r M1, VV l K d nL mc ms rv X (kf r M1) c9 s9 M1 q lc rest) : VV l K d nL mc ms rv X (bnd f kf) cells slots M pc lc st0 := by
  subst hq; subst hc; subst hs9
  exact V_call hX hr h1 h2 (fun r M1 _ => kk r M1)
theorem V_callD (hX : Cx l K d nL mc ms X cc own ret [] L) {f : Rs UInt64} {kf : UInt64 → Mm → Rs α} {mc' ms' : Nat} {st0 : List Value} (q c9 s9 : Nat) (hq : pc + 3 = q) (hc : cells + mc' = c9) (hs9 : slots + ms' = s9) (h1 : cells + mc' ≤ mc) (h2 : slots + ms' ≤ ms) (hr : VR l K d nL mc ms X f rvD mc' ms' cells slots M pc lc st0 rest)
    (kk : ∀ r M1, VV l K d nL mc ms rv X (kf r M1) c9 s9 M1 q lc (.double r :: rest)) : VV l K d nL mc ms rv X (bnd f kf) cells slots M pc lc st0 := by
  subst hq; subst hc; subst hs9
  exact V_call hX hr h1 h2 (fun r M1 _ => kk r M1)
theorem V_callF (hX : Cx l K d nL mc ms X cc own ret [] L) {f : Rs UInt32} {kf : UInt32 → Mm → Rs α} {mc' ms' : Nat} {st0 : List Value} (q c9 s9 : Nat) (hq : pc + 3 = q) (hc : cells + mc' = c9) (hs9 : slots + ms' = s9) (h1 : cells + mc' ≤ mc) (h2 : slots + ms' ≤ ms) (hr : VR l K d nL mc ms X f rvF mc' ms' cells slots M pc lc st0 rest)
    (kk : ∀ r M1, VV l K d nL mc ms rv X (kf r M1) c9 s9 M1 q lc (.float r :: rest)) : VV l K d nL mc ms rv X (bnd f kf) cells slots M pc lc st0 := by
  subst hq; subst hc; subst hs9
  exact V_call hX hr h1 h2 (fun r M1 _ => kk r M1)
theorem V_callO (hX : Cx l K d nL mc ms X cc own ret [] L) {f : Rs Unit} {kf : Unit → Mm → Rs α} {mc' ms' a : Nat} {st0 : List Value} (q c9 s9 : Nat) (hq : pc + 3 = q) (hc : cells + mc' = c9) (hs9 : slots + ms' = s9) (h1 : cells + mc' ≤ mc) (h2 : slots + ms' ≤ ms) (hr : VR l K d nL mc ms X f (fun _ => some (.ref a)) mc' ms' cells slots M pc lc st0 rest)
    (kk : ∀ r M1, VV l K d nL mc ms rv X (kf r M1) c9 s9 M1 q lc (.ref a :: rest)) : VV l K d nL mc ms rv X (bnd f kf) cells slots M pc lc st0 := by
  subst hq; subst hc; subst hs9
  exact V_call hX hr h1 h2 (fun r M1 _ => kk r M1)
end CORE3
