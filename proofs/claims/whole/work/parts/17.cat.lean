/-! try .. catch: the pure term, and its row -/
abbrev HL : Type := List ((Nat × Nat × Nat × Nat) × Nat × Int32)
theorem cix_at : ∀ (hs : HL) {q : Nat} {v : Int32}, cix (hs.map (·.2)) q = some v → ∃ pre h suf, hs = pre ++ h :: suf ∧ h.2.1 = q ∧ h.2.2 = v ∧ ∀ z ∈ pre, z.2.1 ≠ q
  | [], q, v, h => by cases h
  | a :: t, q, v, h => by
    have h9 : (if a.2.1 = q then some a.2.2 else cix (t.map (·.2)) q) = some v := h
    by_cases e : a.2.1 = q
    · rw [if_pos e] at h9
      cases h9
      exact ⟨[], a, t, rfl, e, rfl, fun z hz => by cases hz⟩
    · rw [if_neg e] at h9
      obtain ⟨pre, x, suf, h1, h2, h3, h4⟩ := cix_at t h9
      refine ⟨a :: pre, x, suf, by rw [h1]; rfl, h2, h3, fun z hz => ?_⟩
      rcases List.mem_cons.mp hz with e9 | e9
      · rw [e9]; exact e
      · exact h4 z e9
abbrev hEn (h : (Nat × Nat × Nat × Nat) × Nat × Int32) : ExceptionTableEntry := ⟨h.1.1, h.1.2.1, h.1.2.2.1, h.1.2.2.2⟩
def HOk (own : String) (h : (Nat × Nat × Nat × Nat) × Nat × Int32) : Prop := h.1.2.2.2 ≠ 0 ∧ h.2.1 < 5 ∧ Cond.classLink own h.1.2.2.2 (exN h.2.1) ∈ zz_good ∧ Cond.castable (exN h.2.1) (exN h.2.1) ∈ zz_ex
section CAT
variable {α β : Type} {l : Launch} {K : KT} {d nL mc ms : Nat} {rv : α → Option Value} {X : XT} {cc : ByteArray} {own : String} {ret : Option FieldType} {hh : List (Nat × Nat × Nat × Nat)} {L : zz_L}
variable {cells slots : Nat} {M : Mm} {pc : Nat} {lc : List (Nat × Value)} {st rest : List Value}
theorem V_cat (hX : Cx l K d nL mc ms X cc own ret hh L) (hs : HL) (hhs : hs.map (·.1) = hh) {f : Rs β} {kf : β → Mm → Rs Int32} {rv' : β → Option Value} {mc' ms' : Nat} {st0 : List Value} (hr : VR l K d nL mc ms X f rv' mc' ms' cells slots M pc lc st0 rest) (h1 : cells + mc' ≤ mc) (h2 : slots + ms' ≤ ms)
    (hk : ∀ h ∈ hs, HOk own h) (hcv : ∀ h ∈ hs, covers (hEn h) pc = true)
    (hc : ∀ h ∈ hs, ∀ a M1, VV l K d nL mc ms rvI X (some (.inl h.2.2, M1)) (cells + mc') (slots + ms') M1 h.1.2.2.1 lc [.ref a])
    (kk : ∀ r M1, VV l K d nL mc ms rvI X (kf r M1) (cells + mc') (slots + ms') M1 (pc + 3) lc ((rv' r).toList ++ rest)) : VV l K d nL mc ms rvI X (cat (hs.map (·.2)) f kf) cells slots M pc lc st0 := by
  intro o M' ho H locs ls hI hS hl
  cases hf : f with
  | none => rw [hf] at ho; cases ho
  | some z =>
    obtain ⟨o1, M1⟩ := z
    obtain ⟨a, hrun⟩ := hr o1 M1 hf H locs ls hI hS hl
    intro T hT X9
    rcases hrun T hT X9 with ⟨v, st₀, t, T', L9, h0, X', hL, e1, e2, ⟨⟨r, hr1, hr2, hI1⟩, hF⟩, st9⟩ | ⟨q, st₀, t, T', L9, E, ce, h0, X', hL, e1, e2, ⟨⟨r, hr1, hr2, hI1⟩, hF⟩, hce, hcv9, hcl, st9⟩
    · cases hr1
      cases hr2
      obtain ⟨k1, k2, k3⟩ := vx_keep h0 e1 hS (fun _ _ h => h) (fun _ h => h) hL hF
      have ho2 : kf r M1 = some (o, M') := by rw [hf] at ho; exact ho
      obtain ⟨t2, a1, b1⟩ := kk r M1 o M' ho2 T'.heap (locs ++ L9) ls (by rw [e1]; exact hI1) k3 hl T' rfl X'
      exact ⟨t2, st9 t2 a1, b1⟩
    · cases hr1
      obtain ⟨k1, k2, k3⟩ := vx_keep h0 e1 hS (fun _ _ h => h) (fun _ h => h) hL hF
      have ho1 : (match cix (hs.map (·.2)) r with | some v => (some (.inl v, M1) : Rs Int32) | none => none) = some (o, M') := by rw [hf] at ho; exact ho
      cases hx : cix (hs.map (·.2)) r with
      | none => rw [hx] at ho1; cases ho1
      | some v =>
        rw [hx] at ho1
        obtain ⟨pre, h, suf, g1, g2, g3, g4⟩ := cix_at hs hx
        have hin : h ∈ hs := by rw [g1]; exact List.mem_append_right _ List.mem_cons_self
        obtain ⟨n1, n2, n3, n4⟩ := hk h hin
        have hvv := hc h hin q M1 o M' (by rw [g3]; exact ho1) T'.heap (locs ++ L9) ls (by rw [e1]; exact hI1) k3 hl
        have hN := cx_k hX
        obtain ⟨-, -, -, -, -, -, -, -, -, -, -, -, -, -, -, -, -, -, hnc, -⟩ := hN
        have hw := vx_catch (p := X.1) (l := l) (e := X.2.1) (R := rmm d mc ms) (s := X.2.2.1) (m := X.2.2.2.1) (args := X.2.2.2.2.1) (below := X.2.2.2.2.2.1) (meth := X.2.2.2.2.2.2.1) (c := X.2.2.2.2.2.2.2) (H := T'.heap) (locs := locs ++ L9) (cells := cells + mc') (slots := slots + ms') (ls := ls) (rest := rest) (pc := pc) (own := own) (name := exN h.2.1) (E := E) (ce := ce) (q := q)
          (cx_own hX) (pre.map hEn) (hEn h) (suf.map hEn) (by
            rw [cx_h hX, ← hhs, g1]
            show tableOf _ = _
            unfold tableOf
            rw [List.map_append, List.map_append, List.map_map, List.map_cons, List.map_cons, List.map_map]
            rfl) (fun z hz => by
              obtain ⟨w, hw1, hw2⟩ := List.mem_map.mp hz
              obtain ⟨m1, m2, m3, m4⟩ := hk w (by rw [g1]; exact List.mem_append_left _ hw1)
              subst hw2
              refine Or.inr ⟨m1, exN w.2.1, cx_w hX _ m3, ?_⟩
              rw [hr2]
              exact hnc r (by rw [← g2]; exact n2) w.2.1 m2 (fun e => g4 w hw1 e.symm)) (hcv h hin) n1 (cx_w hX _ n3) (by
              rw [hr2, ← g2]
              exact zz_xu (w := .castable (exN h.2.1) (exN h.2.1)) rfl (zz_kx hX _ n4)) (by rw [e1]; exact hce) hcv9 hcl hvv
        obtain ⟨t2, a1, b1⟩ := hw T' rfl X'
        exact ⟨t2, st9.trans a1, b1⟩
theorem CTp_ofH {y : MethodName} {As : List Value} {M : Mm} {x : Rs α} {lc : List (Nat × Value)} (hy : plainName y.cls = true) (hd : zz_decAll cc L = true) (hl : l.stackTraces = false) (hlc : lv_args 0 As = lc) (hle : (lg_sl As).length ≤ nL)
    (body : ∀ X : XT, Cx l K d nL mc ms X cc y.cls ret hh L → VV l K d nL mc ms rv X x 0 0 M 0 lc []) : CTp l K y (Cond.codeWith y cc nL ret hh) rv d mc ms As M x := by
  intro o M' ho
  refine vx_ofWH (cc := cc) (maxL := nL) (ret := ret) (hh := hh) (ws' := zz_good) hy rfl ?_
  intro p e s m args below meth c s₁ B hml hv
  obtain ⟨rfl, hI, hK, hN, hz⟩ := hv
  have hts := atoms_spec (ws := Cond.codeWith y cc nL ret hh :: zz_good) B.pre
  have hc : Cx l K d nL mc ms (p, e, s, m, As.toArray, below, meth, c) cc y.cls ret hh L := ⟨B.exec, B.bytes, hd, hml, findClass_of_methodNamed B.named, fun w hw => hts w (List.mem_cons_of_mem _ hw), B.returns, B.notSynchronized, vx_table (x := y) B (hts _ List.mem_cons_self), hK, hN, hz, hl⟩
  have hls := lv_entry As (n := nL) hle
  rw [hlc] at hls
  rw [lg_entry_eq]
  exact body _ hc o M' ho s.heap [] _ hI va_S.rf hls
/-- a static call of a method that has handlers -/
def MYW (y : MethodName) (bytes : ByteArray) (maxL : Nat) (ret' : Option FieldType) (hh' : List (Nat × Nat × Nat × Nat)) (n : Nat) : Prop := Cond.codeWith y bytes maxL ret' hh' ∈ zz_good ∧ Cond.initialized y.cls ∈ zz_good ∧ (y.cls ≠ "java/lang/invoke/MethodHandle" ∧ y.cls ≠ "java/lang/invoke/VarHandle" ∧ (parseMethodDescriptor y.desc).map (fun d => d.parameters.length) = some n)
theorem VR_SX (hX : Cx l K d nL mc ms X cc own ret hh L) {f : Rs β} {rv' : β → Option Value} {y : MethodName} {bytes : ByteArray} {maxL n index d' mc' ms' : Nat} {ret' : Option FieldType} {hh' : List (Nat × Nat × Nat × Nat)} {As st0 : List Value} (k : Nat) (hc : CTp l K y (Cond.codeWith y bytes maxL ret' hh') rv' d' mc' ms' As M f) (hy : MYW y bytes maxL ret' hh' n) (hi : Cond.static y ∈ zz_good) (hl : Cond.methodLink own index y ∈ zz_good) (hd : d' + 1 ≤ d) (hm : maxL ≤ 41) (hn : As.length = n) (hst : st0 = As.reverse ++ rest) (hW : (rest.map fun v => v.category).sum ≤ 8) (hk : L[k]? = some (pc, .invokestatic index, 3)) (h1 : cells + mc' ≤ mc) (h2 : slots + ms' ≤ ms) : VR l K d nL mc ms X f rv' mc' ms' cells slots M pc lc st0 rest := by
  intro o1 M1 hf H locs ls hI hS hls
  exact ⟨_, vx_runSX (Ts := zz_good) (own := own) ⟨cx_x hX, cx_b hX, cx_ml hX, cx_own hX, cx_w hX⟩ (hc o1 M1 hf) (vx_cwSW n (cx_w hX) (fun w hw => by
      unfold va_wsS at hw
      rcases List.mem_append.mp hw with h | h
      · simp only [List.mem_cons, List.not_mem_nil, or_false] at h
        rcases h with h | h | h <;> first | (subst h; first | exact ⟨hl, good_of_word (List.mem_filter.mp hl).2⟩ | exact ⟨hi, good_of_word (List.mem_filter.mp hi).2⟩ | exact ⟨hy.2.1, good_of_word (List.mem_filter.mp hy.2.1).2⟩)
      · exact zz_gg hy.1 w h) rfl rfl rfl hy.2.2 ⟨hd, by show 8 + (maxL + 11) + 60 * d' ≤ 60 * d; omega⟩)
    ⟨zz_blind, zz_pc hX hI hS⟩ rfl hn hls.1 hst (lv_room hW) (zz_at (cx_d hX) k hk) ⟨h1, h2⟩⟩
end CAT
