section ZXOF
variable {l : Launch}
theorem zx_ofW {y : MethodName} {ws ws' : List Cond} {rm : Room} {Pc : Array Value → State → Prop} {Qc : Array Value → State → Outcome → State → Prop} {XC : String → State → State → Prop} {mc ms : Nat} {free : Addr → Prop} {cc : ByteArray} {maxL : Nat} {ret : Option FieldType}
    (hy : plainFor y = true) (hw : ws = Cond.code y cc maxL ret :: ws')
    (body : ∀ p e s m args below meth c s₁, BodyLoose p l y (headSpec ws rm) cc maxL ret e s m args below meth c s₁ → c.maxLocals = maxL → (∀ x ∈ c.exceptionTable.toList, False) → Pc args s →
      W p l e (headSpec ws rm).room s m args below meth c s.heap [] 0 0 (vx_MQ below Qc XC args s mc ms free) (entryFrame m args maxL)) : vx_Met l y ws rm Pc Qc XC mc ms free := by
  refine MetFree.of_bodySF (code := cc) (maxLocals := maxL) (ret := ret) hy ?_ ?_
  · intro args s m h hn
    obtain ⟨meth, c, h1, h2, h3, h4, h5, h6, -, -⟩ := Cond.code_spec hn (atoms_spec (ws := ws) h _ (by rw [hw]; exact List.mem_cons_self))
    exact ⟨meth, c, h1, h2, h3, h4, h5, h6⟩
  · intro p e s m args below meth c s₁ B hml hP _
    have hh0 : s₁.heap = s.heap := by rw [B.state]; rfl
    have ht : ∀ x ∈ c.exceptionTable.toList, False := by
      obtain ⟨meth9, c9, h1, h2, -, -, -, -, h7, -⟩ := Cond.code_spec B.named (atoms_spec (ws := ws) B.pre _ (by rw [hw]; exact List.mem_cons_self))
      cases Option.some.inj (h1.symm.trans B.method)
      cases Option.some.inj (h2.symm.trans (Stand.of_body B).code)
      intro x hx
      rw [Array.isEmpty_iff.mp h7] at hx
      cases hx
    obtain ⟨t, a1, o, b1, b2, b3⟩ := body p e s m args below meth c s₁ B hml ht hP s₁ hh0 (Stand.of_body B)
    exact ⟨t, o, a1, b1, b2, b3⟩
end ZXOF
section CTF
variable {α : Type} {l : Launch} {K : KT} {d nL mc ms : Nat} {rv : α → Option Value} {X : XT} {cc : ByteArray} {own : String} {ret : Option FieldType} {hh : List (Nat × Nat × Nat × Nat)} {L : zz_L}
theorem CTp_ofF {y : MethodName} {As : List Value} {M : Mm} {x : Rs α} {lc : List (Nat × Value)} (hy : plainFor y = true) (hd : zz_decAll cc L = true) (hl : l.stackTraces = false) (hlc : lv_args 0 As = lc) (hle : (lg_sl As).length ≤ nL)
    (body : ∀ X : XT, Cx l K d nL mc ms X cc y.cls ret [] L → VV l K d nL mc ms rv X x 0 0 M 0 lc []) : CTp l K y (Cond.code y cc nL ret) rv d mc ms As M x := by
  intro o M' ho
  refine zx_ofW (cc := cc) (maxL := nL) (ret := ret) (ws' := zz_good) hy rfl ?_
  intro p e s m args below meth c s₁ B hml hex hv
  obtain ⟨rfl, hI, hK, hN, hz⟩ := hv
  have hts := atoms_spec (ws := Cond.code y cc nL ret :: zz_good) B.pre
  have hc : Cx l K d nL mc ms (p, e, s, m, As.toArray, below, meth, c) cc y.cls ret [] L := ⟨B.exec, B.bytes, hd, hml, findClass_of_methodNamed B.named, fun w hw => hts w (List.mem_cons_of_mem _ hw), B.returns, B.notSynchronized, by
    show c.exceptionTable.toList = []
    cases h9 : c.exceptionTable.toList with
    | nil => rfl
    | cons a t => exact (hex a (by rw [h9]; exact List.mem_cons_self)).elim, hK, hN, hz, hl⟩
  have hls := lv_entry As (n := nL) hle
  rw [hlc] at hls
  rw [lg_entry_eq]
  exact body _ hc o M' ho s.heap [] _ hI va_S.rf hls

end CTF
theorem nf_In_51 : ("SeriesArchive$Input", 51, "SeriesArchive$Kind", "ALL", "[LSeriesArchive$Kind;", "SeriesArchive") ∈ zz_nestF := by decide +kernel
theorem nf_In_55 : ("SeriesArchive$Input", 55, "SeriesArchive$Kind", "shape", "Ljava/lang/String;", "SeriesArchive") ∈ zz_nestF := by decide +kernel
