section JDK0
variable {α β : Type} {l : Launch} {K : KT} {d nL mc ms : Nat} {rv : α → Option Value} {X : XT} {cc : ByteArray} {own : String} {ret : Option FieldType} {hh : List (Nat × Nat × Nat × Nat)} {L : zz_L}
variable {x : Rs α} {cells slots : Nat} {M : Mm} {pc : Nat} {lc : List (Nat × Value)} {st rest : List Value}
theorem V_ord (hX : Cx l K d nL mc ms X cc own ret hh L) {index i : Nat} (k q : Nat) (hi : i < 9) (hl9 : Cond.methodLink own index ⟨"SeriesArchive$Kind", "ordinal", "()I"⟩ ∈ zz_good) (hd : 2 ≤ d) (hst : (st.map fun v => v.category).sum ≤ 8) (hk : L[k]? = some (pc, .invokevirtual index, 3)) (hq : pc + 3 = q) (kk : VV l K d nL mc ms rv X x cells slots M q lc (.int (nI i) :: st)) : VV l K d nL mc ms rv X x cells slots M pc lc (.ref (kA K (1000 + i)) :: st) := by
  sorry
theorem V_slen (hX : Cx l K d nL mc ms X cc own ret hh L) {index i : Nat} (k q : Nat) (hi : i < 9) (hl9 : Cond.methodLink own index ⟨"java/lang/String", "length", "()I"⟩ ∈ zz_good) (hd : 7 ≤ d) (hst : (st.map fun v => v.category).sum ≤ 8) (hk : L[k]? = some (pc, .invokevirtual index, 3)) (hq : pc + 3 = q) (kk : VV l K d nL mc ms rv X x cells slots M q lc (.int (zz_slen i) :: st)) : VV l K d nL mc ms rv X x cells slots M pc lc (.ref (kA K (1200 + i)) :: st) := by
  sorry
theorem V_scha (hX : Cx l K d nL mc ms X cc own ret hh L) {index i : Nat} {j : Int32} {t : Rs α} {dg : Decidable (inb j (zz_shl.getD i 0))} (k q : Nat) (hi : i < 9) (hl9 : Cond.methodLink own index ⟨"java/lang/String", "charAt", "(I)C"⟩ ∈ zz_good) (hd : 7 ≤ d) (hst : (st.map fun v => v.category).sum ≤ 8) (hk : L[k]? = some (pc, .invokevirtual index, 3)) (hq : pc + 3 = q) (kk : inb j (zz_shl.getD i 0) → VV l K d nL mc ms rv X t cells slots M q lc (.int (zz_sch i j.toNatClampNeg) :: st)) : VV l K d nL mc ms rv X (@grd _ (inb j (zz_shl.getD i 0)) dg t) cells slots M pc lc (.int j :: .ref (kA K (1200 + i)) :: st) := by
  sorry
theorem VR_B (hX : Cx l K d nL mc ms X cc own ret hh L) {f : Rs β} {rv' : β → Option Value} {y : MethodName} {bytes : ByteArray} {maxL n index d' mc' ms' : Nat} {ret' : Option FieldType} {As st0 : List Value} (k : Nat) (hc : CTp l K y (Cond.code y bytes maxL ret') rv' d' mc' ms' (.ref (kA K 19) :: As) M f) (hy : MY y bytes maxL ret' n) (hi : Cond.instanceMethod y ∈ zz_good) (hse : Cond.selects "java/lang/StringBuilder" y y ∈ zz_good) (hl : Cond.methodLink own index y ∈ zz_good) (hd : d' + 1 ≤ d) (hm : maxL ≤ 41) (hn : As.length = n) (hst : st0 = As.reverse ++ .ref (kA K 19) :: rest) (hW : (rest.map fun v => v.category).sum ≤ 8) (hk : L[k]? = some (pc, .invokevirtual index, 3)) (h1 : cells + mc' ≤ mc) (h2 : slots + ms' ≤ ms) : VR l K d nL mc ms X f rv' mc' ms' cells slots M pc lc st0 rest := by
  intro o1 M1 hf H locs ls hI hS hls
  obtain ⟨sb, hsb, hP, hD⟩ := id hI
  have hrecv : ∃ cell : Cell, H[kA K 19]? = some cell ∧ cell.vm.isStatics = false ∧ X.2.2.1.vm.findClass "java/lang/StringBuilder" = some cell.cls := by
    obtain ⟨q, m, n9, z, t, a, rfl, -⟩ := hsb
    have he : (wsx K M [(kA K 19, .inr (10, [.ref q, .int 0, .int z, .int (nI n9)])), (q, .inl (kC K 4, m, .inl a))])[45]? = some (kA K 19, .inr (10, [.ref q, .int 0, .int z, .int (nI n9)])) := rfl
    exact va_recv (cx_K hX) hP (ci := 10) rfl he
  exact ⟨_, vx_runV (Ts := zz_good) (own := own) ⟨cx_x hX, cx_b hX, cx_ml hX, cx_own hX, cx_w hX⟩ (hc o1 M1 hf) ⟨zz_CB hX hy hl hd hm, cx_w hX _ hi, cx_w hX _ hse⟩
    ⟨zz_blind, hrecv, zz_pc hX hI hS⟩ rfl hn hls.1 hst (lv_room hW) (zz_at (cx_d hX) k hk) ⟨h1, h2⟩⟩
/-- the line as a text: its length at 0, its letters from 1 on -/
def sbpush (M : Mm) (c : Int32) : Mm := mrow M 19 (upd (upd (M 19) (1 + (M 19 0).toNatClampNeg) c) 0 (nI ((M 19 0).toNatClampNeg + 1)))
def sbapp (M : Mm) (t : List Int32) : Mm := t.foldl sbpush M
def digs (v : Int32) : List Int32 := (if v < 0 then [45] else []) ++ (if 10 ≤ iabs v then [48 + iabs v / 10, 48 + (iabs v - iabs v / 10 * 10)] else [48 + iabs v])
def fn_SB_length (M : Mm) : Rs Int32 := some (.inl (M 19 0), M)
def fn_SB_setLength (v1 : Int32) (M : Mm) : Rs Unit := grd (v1 = 0) (some (.inl (), mset M 19 0 0))
def fn_SB_charAt (v1 : Int32) (M : Mm) : Rs Int32 := grd (inb v1 (M 19 0).toNatClampNeg) (some (.inl (M 19 (1 + v1.toNatClampNeg)), M))
def fn_SB_appendC (v1 : Int32) (M : Mm) : Rs Unit := grd (0 ≤ v1 ∧ v1 < 128) (grd ((M 19 0).toNatClampNeg + 1 ≤ 142) (some (.inl (), sbpush M v1)))
def fn_SB_appendI (v1 : Int32) (M : Mm) : Rs Unit := grd (-100 < v1 ∧ v1 < 100) (grd ((M 19 0).toNatClampNeg + 3 ≤ 142) (some (.inl (), sbapp M (digs v1))))
theorem ct_SB_length {l : Launch} (hl : l.stackTraces = false) (K : KT) (M : Mm) : CTp l K y_SB_length (Cond.code y_SB_length prog_34_method_93_code 1 (some .int)) rvI 6 0 0 [.ref (kA K 19)] M (fn_SB_length M) := by
  sorry
theorem ct_SB_setLength {l : Launch} (hl : l.stackTraces = false) (K : KT) (v1 : Int32) (M : Mm) : CTp l K y_SB_setLength (Cond.code y_SB_setLength prog_34_method_89_code 2 none) rvU 12 0 0 [.ref (kA K 19), .int v1] M (fn_SB_setLength v1 M) := by
  sorry
theorem ct_SB_charAt {l : Launch} (hl : l.stackTraces = false) (K : KT) (v1 : Int32) (M : Mm) : CTp l K y_SB_charAt (Cond.code y_SB_charAt prog_34_method_88_code 2 (some .char)) rvI 12 0 0 [.ref (kA K 19), .int v1] M (fn_SB_charAt v1 M) := by
  sorry
theorem ct_SB_appendC {l : Launch} (hl : l.stackTraces = false) (K : KT) (v1 : Int32) (M : Mm) : CTp l K y_SB_appendC (Cond.code y_SB_appendC prog_34_method_14_code 2 (some (.object "java/lang/StringBuilder"))) (fun _ => some (.ref (kA K 19))) 14 1 142 [.ref (kA K 19), .int v1] M (fn_SB_appendC v1 M) := by
  sorry
theorem ct_SB_appendI {l : Launch} (hl : l.stackTraces = false) (K : KT) (v1 : Int32) (M : Mm) : CTp l K y_SB_appendI (Cond.code y_SB_appendI prog_34_method_15_code 2 (some (.object "java/lang/StringBuilder"))) (fun _ => some (.ref (kA K 19))) 14 1 142 [.ref (kA K 19), .int v1] M (fn_SB_appendI v1 M) := by
  sorry
end JDK0
