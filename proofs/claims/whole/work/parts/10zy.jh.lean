/-! THE JDK'S OWN METHODS: AbstractStringBuilder, StringBuilder, Arrays, Integer, String, Preconditions, Enum -/
theorem tl_1 (i : Nat) {w : Cond} (h : tables_1_1[i]? = some w) : w ∈ lw_tbl := List.mem_append_right _ (zz_m1 (List.mem_of_getElem? h))
theorem tl_2 (i : Nat) {w : Cond} (h : tables_1_2[i]? = some w) : w ∈ lw_tbl := List.mem_append_right _ (zz_m2 (List.mem_of_getElem? h))
theorem tl_3 (i : Nat) {w : Cond} (h : tables_1_3[i]? = some w) : w ∈ lw_tbl := List.mem_append_right _ (zz_m3 (List.mem_of_getElem? h))
theorem tl_4 (i : Nat) {w : Cond} (h : tables_1_4[i]? = some w) : w ∈ lw_tbl := List.mem_append_right _ (zz_m4 (List.mem_of_getElem? h))
theorem tl_5 (i : Nat) {w : Cond} (h : tables_1_5[i]? = some w) : w ∈ lw_tbl := List.mem_append_right _ (zz_m5 (List.mem_of_getElem? h))
theorem tl_6 (i : Nat) {w : Cond} (h : tables_1_6[i]? = some w) : w ∈ lw_tbl := List.mem_append_right _ (zz_m6 (List.mem_of_getElem? h))
theorem tl_7 (i : Nat) {w : Cond} (h : tables_1_7[i]? = some w) : w ∈ lw_tbl := List.mem_append_right _ (zz_m7 (List.mem_of_getElem? h))
theorem tl_8 (i : Nat) {w : Cond} (h : tables_1_8[i]? = some w) : w ∈ lw_tbl := List.mem_append_right _ (zz_m8 (List.mem_of_getElem? h))
theorem tl_9 (i : Nat) {w : Cond} (h : tables_1_9[i]? = some w) : w ∈ lw_tbl := List.mem_append_right _ (zz_m9 (List.mem_of_getElem? h))
theorem tl_10 (i : Nat) {w : Cond} (h : tables_1_10[i]? = some w) : w ∈ lw_tbl := List.mem_append_right _ (zz_m10 (List.mem_of_getElem? h))
theorem sel_priv {y : MethodName} {C : String} {s : State} {args : Array Value} {n : Nat} (hy : y.cls ≠ "java/lang/invoke/MethodHandle" ∧ y.cls ≠ "java/lang/invoke/VarHandle")
    (hins : (Cond.instantiable C n).before args s = true) (hpriv : (Cond.privateMethod y).before args s = true) (hinst : (Cond.instanceMethod y).before args s = true) (hsame : (Cond.sameMethod y.cls y.cls y.name y.desc).before args s = true) :
    (Cond.selects C y y).before args s = true := by
  obtain ⟨c, k, hc, hk, -, hniab, -, -⟩ := Cond.instantiable_spec hins
  obtain ⟨mk, methM, hnamed, hmethM, -, -⟩ := Cond.instanceMethod_spec hinst
  have hfound : s.methodFound? y.cls y.name y.desc = some mk := State.methodFound?_of_named hnamed hy
  obtain ⟨-, k2, hk2, hni⟩ := Cond.sameMethod_spec (findClass_of_methodNamed hnamed) hfound hsame
  have hsel : selectMethod {} s.vm c mk = .method mk := selectMethod_private hmethM (Cond.privateMethod_at hpriv mk methM hnamed hmethM)
  simp only [Cond.before, Cond.holds, Cond.value, hc, hfound, hnamed, hsel, hk2]
  simp
  exact hni
abbrev sbO (K : KT) (q : Nat) (z : Int32) (n : Nat) : Nat × va_E := (kA K 19, .inr (10, [.ref q, .int 0, .int z, .int (nI n)]))
abbrev sbB (K : KT) (q m : Nat) (a : Nat → Int32) : Nat × va_E := (q, .inl (kC K 4, m, .inl a))
theorem SW_set (K : KT) (M : Mm) (x y : Nat × va_E) (Lw : va_W) : (wsx K M (x :: Lw)).set 45 y = wsx K M (y :: Lw) := by
  unfold wsx
  rw [List.set_append_right _ _ (by rw [List.length_map]; decide), List.length_map]
  rfl
theorem SW_set1 (K : KT) (M : Mm) (x b y : Nat × va_E) (Lw : va_W) : (wsx K M (x :: b :: Lw)).set 46 y = wsx K M (x :: y :: Lw) := by
  unfold wsx
  rw [List.set_append_right _ _ (by rw [List.length_map]; decide), List.length_map]
  rfl
theorem SW_set2 (K : KT) (M : Mm) (x b b2 y : Nat × va_E) (Lw : va_W) : (wsx K M (x :: b :: b2 :: Lw)).set 47 y = wsx K M (x :: b :: y :: Lw) := by
  unfold wsx
  rw [List.set_append_right _ _ (by rw [List.length_map]; decide), List.length_map]
  rfl
theorem SW_app (K : KT) (M : Mm) (A B : va_W) : wsx K M A ++ B = wsx K M (A ++ B) := by
  unfold wsx
  rw [List.append_assoc]
theorem wsx_19 (K : KT) (M : Mm) (g : Nat → Int32) (sb : va_W) : wsx K (mrow M 19 g) sb = wsx K M sb := by
  unfold wsx
  have h : ∀ k ∈ zz_locs, (kA K k, ent K k (mrow M 19 g k)) = (kA K k, ent K k (M k)) := fun k hk => by
    rw [mrow_ne M g (fun e => absurd (e ▸ hk) (by decide))]
  rw [List.map_congr_left h]
section J
variable {l : Launch} {K : KT} {d nL mc ms : Nat} {X : XT} {cc : ByteArray} {own : String} {ret : Option FieldType} {L : zz_L} {Z : State → Prop}
variable {cells slots : Nat} {I : Heap → Prop} {Q : Option Value → Heap → Prop} {pc : Nat} {lc : List (Nat × Value)} {st rest : List Value} {M : Mm}
theorem G_top {v w : Int32} (h : v = w) (kk : VG l K d nL mc ms Z X cells slots I pc lc (.int w :: st)) : VG l K d nL mc ms Z X cells slots I pc lc (.int v :: st) := by
  subst h
  exact kk
theorem sb_get (hX : CxG l K d nL mc ms X cc own ret L) {index j : Nat} {fs : List Value} {v : Value} {Lw : va_W} (k q : Nat) (hF : FL own index 10 j) (hv : fs[j]? = some v) (hk : L[k]? = some (pc, .getfield index, 3)) (hq : pc + 3 = q) (kk : VG l K d nL mc ms Z X cells slots (GI K (wsx K M ((kA K 19, .inr (10, fs)) :: Lw))) q lc (v :: st)) : VG l K d nL mc ms Z X cells slots (GI K (wsx K M ((kA K 19, .inr (10, fs)) :: Lw))) pc lc (.ref (kA K 19) :: st) :=
  G_get hX k q 45 hF hk hq rfl hv kk
theorem sb_put (hX : CxG l K d nL mc ms X cc own ret L) {index j : Nat} {fs : List Value} {v : Value} {ty : FieldType} {Lw : va_W} (k q : Nat) (fs' : List Value) (hF : FP own index 10 j ty) (hn : narrow ty v = v) (hfit : fits ty v = true) (hj : j < fs.length) (hfs : fs.set j v = fs') (hk : L[k]? = some (pc, .putfield index, 3)) (hq : pc + 3 = q) (kk : VG l K d nL mc ms Z X cells slots (GI K (wsx K M ((kA K 19, .inr (10, fs')) :: Lw))) q lc st) : VG l K d nL mc ms Z X cells slots (GI K (wsx K M ((kA K 19, .inr (10, fs)) :: Lw))) pc lc (v :: .ref (kA K 19) :: st) := by
  subst hfs
  refine G_put hX k q 45 hF hn hfit hk hq rfl hj ?_
  rw [SW_set]
  exact kk
theorem G_cs (hX : CxG l K d nL mc ms X cc own ret L) {index : Nat} (k q : Nat) (hl9 : Cond.fieldLink own index "java/lang/String" "COMPACT_STRINGS" "Z" ∈ zz_good) (hk : L[k]? = some (pc, .getstatic index, 3)) (hq : pc + 3 = q) (kk : VG l K d nL mc ms Z X cells slots I q lc (.int 1 :: st)) : VG l K d nL mc ms Z X cells slots I pc lc st := by
  subst hq
  intro H locs ls hI hS hl
  have hN := cg_k hX
  obtain ⟨-, -, -, -, -, -, -, -, -, -, -, -, -, h1, -⟩ := hN
  exact va_gets (cg_x hX) (cg_b hX) h1 hS (cg_own hX) (cg_w hX _ hl9) (fun _ h => h) (zz_at (cg_d hX) k hk) (kk H locs ls hI hS hl)
theorem G_dT (hX : CxG l K d nL mc ms X cc own ret L) {index : Nat} (k q : Nat) (hl9 : Cond.fieldLink own index "java/lang/Integer" "DigitTens" "[B" ∈ zz_good) (hk : L[k]? = some (pc, .getstatic index, 3)) (hq : pc + 3 = q) (kk : VG l K d nL mc ms Z X cells slots I q lc (.ref (kA K 1302) :: st)) : VG l K d nL mc ms Z X cells slots I pc lc st := by
  subst hq
  intro H locs ls hI hS hl
  have hN := cg_k hX
  obtain ⟨-, -, -, -, -, -, -, -, -, -, -, -, -, -, h1, -⟩ := hN
  exact va_gets (cg_x hX) (cg_b hX) h1 hS (cg_own hX) (cg_w hX _ hl9) (fun _ h => h) (zz_at (cg_d hX) k hk) (kk H locs ls hI hS hl)
theorem G_dO (hX : CxG l K d nL mc ms X cc own ret L) {index : Nat} (k q : Nat) (hl9 : Cond.fieldLink own index "java/lang/Integer" "DigitOnes" "[B" ∈ zz_good) (hk : L[k]? = some (pc, .getstatic index, 3)) (hq : pc + 3 = q) (kk : VG l K d nL mc ms Z X cells slots I q lc (.ref (kA K 1303) :: st)) : VG l K d nL mc ms Z X cells slots I pc lc st := by
  subst hq
  intro H locs ls hI hS hl
  have hN := cg_k hX
  obtain ⟨-, -, -, -, -, -, -, -, -, -, -, -, -, -, -, -, h1, -⟩ := hN
  exact va_gets (cg_x hX) (cg_b hX) h1 hS (cg_own hX) (cg_w hX _ hl9) (fun _ h => h) (zz_at (cg_d hX) k hk) (kk H locs ls hI hS hl)
theorem G_lT (hX : CxG l K d nL mc ms X cc own ret L) {w : Nat} (k q : Nat) (hw : w < 100) (hk : L[k]? = some (pc, .baload, 1)) (hq : pc + 1 = q) (kk : VG l K d nL mc ms Z X cells slots I q lc (.int (sb_b (48 + w / 10)) :: st)) : VG l K d nL mc ms Z X cells slots I pc lc (.int (nI w) :: .ref (kA K 1302) :: st) := by
  subst hq
  intro H locs ls hI hS hl
  have hN := cg_k hX
  obtain ⟨-, -, -, -, -, -, -, -, -, -, -, -, -, -, -, h1, -⟩ := hN
  exact va_tb (cg_x hX) (cg_b hX) h1 hS (vp_in_nI hw (by decide)) (by rw [nI_clamp (by omega)]) (zz_at (cg_d hX) k hk) (kk H locs ls hI hS hl)
theorem G_lO (hX : CxG l K d nL mc ms X cc own ret L) {w : Nat} (k q : Nat) (hw : w < 100) (hk : L[k]? = some (pc, .baload, 1)) (hq : pc + 1 = q) (kk : VG l K d nL mc ms Z X cells slots I q lc (.int (sb_b (48 + w % 10)) :: st)) : VG l K d nL mc ms Z X cells slots I pc lc (.int (nI w) :: .ref (kA K 1303) :: st) := by
  subst hq
  intro H locs ls hI hS hl
  have hN := cg_k hX
  obtain ⟨-, -, -, -, -, -, -, -, -, -, -, -, -, -, -, -, -, h1, -⟩ := hN
  exact va_tb (cg_x hX) (cg_b hX) h1 hS (vp_in_nI hw (by decide)) (by rw [nI_clamp (by omega)]) (zz_at (cg_d hX) k hk) (kk H locs ls hI hS hl)
theorem G_sq (hX : CxG l K d nL mc ms X cc own ret L) {index : Nat} (k q : Nat) (hl9 : Cond.fieldLink own index "jdk/internal/util/Preconditions" "SIOOBE_FORMATTER" "Ljava/util/function/BiFunction;" ∈ zz_good) (hk : L[k]? = some (pc, .getstatic index, 3)) (hq : pc + 3 = q) (kk : ∀ v : Value, (v = .null ∨ ∃ t, v = .ref t) → VG l K d nL mc ms Z X cells slots I q lc (v :: st)) : VG l K d nL mc ms Z X cells slots I pc lc st := by
  subst hq
  intro H locs ls hI hS hl
  have hN := cg_k hX
  obtain ⟨-, -, -, -, -, -, -, -, -, -, -, -, -, -, -, -, -, -, -, h1, -⟩ := hN
  rcases h1 with h1 | ⟨t, h1⟩
  · exact va_gets (cg_x hX) (cg_b hX) h1 hS (cg_own hX) (cg_w hX _ hl9) (fun _ h => h) (zz_at (cg_d hX) k hk) (kk _ (.inl rfl) H locs ls hI hS hl)
  · exact va_gets (cg_x hX) (cg_b hX) h1 hS (cg_own hX) (cg_w hX _ hl9) (fun _ h => h) (zz_at (cg_d hX) k hk) (kk _ (.inr ⟨t, rfl⟩) H locs ls hI hS hl)
theorem G_ldcI2 (hX : CxG l K d nL mc ms X cc own ret L) {index : Nat} {v : Int32} (k q : Nat) (hc : Cond.constant own index v ∈ zz_good) (hk : L[k]? = some (pc, .ldc index, 2)) (hq : pc + 2 = q) (kk : VG l K d nL mc ms Z X cells slots I q lc (.int v :: st)) : VG l K d nL mc ms Z X cells slots I pc lc st := G_ldcI hX k q hc hk hq kk
theorem G_max (hX : CxG l K d nL mc ms X cc own ret L) {index : Nat} {a b : Int32} (k q : Nat) (hm : MM own index Lib.Math.max.name Lib.Math.max.code 2) (hd : 1 ≤ d) (hst : (st.map fun v => v.category).sum ≤ 8) (h1 : cells ≤ mc) (h2 : slots ≤ ms) (hk : L[k]? = some (pc, .invokestatic index, 3)) (hq : pc + 3 = q) (kk : VG l K d nL mc ms Z X cells slots I q lc (.int (imax a b) :: st)) : VG l K d nL mc ms Z X cells slots I pc lc (.int b :: .int a :: st) := by
  subst hq
  intro H locs ls hI hS hl
  exact va_mmax (cg_x hX) (cg_b hX) ((cg_ml hX).trans hl.1.symm) (cg_own hX) (cg_w hX _ hm.1) (cg_w hX _ hm.2.1) (cg_w hX _ hm.2.2.1) (cg_w hX _ hm.2.2.2) hd (by show _ + 13 ≤ 60 * d; omega) h1 h2 (zz_at (cg_d hX) k hk) (kk H locs ls hI hS hl)
theorem G_min (hX : CxG l K d nL mc ms X cc own ret L) {index : Nat} {a b : Int32} (k q : Nat) (hm : MM own index Lib.Math.min.name Lib.Math.min.code 2) (hd : 1 ≤ d) (hst : (st.map fun v => v.category).sum ≤ 8) (h1 : cells ≤ mc) (h2 : slots ≤ ms) (hk : L[k]? = some (pc, .invokestatic index, 3)) (hq : pc + 3 = q) (kk : VG l K d nL mc ms Z X cells slots I q lc (.int (imin a b) :: st)) : VG l K d nL mc ms Z X cells slots I pc lc (.int b :: .int a :: st) := by
  subst hq
  intro H locs ls hI hS hl
  exact va_mmin (cg_x hX) (cg_b hX) ((cg_ml hX).trans hl.1.symm) (cg_own hX) (cg_w hX _ hm.1) (cg_w hX _ hm.2.1) (cg_w hX _ hm.2.2.1) (cg_w hX _ hm.2.2.2) hd (by show _ + 13 ≤ 60 * d; omega) h1 h2 (zz_at (cg_d hX) k hk) (kk H locs ls hI hS hl)
theorem G_newB (hX : CxG l K d nL mc ms X cc own ret L) {w : Nat} {ws : va_W} (k q : Nat) (ha : Cond.arrayClass .byte ∈ zz_good) (hw : w ≤ 65536) (h1 : cells + 1 ≤ mc) (h2 : slots + w ≤ ms) (hk : L[k]? = some (pc, .newarray .byte, 2)) (hq : pc + 2 = q) (kk : ∀ a, VG l K d nL mc ms Z X (cells + 1) (slots + w) (GI K (ws ++ [(a, .inl (kC K 4, w, .inl (fun _ => 0)))])) q lc (.ref a :: st)) : VG l K d nL mc ms Z X cells slots (GI K ws) pc lc (.int (nI w) :: st) := by
  subst hq
  intro H locs ls hI hS hl
  refine va_newa (atype := .byte) (cg_x hX) (cg_b hX) (cg_w hX _ ha) rfl (cg_K hX) hI.1 hI.2 hS (kF_up hX) (a0 := (w, .inl (fun _ => 0))) (fun cA => rfl) (nI_pos (by omega)) (nI_clamp (by omega)) (by show w * 1 ≤ _; omega) h1 h2 (zz_at (cg_d hX) k hk) (fun a cA H1 hK1 hP1 hD1 hS1 => ?_)
  have e5 := (hK1.2 5 _ rfl).2
  have e4 := ((cg_K hX).2 4 _ rfl).2
  have e : cA = kC K 4 := Option.some.inj (Eq.trans (Eq.symm e5) e4)
  subst e
  exact kk a H1 locs ls ⟨hP1, hD1⟩ hS1 hl
theorem G_copyB (hX : CxG l K d nL mc ms X cc own ret L) {index a0 a n0 n1 w : Nat} {f g : Nat → Int32} {ws : va_W} (k q i0 i1 : Nat) (hl9 : Cond.methodLink own index arraycopyName ∈ zz_good) (hn9 : Cond.native arraycopyName ∈ zz_good) (hs9 : Cond.static arraycopyName ∈ zz_good) (hi9 : Cond.initialized "java/lang/System" ∈ zz_good) (he0 : ws[i0]? = some (a0, .inl (kC K 4, n0, .inl f))) (he1 : ws[i1]? = some (a, .inl (kC K 4, n1, .inl g))) (hf : sb_Fit f) (h4 : w ≤ n0) (h5 : w ≤ n1) (hw : w < 2 ^ 31) (hd : 1 ≤ d) (hlo : (st.map fun v => v.category).sum + (nativeFrameWords "java/lang/System" "arraycopy" 5 + 11) ≤ 60 * d) (hk : L[k]? = some (pc, .invokestatic index, 3)) (hq : pc + 3 = q) (kk : VG l K d nL mc ms Z X cells slots (GI K (ws.set i1 (a, .inl (kC K 4, n1, .inl (va_cpy f g 0 0 w))))) q lc st) : VG l K d nL mc ms Z X cells slots (GI K ws) pc lc (.int (nI w) :: .int 0 :: .ref a :: .int 0 :: .ref a0 :: st) := by
  subst hq
  intro H locs ls hI hS hl
  have ew : (nI w).toNatClampNeg = w := nI_clamp hw
  refine va_copyi (ty := .byte) (cg_x hX) (cg_b hX) ((cg_ml hX).trans hl.1.symm) (cg_own hX) (cg_w hX _ hl9) (cg_w hX _ hn9) (cg_w hX _ hs9) (cg_w hX _ hi9) (cg_K hX) hI.1 hI.2 hS i0 i1 4 4 he0 he1 rfl rfl rfl (sp := 0) (dp := 0) (n := nI w) (by decide) (by decide) (nI_pos hw) (by rw [ew, sb_cl0]; omega) (by rw [ew, sb_cl0]; omega) (fun i _ => hf _) hd hlo (zz_at (cg_d hX) k hk) (fun H1 locs1 hP1 hD1 hS1 => ?_)
  rw [ew, sb_cl0] at hP1 hD1
  exact kk H1 locs1 ls ⟨hP1, hD1⟩ hS1 hl
theorem cg_pr (hX : CxG l K d nL mc ms X cc own ret L) {y : MethodName} (h : Cond.privateMethod y ∈ lw_tbl) : (Cond.privateMethod y).before X.2.2.2.2.1 X.2.2.1 = true := by
  have hN := cg_k hX
  obtain ⟨-, -, -, -, -, -, -, -, -, -, -, -, -, -, -, -, -, -, -, -, h21⟩ := hN
  exact zz_xu rfl (h21 _ (zz_inx h rfl))
/-- a private method of a class above the receiver's -/
theorem G_callP (hX : CxG l K d nL mc ms X cc own ret L) {y : MethodName} {bytes : ByteArray} {maxL n index d' mc' ms' b ci N N9 : Nat} {C : String} {T : u_T} {fs : List Value} {ws : va_W} {ret' : Option FieldType} {As st0 : List Value} {Q' : Option Value → Heap → Prop} (k i : Nat) (hc : CG l K y (Cond.code y bytes maxL ret') d' mc' ms' (.ref b :: As) (GI K ws) Q') (hy : MY y bytes maxL ret' n) (hi : Cond.instanceMethod y ∈ zz_good) (hpr : Cond.privateMethod y ∈ lw_tbl) (hsm : Cond.sameMethod y.cls y.cls y.name y.desc ∈ zz_good) (hin : Cond.instantiable C N9 ∈ zz_good) (hl9 : Cond.methodLink own index y ∈ zz_good) (he : ws[i]? = some (b, .inr (ci, fs))) (hcl : wcl[ci]? = some (C, T, N)) (hd : d' + 1 ≤ d) (hm : maxL ≤ 41) (hn : As.length = n) (hst : st0 = As.reverse ++ .ref b :: rest) (hW : (rest.map fun v => v.category).sum ≤ 8) (hk : L[k]? = some (pc, .invokevirtual index, 3)) (h1 : cells + mc' ≤ mc) (h2 : slots + ms' ≤ ms)
    (kk : ∀ v, VG l K d nL mc ms Z X (cells + mc') (slots + ms') (Q' v) (pc + 3) lc (v.toList ++ rest)) : VG l K d nL mc ms Z X cells slots (GI K ws) pc lc st0 :=
  G_run (I' := GI K ws) (fun H locs ls hI hS hl => va_runV (Ts := zz_good) (own := own) (C := C) ⟨cg_x hX, cg_b hX, cg_ml hX, cg_own hX, cg_w hX⟩ hc ⟨CG_CB hX hy hl9 hd hm, cg_w hX _ hi, sel_priv ⟨hy.2.2.1, hy.2.2.2.1⟩ (cg_w hX _ hin) (cg_pr hX hpr) (cg_w hX _ hi) (cg_w hX _ hsm)⟩ ⟨PG_blind, va_recv (cg_K hX) hI.1 hcl he, PG_pc hX hI hS⟩ rfl hn hl.1 hst (lv_room hW) (zz_at (cg_d hX) k hk) ⟨h1, h2⟩) kk
theorem VG_inv (k : ∀ (q m n : Nat) (z : Int32) (t : Nat → Nat) (a : Nat → Int32), M 19 0 = nI n → n ≤ m → (m = 16 ∨ m = 34 ∨ m = 70 ∨ m = 142) → sb_Lat t n a → sb_Fit a → (∀ j, j < n → M 19 (1 + j) = nI (t j)) → VG l K d nL mc ms Z X cells slots (GI K (wsx K M [sbO K q z n, sbB K q m a])) pc lc st) : VG l K d nL mc ms Z X cells slots (InvH K M) pc lc st := by
  intro H locs ls hI hS hl
  obtain ⟨sb, ⟨q, m, n, z, t, a, rfl, h0, h1, h2, h3, h4, h5⟩, hP, hD⟩ := hI
  exact k q m n z t a h0 h1 h2 h3 h4 h5 H locs ls ⟨hP, hD⟩ hS hl
theorem inv_mk {g : Nat → Int32} {q m n : Nat} {z : Int32} {t : Nat → Nat} {a : Nat → Int32} (h0 : g 0 = nI n) (h1 : n ≤ m) (h2 : m = 16 ∨ m = 34 ∨ m = 70 ∨ m = 142) (h3 : sb_Lat t n a) (h4 : sb_Fit a) (h5 : ∀ j, j < n → g (1 + j) = nI (t j)) {H : Heap} (hG : GI K (wsx K M [sbO K q z n, sbB K q m a]) H) : InvH K (mrow M 19 g) H :=
  ⟨_, by rw [mrow_eq]; exact ⟨q, m, n, z, t, a, rfl, h0, h1, h2, h3, h4, h5⟩, by rw [wsx_19]; exact hG.1, by rw [wsx_19]; exact hG.2⟩
theorem inv_mk0 {q m n : Nat} {z : Int32} {t : Nat → Nat} {a : Nat → Int32} (h0 : M 19 0 = nI n) (h1 : n ≤ m) (h2 : m = 16 ∨ m = 34 ∨ m = 70 ∨ m = 142) (h3 : sb_Lat t n a) (h4 : sb_Fit a) (h5 : ∀ j, j < n → M 19 (1 + j) = nI (t j)) {H : Heap} (hG : GI K (wsx K M [sbO K q z n, sbB K q m a]) H) : InvH K M H :=
  ⟨_, ⟨q, m, n, z, t, a, rfl, h0, h1, h2, h3, h4, h5⟩, hG.1, hG.2⟩
theorem GI_drop {x b b2 : Nat × va_E} {H : Heap} (h : GI K (wsx K M [x, b, b2]) H) : GI K (wsx K M [x, b2]) H := by
  have e : ∀ (i : Nat) (p : Nat × va_E), (wsx K M [x, b2])[i]? = some p → (wsx K M [x, b, b2])[if i < 46 then i else i + 1]? = some p := by
    intro i p hp
    unfold wsx at hp ⊢
    have hl : (zz_locs.map (fun k => (kA K k, ent K k (M k)))).length = 45 := by rw [List.length_map]; rfl
    by_cases c : i < 45
    · rw [if_pos (by omega)]
      rw [List.getElem?_append_left (by omega)] at hp ⊢
      exact hp
    · rw [List.getElem?_append_right (by omega), hl] at hp
      by_cases c2 : i = 45
      · subst c2
        rw [if_pos (by omega), List.getElem?_append_right (by omega), hl]
        exact hp
      · rw [if_neg (by omega), List.getElem?_append_right (by omega), hl]
        by_cases c3 : i = 46
        · subst c3
          exact hp
        · have h9 := (List.getElem?_eq_some_iff.mp hp).1
          have h10 : ([x, b2] : va_W).length = 2 := rfl
          omega
  refine ⟨fun i p hp => h.1 _ p (e i p hp), fun i j p q hp hq hpq => ?_, fun i p hp => h.2.2 _ p (e i p hp)⟩
  have h9 := h.2.1 _ _ p q (e i p hp) (e j q hq) hpq
  by_cases c1 : i < 46
  · by_cases c2 : j < 46
    · rw [if_pos c1, if_pos c2] at h9; exact h9
    · rw [if_pos c1, if_neg c2] at h9; omega
  · by_cases c2 : j < 46
    · rw [if_neg c1, if_pos c2] at h9; omega
    · rw [if_neg c1, if_neg c2] at h9; omega
theorem le0_iff {a b : Nat} (ha : a < 2 ^ 30) (hb : b < 2 ^ 30) : nI a - nI b ≤ 0 ↔ a ≤ b := by
  rw [Int32.le_iff_toInt_le, pk_sub_toInt ha hb, Int32.toInt_zero]
  omega
end J
