section CORE4
variable {α β : Type} {l : Launch} {K : KT} {d nL mc ms : Nat} {rv : α → Option Value} {X : XT} {cc : ByteArray} {own : String} {ret : Option FieldType} {hh : List (Nat × Nat × Nat × Nat)} {L : zz_L}
variable {x : Rs α} {cells slots : Nat} {M : Mm} {pc : Nat} {lc : List (Nat × Value)} {st rest : List Value}
theorem VV_ite {c : Prop} {dc : Decidable c} {t f : Rs α} (kt : c → VV l K d nL mc ms rv X t cells slots M pc lc st) (kf : ¬ c → VV l K d nL mc ms rv X f cells slots M pc lc st) : VV l K d nL mc ms rv X (@ite _ c dc t f) cells slots M pc lc st := by
  intro o M' ho
  by_cases h : c
  · rw [if_pos h] at ho; exact kt h o M' ho
  · rw [if_neg h] at ho; exact kf h o M' ho
theorem V_iincL (hX : Cx l K d nL mc ms X cc own ret hh L) {i : Nat} {n : Int} {v e : Int32} {kf : Int32 → Rs α} (k q j : Nat) (hk : L[k]? = some (pc, .iinc i n, 3)) (hq : pc + 3 = q) (hj : lc[j]? = some (i, .int v)) (hw : v + Int32.ofInt n = e) (hn : i < nL) (kk : ∀ w : Int32, w = e → VV l K d nL mc ms rv X (kf w) cells slots M q ((i, .int w) :: lc.filter (fun q => !(q.1 == i) && !(q.1 + 1 == i && q.2.category == 2))) st) : VV l K d nL mc ms rv X (li e kf) cells slots M pc lc st :=
  V_iinc hX k q j e _ hk hq hj hw hn rfl (kk e rfl)
def imax (a b : Int32) : Int32 := if a < b then b else a
def imin (a b : Int32) : Int32 := if b < a then b else a
def iabs (a : Int32) : Int32 := if 0 ≤ a then a else 0 - a
def MM (own : String) (index : Nat) (y : MethodName) (cc : ByteArray) (n : Nat) : Prop := Cond.methodLink own index y ∈ zz_good ∧ Cond.static y ∈ zz_good ∧ Cond.initialized "java/lang/Math" ∈ zz_good ∧ Cond.code y cc n (some .int) ∈ zz_good
theorem V_max (hX : Cx l K d nL mc ms X cc own ret hh L) {index : Nat} {a b : Int32} (k q : Nat) (hm : MM own index Lib.Math.max.name Lib.Math.max.code 2) (hd : 1 ≤ d) (hst : (st.map fun v => v.category).sum ≤ 8) (h1 : cells ≤ mc) (h2 : slots ≤ ms) (hk : L[k]? = some (pc, .invokestatic index, 3)) (hq : pc + 3 = q) (kk : VV l K d nL mc ms rv X x cells slots M q lc (.int (imax a b) :: st)) : VV l K d nL mc ms rv X x cells slots M pc lc (.int b :: .int a :: st) := by
  subst hq
  intro o M' ho H locs ls hI hS hl
  exact va_mmax (cx_x hX) (cx_b hX) ((cx_ml hX).trans hl.1.symm) (cx_own hX) (cx_w hX _ hm.1) (cx_w hX _ hm.2.1) (cx_w hX _ hm.2.2.1) (cx_w hX _ hm.2.2.2) hd (by show _ + 13 ≤ 60 * d; omega) h1 h2 (zz_at (cx_d hX) k hk) (kk o M' ho H locs ls hI hS hl)
theorem V_min (hX : Cx l K d nL mc ms X cc own ret hh L) {index : Nat} {a b : Int32} (k q : Nat) (hm : MM own index Lib.Math.min.name Lib.Math.min.code 2) (hd : 1 ≤ d) (hst : (st.map fun v => v.category).sum ≤ 8) (h1 : cells ≤ mc) (h2 : slots ≤ ms) (hk : L[k]? = some (pc, .invokestatic index, 3)) (hq : pc + 3 = q) (kk : VV l K d nL mc ms rv X x cells slots M q lc (.int (imin a b) :: st)) : VV l K d nL mc ms rv X x cells slots M pc lc (.int b :: .int a :: st) := by
  subst hq
  intro o M' ho H locs ls hI hS hl
  exact va_mmin (cx_x hX) (cx_b hX) ((cx_ml hX).trans hl.1.symm) (cx_own hX) (cx_w hX _ hm.1) (cx_w hX _ hm.2.1) (cx_w hX _ hm.2.2.1) (cx_w hX _ hm.2.2.2) hd (by show _ + 13 ≤ 60 * d; omega) h1 h2 (zz_at (cx_d hX) k hk) (kk o M' ho H locs ls hI hS hl)
theorem V_abs (hX : Cx l K d nL mc ms X cc own ret hh L) {index : Nat} {a : Int32} (k q : Nat) (hm : MM own index Lib.Math.abs.name Lib.Math.abs.code 1) (hd : 1 ≤ d) (hst : (st.map fun v => v.category).sum ≤ 8) (h1 : cells ≤ mc) (h2 : slots ≤ ms) (hk : L[k]? = some (pc, .invokestatic index, 3)) (hq : pc + 3 = q) (kk : VV l K d nL mc ms rv X x cells slots M q lc (.int (iabs a) :: st)) : VV l K d nL mc ms rv X x cells slots M pc lc (.int a :: st) := by
  subst hq
  intro o M' ho H locs ls hI hS hl
  exact va_mabs (cx_x hX) (cx_b hX) ((cx_ml hX).trans hl.1.symm) (cx_own hX) (cx_w hX _ hm.1) (cx_w hX _ hm.2.1) (cx_w hX _ hm.2.2.1) (cx_w hX _ hm.2.2.2) hd (by show _ + 13 ≤ 60 * d; omega) h1 h2 (zz_at (cx_d hX) k hk) (kk o M' ho H locs ls hI hS hl)
theorem V_ldcI (hX : Cx l K d nL mc ms X cc own ret hh L) {index : Nat} {v : Int32} (k q : Nat) (hc : Cond.constant own index v ∈ zz_good) (hk : L[k]? = some (pc, .ldc index, 2)) (hq : pc + 2 = q) (kk : VV l K d nL mc ms rv X x cells slots M q lc (.int v :: st)) : VV l K d nL mc ms rv X x cells slots M pc lc st := by
  subst hq
  intro o M' ho H locs ls hI hS hl
  exact lv_ldc (cx_x hX) (cx_b hX) (cx_own hX) (cx_w hX _ hc) (zz_at (cx_d hX) k hk) (kk o M' ho H locs ls hI hS hl)
/-! constants -/
theorem V_kind (hX : Cx l K d nL mc ms X cc own ret hh L) {index : Nat} {nm : String} (k q i : Nat) (hi : i < 9) (hn : zz_kinds.getD i "" = nm) (hl9 : Cond.fieldLink own index "SeriesArchive$Kind" nm "LSeriesArchive$Kind;" ∈ zz_good) (hk : L[k]? = some (pc, .getstatic index, 3)) (hq : pc + 3 = q) (kk : VV l K d nL mc ms rv X x cells slots M q lc (.ref (kA K (1000 + i)) :: st)) : VV l K d nL mc ms rv X x cells slots M pc lc st := by
  subst hq
  intro o M' ho H locs ls hI hS hl
  have hN := cx_k hX
  obtain ⟨h1, -⟩ := hN
  have h2 := (h1.1 i hi).1
  rw [hn] at h2
  exact va_gets (cx_x hX) (cx_b hX) h2 hS (cx_own hX) (cx_w hX _ hl9) (fun _ h => h) (zz_at (cx_d hX) k hk) (kk o M' ho H locs ls hI hS hl)
theorem V_fault (hX : Cx l K d nL mc ms X cc own ret hh L) {index : Nat} {nm : String} (k q i : Nat) (hi : i < 4) (hn : zz_faults.getD i "" = nm) (hl9 : Cond.fieldLink own index "SeriesArchive$Fault" nm "LSeriesArchive$Fault;" ∈ zz_good) (hk : L[k]? = some (pc, .getstatic index, 3)) (hq : pc + 3 = q) (kk : VV l K d nL mc ms rv X x cells slots M q lc (.ref (kA K (1100 + i)) :: st)) : VV l K d nL mc ms rv X x cells slots M pc lc st := by
  subst hq
  intro o M' ho H locs ls hI hS hl
  have hN := cx_k hX
  obtain ⟨-, h1, -⟩ := hN
  have h2 := (h1.1 i hi).1
  rw [hn] at h2
  exact va_gets (cx_x hX) (cx_b hX) h2 hS (cx_own hX) (cx_w hX _ hl9) (fun _ h => h) (zz_at (cx_d hX) k hk) (kk o M' ho H locs ls hI hS hl)
theorem V_sw (hX : Cx l K d nL mc ms X cc own ret hh L) {index : Nat} (k q : Nat) (hl9 : Cond.fieldLink own index "SeriesArchive$1" "$SwitchMap$SeriesArchive$Kind" "[I" ∈ zz_good) (hk : L[k]? = some (pc, .getstatic index, 3)) (hq : pc + 3 = q) (kk : VV l K d nL mc ms rv X x cells slots M q lc (.ref (kA K 1301) :: st)) : VV l K d nL mc ms rv X x cells slots M pc lc st := by
  subst hq
  intro o M' ho H locs ls hI hS hl
  have hN := cx_k hX
  obtain ⟨-, -, -, -, -, h1, -⟩ := hN
  exact va_gets (cx_x hX) (cx_b hX) h1 hS (cx_own hX) (cx_w hX _ hl9) (fun _ h => h) (zz_at (cx_d hX) k hk) (kk o M' ho H locs ls hI hS hl)
theorem V_swld (hX : Cx l K d nL mc ms X cc own ret hh L) (k q : Nat) {i : Nat} (hi : i < 9) (hk : L[k]? = some (pc, .iaload, 1)) (hq : pc + 1 = q) (kk : VV l K d nL mc ms rv X x cells slots M q lc (.int (zz_sw i) :: st)) : VV l K d nL mc ms rv X x cells slots M pc lc (.int (nI i) :: .ref (kA K 1301) :: st) := by
  subst hq
  intro o M' ho H locs ls hI hS hl
  have hN := cx_k hX
  obtain ⟨-, -, -, -, -, -, h1, -⟩ := hN
  exact va_ti (cx_x hX) (cx_b hX) h1 hS (vp_in_nI hi (by decide)) (by rw [nI_clamp (by omega)]) (zz_at (cx_d hX) k hk) (kk o M' ho H locs ls hI hS hl)
theorem V_all (hX : Cx l K d nL mc ms X cc own ret hh L) {index : Nat} {host : String} (k q : Nat) (hl9 : (own, index, "SeriesArchive$Kind", "ALL", "[LSeriesArchive$Kind;", host) ∈ zz_nestF) (hk : L[k]? = some (pc, .getstatic index, 3)) (hq : pc + 3 = q) (kk : VV l K d nL mc ms rv X x cells slots M q lc (.ref (kA K 1300) :: st)) : VV l K d nL mc ms rv X x cells slots M pc lc st := by
  subst hq
  intro o M' ho H locs ls hI hS hl
  have hN := cx_k hX
  obtain ⟨-, -, -, h1, -, -, -, -, -, -, -, hn, -⟩ := hN
  exact va_getsN (cx_x hX) (cx_b hX) h1 hS (cx_own hX) (va_Nw.use rfl (hn _ hl9)) (fun _ h => h) (zz_at (cx_d hX) k hk) (kk o M' ho H locs ls hI hS hl)
theorem V_alllen (hX : Cx l K d nL mc ms X cc own ret hh L) (k q : Nat) (hk : L[k]? = some (pc, .arraylength, 1)) (hq : pc + 1 = q) (kk : VV l K d nL mc ms rv X x cells slots M q lc (.int 9 :: st)) : VV l K d nL mc ms rv X x cells slots M pc lc (.ref (kA K 1300) :: st) := by
  subst hq
  intro o M' ho H locs ls hI hS hl
  have hN := cx_k hX
  obtain ⟨-, -, -, -, h1, -⟩ := hN
  exact va_tlen (cx_x hX) (cx_b hX) h1 hS rfl (zz_at (cx_d hX) k hk) (kk o M' ho H locs ls hI hS hl)
theorem V_aald (hX : Cx l K d nL mc ms X cc own ret hh L) (k q : Nat) {i : Int32} {t : Rs α} {dg : Decidable (inb i 9)} (hk : L[k]? = some (pc, .aaload, 1)) (hq : pc + 1 = q) (kk : i.toNatClampNeg < 9 → VV l K d nL mc ms rv X t cells slots M q lc (.ref (kA K (1000 + i.toNatClampNeg)) :: st)) : VV l K d nL mc ms rv X (@grd _ (inb i 9) dg t) cells slots M pc lc (.int i :: .ref (kA K 1300) :: st) := by
  subst hq
  refine VV_grd (fun g => ?_)
  intro o M' ho H locs ls hI hS hl
  have hN := cx_k hX
  obtain ⟨-, -, -, -, h1, -⟩ := hN
  exact vb_tq (cx_x hX) (cx_b hX) h1 hS g rfl (zz_at (cx_d hX) k hk) (kk (Nat.not_le.mp fun q => g (Or.inr q)) o M' ho H locs ls hI hS hl)
theorem V_shape (hX : Cx l K d nL mc ms X cc own ret hh L) {index : Nat} {host : String} (k q : Nat) {i : Nat} (hi : i < 9) (hl9 : (own, index, "SeriesArchive$Kind", "shape", "Ljava/lang/String;", host) ∈ zz_nestF) (hk : L[k]? = some (pc, .getfield index, 3)) (hq : pc + 3 = q) (kk : VV l K d nL mc ms rv X x cells slots M q lc (.ref (kA K (1200 + i)) :: st)) : VV l K d nL mc ms rv X x cells slots M pc lc (.ref (kA K (1000 + i)) :: st) := by
  subst hq
  intro o M' ho H locs ls hI hS hl
  have hN := cx_k hX
  obtain ⟨-, -, h3, -, -, -, -, -, -, -, -, hn, -⟩ := hN
  obtain ⟨cf, kf, fi, f, cell, g1, g2, g3, g4, g5, g6⟩ := (h3 i hi).kept hS.2.1
  exact va_Wgetf (cx_x hX) (cx_b hX) (cx_own hX) (va_Nw.use rfl (hn _ hl9)) g1 g2 g3 g4 g5 rfl rfl (zz_at (cx_d hX) k hk) (kk o M' ho H locs ls hI hS hl)
theorem V_acmpN (hX : Cx l K d nL mc ms X cc own ret hh L) {a b : Nat} {t f : Rs α} {off : Int} {dc : Decidable (a = b)} (k q tgt : Nat) (ha : a < 4) (hb : b < 4) (hk : L[k]? = some (pc, .if_acmp .ne off, 3)) (hq : pc + 3 = q) (ht : (pc : Int) + off = (tgt : Int)) (kt : ¬ a = b → VV l K d nL mc ms rv X t cells slots M tgt lc st) (kf : a = b → VV l K d nL mc ms rv X f cells slots M q lc st) : VV l K d nL mc ms rv X (@ite _ (a = b) dc f t) cells slots M pc lc (.ref (kA K (1100 + b)) :: .ref (kA K (1100 + a)) :: st) := by
  subst hq
  intro o M' ho H locs ls hI hS hl
  have hN := cx_k hX
  obtain ⟨-, h1, -⟩ := hN
  refine lv_acmp_ne (rx := some (kA K (1100 + a))) (ry := some (kA K (1100 + b))) (cx_x hX) (cx_b hX) (zz_at (cx_d hX) k hk) ht (fun c9 => ?_) (fun c9 => ?_)
  · have c8 : ¬ a = b := fun e => c9 (by rw [e])
    rw [if_neg c8] at ho
    exact kt c8 o M' ho H locs ls hI hS hl
  · have c8 : a = b := h1.2 a b ha hb (Option.some.inj c9)
    rw [if_pos c8] at ho
    exact kf c8 o M' ho H locs ls hI hS hl
theorem V_acmpE (hX : Cx l K d nL mc ms X cc own ret hh L) {a b : Nat} {t f : Rs α} {off : Int} {dc : Decidable (a = b)} (k q tgt : Nat) (ha : a < 4) (hb : b < 4) (hk : L[k]? = some (pc, .if_acmp .eq off, 3)) (hq : pc + 3 = q) (ht : (pc : Int) + off = (tgt : Int)) (kt : a = b → VV l K d nL mc ms rv X t cells slots M tgt lc st) (kf : ¬ a = b → VV l K d nL mc ms rv X f cells slots M q lc st) : VV l K d nL mc ms rv X (@ite _ (a = b) dc t f) cells slots M pc lc (.ref (kA K (1100 + b)) :: .ref (kA K (1100 + a)) :: st) := by
  subst hq
  intro o M' ho H locs ls hI hS hl
  have hN := cx_k hX
  obtain ⟨-, h1, -⟩ := hN
  refine lv_acmp_eq (rx := some (kA K (1100 + a))) (ry := some (kA K (1100 + b))) (cx_x hX) (cx_b hX) (zz_at (cx_d hX) k hk) ht (fun c9 => ?_) (fun c9 => ?_)
  · have c8 : a = b := h1.2 a b ha hb (Option.some.inj c9)
    rw [if_pos c8] at ho
    exact kt c8 o M' ho H locs ls hI hS hl
  · have c8 : ¬ a = b := fun e => c9 (by rw [e])
    rw [if_neg c8] at ho
    exact kf c8 o M' ho H locs ls hI hS hl
theorem zz_ne {a v : Int32} (z : Int) (hz : v.toInt = z) (h : ¬ a = v) : a.toInt ≠ z := fun e => h (Int32.toInt_inj.mp (e.trans hz.symm))
theorem V_tabIn (hX : Cx l K d nL mc ms X cc own ret hh L) {dflt lo hi off : Int} {offs : Array Int} {len : Nat} {a v : Int32} (k tgt : Nat) (z : Int) (h : a = v) (hz : v.toInt = z) (hk : L[k]? = some (pc, .tableswitch dflt lo hi offs, len)) (h1 : ¬ z < lo) (h2 : ¬ hi < z) (ho9 : offs[(z - lo).toNat]? = some off) (ht : (pc : Int) + off = (tgt : Int)) (kk : VV l K d nL mc ms rv X x cells slots M tgt lc st) : VV l K d nL mc ms rv X x cells slots M pc lc (.int a :: st) := by
  subst h; subst hz
  intro o M' ho H locs ls hI hS hl
  exact lv_tableIn (cx_x hX) (cx_b hX) (zz_at (cx_d hX) k hk) h1 h2 ho9 ht (kk o M' ho H locs ls hI hS hl)
theorem V_tabOut (hX : Cx l K d nL mc ms X cc own ret hh L) {dflt lo hi : Int} {offs : Array Int} {len : Nat} {a : Int32} (k tgt : Nat) (hk : L[k]? = some (pc, .tableswitch dflt lo hi offs, len)) (h : a.toInt < lo ∨ hi < a.toInt) (ht : (pc : Int) + dflt = (tgt : Int)) (kk : VV l K d nL mc ms rv X x cells slots M tgt lc st) : VV l K d nL mc ms rv X x cells slots M pc lc (.int a :: st) := by
  intro o M' ho H locs ls hI hS hl
  exact lv_tableOut (cx_x hX) (cx_b hX) (zz_at (cx_d hX) k hk) h ht (kk o M' ho H locs ls hI hS hl)
theorem V_lookup (hX : Cx l K d nL mc ms X cc own ret hh L) {dflt off : Int} {ps : Array (Int × Int)} {len : Nat} {a : Int32} (k tgt : Nat) (hk : L[k]? = some (pc, .lookupswitch dflt ps, len)) (hp : (ps.toList.zip (ps.toList.drop 1)).all (fun (a, next) => a.1 < next.1) = true) (ho9 : Op.lookupswitch.offset ps.toList dflt a.toInt = off) (ht : (pc : Int) + off = (tgt : Int)) (kk : VV l K d nL mc ms rv X x cells slots M tgt lc st) : VV l K d nL mc ms rv X x cells slots M pc lc (.int a :: st) := by
  intro o M' ho H locs ls hI hS hl
  exact lv_lookup (cx_x hX) (cx_b hX) (zz_at (cx_d hX) k hk) hp ho9 ht (kk o M' ho H locs ls hI hS hl)
end CORE4
