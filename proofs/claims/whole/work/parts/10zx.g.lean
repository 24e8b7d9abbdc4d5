/-! WORLDS AS LISTS OF CELLS: the walk of methods that make objects (constructors), and of the JDK's own methods -/
def GI (K : KT) (ws : va_W) (H : Heap) : Prop := va_P (kD K) wcl ws H ∧ va_D (kF K) ws
def PG (K : KT) (As : List Value) (I : Heap → Prop) : Array Value → State → Prop := va_Pc As (fun U => I U.heap ∧ va_K (kD K) wcl (ztys K) U ∧ Kon K U U.heap ∧ kz K ≤ U.heap.size)
def QG (K : KT) (Q : Option Value → Heap → Prop) : Array Value → State → Outcome → State → Prop := fun _ st oc t => (∃ v, oc = .returned v ∧ Q v t.heap) ∧ va_F (kF K) st t
def CG (l : Launch) (K : KT) (y : MethodName) (wd : Cond) (d mc ms : Nat) (As : List Value) (I : Heap → Prop) (Q : Option Value → Heap → Prop) : Prop := Met l y (wd :: zz_good) (rmm d mc ms) (PG K As I) (QG K Q) mc ms (kF K)
def CxG (l : Launch) (K : KT) (d nL mc ms : Nat) (X : XT) (cc : ByteArray) (own : String) (ret : Option FieldType) (L : zz_L) : Prop :=
  X.1.tables.exec = Jvm.exec ∧ X.2.2.2.2.2.2.2.code = cc ∧ zz_decAll cc L = true ∧ X.2.2.2.2.2.2.2.maxLocals = nL ∧ X.2.2.1.vm.findClass own = some X.2.2.2.1.cls ∧ (∀ w ∈ zz_good, w.before X.2.2.2.2.1 X.2.2.1 = true) ∧
  X.2.2.2.2.2.2.1.sig.returnType = ret ∧ X.2.2.2.2.2.2.1.locks = false ∧ va_K (kD K) wcl (ztys K) X.2.2.1 ∧ Kon K X.2.2.1 X.2.2.1.heap ∧ kz K ≤ X.2.2.1.heap.size ∧ l.stackTraces = false
def VG (l : Launch) (K : KT) (d nL mc ms : Nat) (Z : State → Prop) (X : XT) (cells slots : Nat) (I : Heap → Prop) (pc : Nat) (lc : List (Nat × Value)) (st : List Value) : Prop :=
  ∀ (H : Heap) (locs : List Loc) (ls : Array Slot), I H → va_S (kF K) X.2.2.1.heap H locs → lv_has ls nL lc →
    W X.1 l X.2.1 (rmm d mc ms) X.2.2.1 X.2.2.2.1 X.2.2.2.2.1 X.2.2.2.2.2.1 X.2.2.2.2.2.2.1 X.2.2.2.2.2.2.2 H locs cells slots Z (F0 X.2.2.2.1 pc ls st)
abbrev ZG (K : KT) (X : XT) (mc ms : Nat) (Q : Option Value → Heap → Prop) : State → Prop := MQ X.2.2.2.2.2.1 (QG K Q) X.2.2.2.2.1 X.2.2.1 mc ms (kF K)
section G
variable {l : Launch} {K : KT} {d nL mc ms : Nat} {X : XT} {cc : ByteArray} {own : String} {ret : Option FieldType} {L : zz_L} {Z : State → Prop}
variable {cells slots : Nat} {I : Heap → Prop} {Q : Option Value → Heap → Prop} {pc : Nat} {lc : List (Nat × Value)} {st rest : List Value}
theorem cg_x (h : CxG l K d nL mc ms X cc own ret L) : X.1.tables.exec = Jvm.exec := h.1
theorem cg_b (h : CxG l K d nL mc ms X cc own ret L) : X.2.2.2.2.2.2.2.code = cc := h.2.1
theorem cg_d (h : CxG l K d nL mc ms X cc own ret L) : zz_decAll cc L = true := h.2.2.1
theorem cg_ml (h : CxG l K d nL mc ms X cc own ret L) : X.2.2.2.2.2.2.2.maxLocals = nL := h.2.2.2.1
theorem cg_own (h : CxG l K d nL mc ms X cc own ret L) : X.2.2.1.vm.findClass own = some X.2.2.2.1.cls := h.2.2.2.2.1
theorem cg_w (h : CxG l K d nL mc ms X cc own ret L) : ∀ w ∈ zz_good, w.before X.2.2.2.2.1 X.2.2.1 = true := h.2.2.2.2.2.1
theorem cg_r (h : CxG l K d nL mc ms X cc own ret L) : X.2.2.2.2.2.2.1.sig.returnType = ret := h.2.2.2.2.2.2.1
theorem cg_lk (h : CxG l K d nL mc ms X cc own ret L) : X.2.2.2.2.2.2.1.locks = false := h.2.2.2.2.2.2.2.1
theorem cg_K (h : CxG l K d nL mc ms X cc own ret L) : va_K (kD K) wcl (ztys K) X.2.2.1 := h.2.2.2.2.2.2.2.2.1
theorem cg_k (h : CxG l K d nL mc ms X cc own ret L) : Kon K X.2.2.1 X.2.2.1.heap := h.2.2.2.2.2.2.2.2.2.1
theorem cg_z (h : CxG l K d nL mc ms X cc own ret L) : kz K ≤ X.2.2.1.heap.size := h.2.2.2.2.2.2.2.2.2.2.1
theorem cg_t (h : CxG l K d nL mc ms X cc own ret L) : l.stackTraces = false := h.2.2.2.2.2.2.2.2.2.2.2
theorem Cx.g {hh : List (Nat × Nat × Nat × Nat)} (h : Cx l K d nL mc ms X cc own ret hh L) : CxG l K d nL mc ms X cc own ret L := ⟨cx_x h, cx_b h, cx_d h, cx_ml h, cx_own h, cx_w h, cx_r h, cx_lk h, cx_K h, cx_k h, cx_z h, cx_t h⟩
theorem VG_sub {lc' : List (Nat × Value)} (ks : List Nat) (hl : lv_pick lc ks = lc') (h : VG l K d nL mc ms Z X cells slots I pc lc' st) : VG l K d nL mc ms Z X cells slots I pc lc st :=
  fun H locs ls hI hS hls => h H locs ls hI hS (lv_sub hls ks hl)
theorem VG_wd (c9 s9 : Nat) (h1 : cells ≤ c9) (h2 : slots ≤ s9) (h : VG l K d nL mc ms Z X c9 s9 I pc lc st) : VG l K d nL mc ms Z X cells slots I pc lc st :=
  fun H locs ls hI hS hls => W.widen h1 h2 (h H locs ls hI hS hls)
theorem VG_I {I' : Heap → Prop} (h : ∀ H, I H → I' H) (k : VG l K d nL mc ms Z X cells slots I' pc lc st) : VG l K d nL mc ms Z X cells slots I pc lc st := fun H locs ls hI hS hls => k H locs ls (h H hI) hS hls
theorem VG_ex {α : Type} {J : α → Heap → Prop} (k : ∀ a, VG l K d nL mc ms Z X cells slots (J a) pc lc st) : VG l K d nL mc ms Z X cells slots (fun H => ∃ a, J a H) pc lc st := fun H locs ls hI hS hls => by
  obtain ⟨a, ha⟩ := hI
  exact k a H locs ls ha hS hls
theorem VG_and {p : Prop} (k : p → VG l K d nL mc ms Z X cells slots I pc lc st) : VG l K d nL mc ms Z X cells slots (fun H => p ∧ I H) pc lc st := fun H locs ls hI hS hls => k hI.1 H locs ls hI.2 hS hls
theorem G_iload (hX : CxG l K d nL mc ms X cc own ret L) {i : Nat} {v : Int32} (k q : Nat) (hk : L[k]? = some (pc, .iload i, 2)) (hq : pc + 2 = q) (j : Nat) (hj : lc[j]? = some (i, .int v)) (kk : VG l K d nL mc ms Z X cells slots I q lc (.int v :: st)) : VG l K d nL mc ms Z X cells slots I pc lc (st) := by
  subst hq
  intro H locs ls hI hS hl
  exact lv_iload (cg_x hX) (cg_b hX) (zz_at (cg_d hX) k hk) (lv_at hl j hj) (kk H locs ls hI hS hl)
theorem G_iload_n (hX : CxG l K d nL mc ms X cc own ret L) {i : Fin 4} {v : Int32} (k q : Nat) (hk : L[k]? = some (pc, .iload_n i, 1)) (hq : pc + 1 = q) (j : Nat) (hj : lc[j]? = some ((i : Nat), .int v)) (kk : VG l K d nL mc ms Z X cells slots I q lc (.int v :: st)) : VG l K d nL mc ms Z X cells slots I pc lc (st) := by
  subst hq
  intro H locs ls hI hS hl
  exact lv_iload_n (cg_x hX) (cg_b hX) (zz_at (cg_d hX) k hk) rfl (lv_at hl j hj) (kk H locs ls hI hS hl)
theorem G_aload (hX : CxG l K d nL mc ms X cc own ret L) {i : Nat} {v : Nat} (k q : Nat) (hk : L[k]? = some (pc, .aload i, 2)) (hq : pc + 2 = q) (j : Nat) (hj : lc[j]? = some (i, .ref v)) (kk : VG l K d nL mc ms Z X cells slots I q lc (.ref v :: st)) : VG l K d nL mc ms Z X cells slots I pc lc (st) := by
  subst hq
  intro H locs ls hI hS hl
  exact lv_aload (cg_x hX) (cg_b hX) (zz_at (cg_d hX) k hk) (lv_at hl j hj) (kk H locs ls hI hS hl)
theorem G_aload_n (hX : CxG l K d nL mc ms X cc own ret L) {i : Fin 4} {v : Nat} (k q : Nat) (hk : L[k]? = some (pc, .aload_n i, 1)) (hq : pc + 1 = q) (j : Nat) (hj : lc[j]? = some ((i : Nat), .ref v)) (kk : VG l K d nL mc ms Z X cells slots I q lc (.ref v :: st)) : VG l K d nL mc ms Z X cells slots I pc lc (st) := by
  subst hq
  intro H locs ls hI hS hl
  exact lv_aload_n (cg_x hX) (cg_b hX) (zz_at (cg_d hX) k hk) rfl (lv_at hl j hj) (kk H locs ls hI hS hl)
theorem G_istore (hX : CxG l K d nL mc ms X cc own ret L) {i : Nat} {v : Int32} (k q : Nat) (lv : List (Nat × Value)) (hk : L[k]? = some (pc, .istore i, 2)) (hq : pc + 2 = q) (hn : i < nL) (hv : (i, Value.int v) :: lc.filter (fun q => !(q.1 == i) && !(q.1 + 1 == i && q.2.category == 2)) = lv) (kk : VG l K d nL mc ms Z X cells slots I q lv st) : VG l K d nL mc ms Z X cells slots I pc lc (.int v :: st) := by
  subst hq
  intro H locs ls hI hS hl
  exact lv_istore (lv' := lv) (cg_x hX) (cg_b hX) (zz_at (cg_d hX) k hk)  hl hn hv (fun ls9 hl9 => kk H locs ls9 hI hS hl9)
theorem G_istore_n (hX : CxG l K d nL mc ms X cc own ret L) {i : Fin 4} {v : Int32} (k q : Nat) (lv : List (Nat × Value)) (hk : L[k]? = some (pc, .istore_n i, 1)) (hq : pc + 1 = q) (hn : (i : Nat) < nL) (hv : ((i : Nat), Value.int v) :: lc.filter (fun q => !(q.1 == (i : Nat)) && !(q.1 + 1 == (i : Nat) && q.2.category == 2)) = lv) (kk : VG l K d nL mc ms Z X cells slots I q lv st) : VG l K d nL mc ms Z X cells slots I pc lc (.int v :: st) := by
  subst hq
  intro H locs ls hI hS hl
  exact lv_istore_n (lv' := lv) (cg_x hX) (cg_b hX) (zz_at (cg_d hX) k hk) rfl hl hn hv (fun ls9 hl9 => kk H locs ls9 hI hS hl9)
theorem G_astore (hX : CxG l K d nL mc ms X cc own ret L) {i : Nat} {v : Nat} (k q : Nat) (lv : List (Nat × Value)) (hk : L[k]? = some (pc, .astore i, 2)) (hq : pc + 2 = q) (hn : i < nL) (hv : (i, Value.ref v) :: lc.filter (fun q => !(q.1 == i) && !(q.1 + 1 == i && q.2.category == 2)) = lv) (kk : VG l K d nL mc ms Z X cells slots I q lv st) : VG l K d nL mc ms Z X cells slots I pc lc (.ref v :: st) := by
  subst hq
  intro H locs ls hI hS hl
  exact lv_astore (lv' := lv) (cg_x hX) (cg_b hX) (zz_at (cg_d hX) k hk)  hl hn hv (fun ls9 hl9 => kk H locs ls9 hI hS hl9)
theorem G_astore_n (hX : CxG l K d nL mc ms X cc own ret L) {i : Fin 4} {v : Nat} (k q : Nat) (lv : List (Nat × Value)) (hk : L[k]? = some (pc, .astore_n i, 1)) (hq : pc + 1 = q) (hn : (i : Nat) < nL) (hv : ((i : Nat), Value.ref v) :: lc.filter (fun q => !(q.1 == (i : Nat)) && !(q.1 + 1 == (i : Nat) && q.2.category == 2)) = lv) (kk : VG l K d nL mc ms Z X cells slots I q lv st) : VG l K d nL mc ms Z X cells slots I pc lc (.ref v :: st) := by
  subst hq
  intro H locs ls hI hS hl
  exact lv_astore_n (lv' := lv) (cg_x hX) (cg_b hX) (zz_at (cg_d hX) k hk) rfl hl hn hv (fun ls9 hl9 => kk H locs ls9 hI hS hl9)
theorem G_iadd (hX : CxG l K d nL mc ms X cc own ret L) {a b : Int32} (k q : Nat) (hk : L[k]? = some (pc, .iadd, 1)) (hq : pc + 1 = q) (kk : VG l K d nL mc ms Z X cells slots I q lc (.int (a + b) :: st)) : VG l K d nL mc ms Z X cells slots I pc lc (.int b :: .int a :: st) := by
  subst hq
  intro H locs ls hI hS hl
  exact lv_iadd (cg_x hX) (cg_b hX) (zz_at (cg_d hX) k hk) (kk H locs ls hI hS hl)
theorem G_isub (hX : CxG l K d nL mc ms X cc own ret L) {a b : Int32} (k q : Nat) (hk : L[k]? = some (pc, .isub, 1)) (hq : pc + 1 = q) (kk : VG l K d nL mc ms Z X cells slots I q lc (.int (a - b) :: st)) : VG l K d nL mc ms Z X cells slots I pc lc (.int b :: .int a :: st) := by
  subst hq
  intro H locs ls hI hS hl
  exact lv_isub (cg_x hX) (cg_b hX) (zz_at (cg_d hX) k hk) (kk H locs ls hI hS hl)
theorem G_imul (hX : CxG l K d nL mc ms X cc own ret L) {a b : Int32} (k q : Nat) (hk : L[k]? = some (pc, .imul, 1)) (hq : pc + 1 = q) (kk : VG l K d nL mc ms Z X cells slots I q lc (.int (a * b) :: st)) : VG l K d nL mc ms Z X cells slots I pc lc (.int b :: .int a :: st) := by
  subst hq
  intro H locs ls hI hS hl
  exact lv_imul (cg_x hX) (cg_b hX) (zz_at (cg_d hX) k hk) (kk H locs ls hI hS hl)
theorem G_ineg (hX : CxG l K d nL mc ms X cc own ret L) {a : Int32} (k q : Nat) (hk : L[k]? = some (pc, .ineg, 1)) (hq : pc + 1 = q) (kk : VG l K d nL mc ms Z X cells slots I q lc (.int (-a) :: st)) : VG l K d nL mc ms Z X cells slots I pc lc (.int a :: st) := by
  subst hq
  intro H locs ls hI hS hl
  exact lv_ineg (cg_x hX) (cg_b hX) (zz_at (cg_d hX) k hk) (kk H locs ls hI hS hl)
theorem G_iand (hX : CxG l K d nL mc ms X cc own ret L) {a b : Int32} (k q : Nat) (hk : L[k]? = some (pc, .iand, 1)) (hq : pc + 1 = q) (kk : VG l K d nL mc ms Z X cells slots I q lc (.int (a &&& b) :: st)) : VG l K d nL mc ms Z X cells slots I pc lc (.int b :: .int a :: st) := by
  subst hq
  intro H locs ls hI hS hl
  exact lv_iand (cg_x hX) (cg_b hX) (zz_at (cg_d hX) k hk) (kk H locs ls hI hS hl)
theorem G_iconst (hX : CxG l K d nL mc ms X cc own ret L) {n : Int} (k q : Nat) (hk : L[k]? = some (pc, .iconst n, 1)) (hq : pc + 1 = q) (v : Int32) (hv : Int32.ofInt n = v) (kk : VG l K d nL mc ms Z X cells slots I q lc (.int v :: st)) : VG l K d nL mc ms Z X cells slots I pc lc (st) := by
  subst hq
  intro H locs ls hI hS hl
  exact lv_iconst (v := v) (cg_x hX) (cg_b hX) (zz_at (cg_d hX) k hk) hv (kk H locs ls hI hS hl)
theorem G_bipush (hX : CxG l K d nL mc ms X cc own ret L) {n : Int} (k q : Nat) (hk : L[k]? = some (pc, .bipush n, 2)) (hq : pc + 2 = q) (v : Int32) (hv : (Int8.ofInt n).toInt32 = v) (kk : VG l K d nL mc ms Z X cells slots I q lc (.int v :: st)) : VG l K d nL mc ms Z X cells slots I pc lc (st) := by
  subst hq
  intro H locs ls hI hS hl
  exact lv_bipush (v := v) (cg_x hX) (cg_b hX) (zz_at (cg_d hX) k hk) hv (kk H locs ls hI hS hl)
theorem G_sipush (hX : CxG l K d nL mc ms X cc own ret L) {n : Int} (k q : Nat) (hk : L[k]? = some (pc, .sipush n, 3)) (hq : pc + 3 = q) (v : Int32) (hv : (Int16.ofInt n).toInt32 = v) (kk : VG l K d nL mc ms Z X cells slots I q lc (.int v :: st)) : VG l K d nL mc ms Z X cells slots I pc lc (st) := by
  subst hq
  intro H locs ls hI hS hl
  exact lv_sipush (v := v) (cg_x hX) (cg_b hX) (zz_at (cg_d hX) k hk) hv (kk H locs ls hI hS hl)
theorem G_ldcI (hX : CxG l K d nL mc ms X cc own ret L) {index : Nat} {v : Int32} (k q : Nat) (hc : Cond.constant own index v ∈ zz_good) (hk : L[k]? = some (pc, .ldc index, 2)) (hq : pc + 2 = q) (kk : VG l K d nL mc ms Z X cells slots I q lc (.int v :: st)) : VG l K d nL mc ms Z X cells slots I pc lc st := by
  subst hq
  intro H locs ls hI hS hl
  exact lv_ldc (cg_x hX) (cg_b hX) (cg_own hX) (cg_w hX _ hc) (zz_at (cg_d hX) k hk) (kk H locs ls hI hS hl)
theorem G_i2c (hX : CxG l K d nL mc ms X cc own ret L) {a : Int32} (k q : Nat) (hk : L[k]? = some (pc, .i2c, 1)) (hq : pc + 1 = q) (kk : VG l K d nL mc ms Z X cells slots I q lc (.int (a.toUInt32 % 65536).toInt32 :: st)) : VG l K d nL mc ms Z X cells slots I pc lc (.int a :: st) := by
  subst hq
  intro H locs ls hI hS hl
  exact lv_i2c (cg_x hX) (cg_b hX) (zz_at (cg_d hX) k hk) rfl (kk H locs ls hI hS hl)
theorem G_pop (hX : CxG l K d nL mc ms X cc own ret L) {a : Value} (k q : Nat) (hk : L[k]? = some (pc, .pop, 1)) (hq : pc + 1 = q) (hc : a.category = 1) (kk : VG l K d nL mc ms Z X cells slots I q lc (st)) : VG l K d nL mc ms Z X cells slots I pc lc (a :: st) := by
  subst hq
  intro H locs ls hI hS hl
  exact lv_pop (cg_x hX) (cg_b hX) (zz_at (cg_d hX) k hk) hc (kk H locs ls hI hS hl)
theorem G_dup (hX : CxG l K d nL mc ms X cc own ret L) {a : Value} (k q : Nat) (hk : L[k]? = some (pc, .dup, 1)) (hq : pc + 1 = q) (hc : a.category = 1) (kk : VG l K d nL mc ms Z X cells slots I q lc (a :: a :: st)) : VG l K d nL mc ms Z X cells slots I pc lc (a :: st) := by
  subst hq
  intro H locs ls hI hS hl
  exact lv_dup (cg_x hX) (cg_b hX) (zz_at (cg_d hX) k hk) hc (kk H locs ls hI hS hl)
theorem G_goto (hX : CxG l K d nL mc ms X cc own ret L) {off : Int} (k q : Nat) (hk : L[k]? = some (pc, .goto off, 3)) (hq : (pc : Int) + off = (q : Int)) (kk : VG l K d nL mc ms Z X cells slots I q lc st) : VG l K d nL mc ms Z X cells slots I pc lc st := by
  intro H locs ls hI hS hl
  exact lv_goto (cg_x hX) (cg_b hX) (zz_at (cg_d hX) k hk) hq (kk H locs ls hI hS hl)
theorem G_if_eq (hX : CxG l K d nL mc ms X cc own ret L) {off : Int} {a : Int32} (k q tgt : Nat) (hk : L[k]? = some (pc, .ifCond .eq off, 3)) (hq : pc + 3 = q) (ht : (pc : Int) + off = (tgt : Int)) (kt : a = 0 → VG l K d nL mc ms Z X cells slots I tgt lc st) (kf : ¬ (a = 0) → VG l K d nL mc ms Z X cells slots I q lc st) : VG l K d nL mc ms Z X cells slots I pc lc (.int a :: st) := by
  subst hq
  intro H locs ls hI hS hl
  refine lv_if_eq (cg_x hX) (cg_b hX) (zz_at (cg_d hX) k hk) ht (fun c9 => kt c9 H locs ls hI hS hl) (fun c9 => kf c9 H locs ls hI hS hl)
theorem G_if_ne (hX : CxG l K d nL mc ms X cc own ret L) {off : Int} {a : Int32} (k q tgt : Nat) (hk : L[k]? = some (pc, .ifCond .ne off, 3)) (hq : pc + 3 = q) (ht : (pc : Int) + off = (tgt : Int)) (kt : ¬ (a = 0) → VG l K d nL mc ms Z X cells slots I tgt lc st) (kf : a = 0 → VG l K d nL mc ms Z X cells slots I q lc st) : VG l K d nL mc ms Z X cells slots I pc lc (.int a :: st) := by
  subst hq
  intro H locs ls hI hS hl
  refine lv_if_ne (cg_x hX) (cg_b hX) (zz_at (cg_d hX) k hk) ht (fun c9 => kt c9 H locs ls hI hS hl) (fun c9 => kf c9 H locs ls hI hS hl)
theorem G_if_lt (hX : CxG l K d nL mc ms X cc own ret L) {off : Int} {a : Int32} (k q tgt : Nat) (hk : L[k]? = some (pc, .ifCond .lt off, 3)) (hq : pc + 3 = q) (ht : (pc : Int) + off = (tgt : Int)) (kt : a < 0 → VG l K d nL mc ms Z X cells slots I tgt lc st) (kf : ¬ (a < 0) → VG l K d nL mc ms Z X cells slots I q lc st) : VG l K d nL mc ms Z X cells slots I pc lc (.int a :: st) := by
  subst hq
  intro H locs ls hI hS hl
  refine lv_if_lt (cg_x hX) (cg_b hX) (zz_at (cg_d hX) k hk) ht (fun c9 => kt c9 H locs ls hI hS hl) (fun c9 => kf c9 H locs ls hI hS hl)
theorem G_if_ge (hX : CxG l K d nL mc ms X cc own ret L) {off : Int} {a : Int32} (k q tgt : Nat) (hk : L[k]? = some (pc, .ifCond .ge off, 3)) (hq : pc + 3 = q) (ht : (pc : Int) + off = (tgt : Int)) (kt : 0 ≤ a → VG l K d nL mc ms Z X cells slots I tgt lc st) (kf : ¬ (0 ≤ a) → VG l K d nL mc ms Z X cells slots I q lc st) : VG l K d nL mc ms Z X cells slots I pc lc (.int a :: st) := by
  subst hq
  intro H locs ls hI hS hl
  refine lv_if_ge (cg_x hX) (cg_b hX) (zz_at (cg_d hX) k hk) ht (fun c9 => kt c9 H locs ls hI hS hl) (fun c9 => kf c9 H locs ls hI hS hl)
theorem G_if_gt (hX : CxG l K d nL mc ms X cc own ret L) {off : Int} {a : Int32} (k q tgt : Nat) (hk : L[k]? = some (pc, .ifCond .gt off, 3)) (hq : pc + 3 = q) (ht : (pc : Int) + off = (tgt : Int)) (kt : 0 < a → VG l K d nL mc ms Z X cells slots I tgt lc st) (kf : ¬ (0 < a) → VG l K d nL mc ms Z X cells slots I q lc st) : VG l K d nL mc ms Z X cells slots I pc lc (.int a :: st) := by
  subst hq
  intro H locs ls hI hS hl
  refine lv_if_gt (cg_x hX) (cg_b hX) (zz_at (cg_d hX) k hk) ht (fun c9 => kt c9 H locs ls hI hS hl) (fun c9 => kf c9 H locs ls hI hS hl)
theorem G_if_le (hX : CxG l K d nL mc ms X cc own ret L) {off : Int} {a : Int32} (k q tgt : Nat) (hk : L[k]? = some (pc, .ifCond .le off, 3)) (hq : pc + 3 = q) (ht : (pc : Int) + off = (tgt : Int)) (kt : a ≤ 0 → VG l K d nL mc ms Z X cells slots I tgt lc st) (kf : ¬ (a ≤ 0) → VG l K d nL mc ms Z X cells slots I q lc st) : VG l K d nL mc ms Z X cells slots I pc lc (.int a :: st) := by
  subst hq
  intro H locs ls hI hS hl
  refine lv_if_le (cg_x hX) (cg_b hX) (zz_at (cg_d hX) k hk) ht (fun c9 => kt c9 H locs ls hI hS hl) (fun c9 => kf c9 H locs ls hI hS hl)
theorem G_icmp_eq (hX : CxG l K d nL mc ms X cc own ret L) {off : Int} {a b : Int32} (k q tgt : Nat) (hk : L[k]? = some (pc, .if_icmp .eq off, 3)) (hq : pc + 3 = q) (ht : (pc : Int) + off = (tgt : Int)) (kt : a = b → VG l K d nL mc ms Z X cells slots I tgt lc st) (kf : ¬ (a = b) → VG l K d nL mc ms Z X cells slots I q lc st) : VG l K d nL mc ms Z X cells slots I pc lc (.int b :: .int a :: st) := by
  subst hq
  intro H locs ls hI hS hl
  refine lv_icmp_eq (cg_x hX) (cg_b hX) (zz_at (cg_d hX) k hk) ht (fun c9 => kt c9 H locs ls hI hS hl) (fun c9 => kf c9 H locs ls hI hS hl)
theorem G_icmp_ne (hX : CxG l K d nL mc ms X cc own ret L) {off : Int} {a b : Int32} (k q tgt : Nat) (hk : L[k]? = some (pc, .if_icmp .ne off, 3)) (hq : pc + 3 = q) (ht : (pc : Int) + off = (tgt : Int)) (kt : ¬ (a = b) → VG l K d nL mc ms Z X cells slots I tgt lc st) (kf : a = b → VG l K d nL mc ms Z X cells slots I q lc st) : VG l K d nL mc ms Z X cells slots I pc lc (.int b :: .int a :: st) := by
  subst hq
  intro H locs ls hI hS hl
  refine lv_icmp_ne (cg_x hX) (cg_b hX) (zz_at (cg_d hX) k hk) ht (fun c9 => kt c9 H locs ls hI hS hl) (fun c9 => kf c9 H locs ls hI hS hl)
theorem G_icmp_lt (hX : CxG l K d nL mc ms X cc own ret L) {off : Int} {a b : Int32} (k q tgt : Nat) (hk : L[k]? = some (pc, .if_icmp .lt off, 3)) (hq : pc + 3 = q) (ht : (pc : Int) + off = (tgt : Int)) (kt : a < b → VG l K d nL mc ms Z X cells slots I tgt lc st) (kf : ¬ (a < b) → VG l K d nL mc ms Z X cells slots I q lc st) : VG l K d nL mc ms Z X cells slots I pc lc (.int b :: .int a :: st) := by
  subst hq
  intro H locs ls hI hS hl
  refine lv_icmp_lt (cg_x hX) (cg_b hX) (zz_at (cg_d hX) k hk) ht (fun c9 => kt c9 H locs ls hI hS hl) (fun c9 => kf c9 H locs ls hI hS hl)
theorem G_icmp_ge (hX : CxG l K d nL mc ms X cc own ret L) {off : Int} {a b : Int32} (k q tgt : Nat) (hk : L[k]? = some (pc, .if_icmp .ge off, 3)) (hq : pc + 3 = q) (ht : (pc : Int) + off = (tgt : Int)) (kt : b ≤ a → VG l K d nL mc ms Z X cells slots I tgt lc st) (kf : ¬ (b ≤ a) → VG l K d nL mc ms Z X cells slots I q lc st) : VG l K d nL mc ms Z X cells slots I pc lc (.int b :: .int a :: st) := by
  subst hq
  intro H locs ls hI hS hl
  refine lv_icmp_ge (cg_x hX) (cg_b hX) (zz_at (cg_d hX) k hk) ht (fun c9 => kt c9 H locs ls hI hS hl) (fun c9 => kf c9 H locs ls hI hS hl)
theorem G_icmp_gt (hX : CxG l K d nL mc ms X cc own ret L) {off : Int} {a b : Int32} (k q tgt : Nat) (hk : L[k]? = some (pc, .if_icmp .gt off, 3)) (hq : pc + 3 = q) (ht : (pc : Int) + off = (tgt : Int)) (kt : b < a → VG l K d nL mc ms Z X cells slots I tgt lc st) (kf : ¬ (b < a) → VG l K d nL mc ms Z X cells slots I q lc st) : VG l K d nL mc ms Z X cells slots I pc lc (.int b :: .int a :: st) := by
  subst hq
  intro H locs ls hI hS hl
  refine lv_icmp_gt (cg_x hX) (cg_b hX) (zz_at (cg_d hX) k hk) ht (fun c9 => kt c9 H locs ls hI hS hl) (fun c9 => kf c9 H locs ls hI hS hl)
theorem G_icmp_le (hX : CxG l K d nL mc ms X cc own ret L) {off : Int} {a b : Int32} (k q tgt : Nat) (hk : L[k]? = some (pc, .if_icmp .le off, 3)) (hq : pc + 3 = q) (ht : (pc : Int) + off = (tgt : Int)) (kt : a ≤ b → VG l K d nL mc ms Z X cells slots I tgt lc st) (kf : ¬ (a ≤ b) → VG l K d nL mc ms Z X cells slots I q lc st) : VG l K d nL mc ms Z X cells slots I pc lc (.int b :: .int a :: st) := by
  subst hq
  intro H locs ls hI hS hl
  refine lv_icmp_le (cg_x hX) (cg_b hX) (zz_at (cg_d hX) k hk) ht (fun c9 => kt c9 H locs ls hI hS hl) (fun c9 => kf c9 H locs ls hI hS hl)
theorem G_iinc (hX : CxG l K d nL mc ms X cc own ret L) {i : Nat} {n : Int} {v : Int32} (k q j : Nat) (w : Int32) (lv : List (Nat × Value)) (hk : L[k]? = some (pc, .iinc i n, 3)) (hq : pc + 3 = q) (hj : lc[j]? = some (i, .int v)) (hw : v + Int32.ofInt n = w) (hn : i < nL) (hv : (i, Value.int w) :: lc.filter (fun q => !(q.1 == i) && !(q.1 + 1 == i && q.2.category == 2)) = lv) (kk : VG l K d nL mc ms Z X cells slots I q lv st) : VG l K d nL mc ms Z X cells slots I pc lc st := by
  subst hq
  intro H locs ls hI hS hl
  exact lv_iinc (lv' := lv) (cg_x hX) (cg_b hX) (zz_at (cg_d hX) k hk) hl hj hw hn hv (fun ls9 hl9 => kk H locs ls9 hI hS hl9)
theorem G_ishl (hX : CxG l K d nL mc ms X cc own ret L) {a b : Int32} (k q : Nat) (hk : L[k]? = some (pc, .ishl, 1)) (hq : pc + 1 = q) (kk : VG l K d nL mc ms Z X cells slots I q lc (.int (a <<< (b &&& 31)) :: st)) : VG l K d nL mc ms Z X cells slots I pc lc (.int b :: .int a :: st) := by
  subst hq
  intro H locs ls hI hS hl
  exact lv_ishl (cg_x hX) (cg_b hX) (zz_at (cg_d hX) k hk) (kk H locs ls hI hS hl)
theorem G_ishr (hX : CxG l K d nL mc ms X cc own ret L) {a b : Int32} (k q : Nat) (hk : L[k]? = some (pc, .ishr, 1)) (hq : pc + 1 = q) (kk : VG l K d nL mc ms Z X cells slots I q lc (.int (a >>> (b &&& 31)) :: st)) : VG l K d nL mc ms Z X cells slots I pc lc (.int b :: .int a :: st) := by
  subst hq
  intro H locs ls hI hS hl
  exact lv_ishr (cg_x hX) (cg_b hX) (zz_at (cg_d hX) k hk) (kk H locs ls hI hS hl)
theorem G_i2b (hX : CxG l K d nL mc ms X cc own ret L) {a v : Int32} (k q : Nat) (hv : a.toInt8.toInt32 = v) (hk : L[k]? = some (pc, .i2b, 1)) (hq : pc + 1 = q) (kk : VG l K d nL mc ms Z X cells slots I q lc (.int v :: st)) : VG l K d nL mc ms Z X cells slots I pc lc (.int a :: st) := by
  subst hq
  intro H locs ls hI hS hl
  exact lv_i2b (cg_x hX) (cg_b hX) (zz_at (cg_d hX) k hk) hv (kk H locs ls hI hS hl)
theorem G_dup_x1 (hX : CxG l K d nL mc ms X cc own ret L) {a b : Value} (k q : Nat) (hk : L[k]? = some (pc, .dup_x1, 1)) (hq : pc + 1 = q) (ha : a.category = 1) (hb : b.category = 1) (kk : VG l K d nL mc ms Z X cells slots I q lc (a :: b :: a :: st)) : VG l K d nL mc ms Z X cells slots I pc lc (a :: b :: st) := by
  subst hq
  intro H locs ls hI hS hl
  exact lv_dup_x1 (cg_x hX) (cg_b hX) (zz_at (cg_d hX) k hk) ha hb (kk H locs ls hI hS hl)
theorem G_iret (hX : CxG l K d nL mc ms X cc own ret L) {v : Int32} (k : Nat) (hr : ret = some .int) (h1 : cells ≤ mc) (h2 : slots ≤ ms) (hk : L[k]? = some (pc, .ireturn, 1)) (hq : ∀ H, I H → Q (some (.int v)) H) : VG l K d nL mc ms (ZG K X mc ms Q) X cells slots I pc lc [.int v] := by
  intro H locs ls hI hS hl
  exact W.widen h1 h2 (W.iret (cg_x hX) (cg_b hX) ((cg_r hX).trans hr) (fun t ht _ => ⟨⟨_, rfl, by rw [ht]; exact hq H hI⟩, hS.F ht⟩) hS.2.2 (zz_at (cg_d hX) k hk) (cg_lk hX))
theorem G_zret (hX : CxG l K d nL mc ms X cc own ret L) {v : Int32} {ty : FieldType} (k : Nat) (hr : ret = some ty) (hn : narrow ty (.int v) = .int v) (h1 : cells ≤ mc) (h2 : slots ≤ ms) (hk : L[k]? = some (pc, .ireturn, 1)) (hq : ∀ H, I H → Q (some (.int v)) H) : VG l K d nL mc ms (ZG K X mc ms Q) X cells slots I pc lc [.int v] := by
  intro H locs ls hI hS hl
  exact W.widen h1 h2 (W.zret (cg_x hX) (cg_b hX) ((cg_r hX).trans hr) hn (fun t ht _ => ⟨⟨_, rfl, by rw [ht]; exact hq H hI⟩, hS.F ht⟩) hS.2.2 (zz_at (cg_d hX) k hk) (cg_lk hX))
theorem G_vret (hX : CxG l K d nL mc ms X cc own ret L) (k : Nat) (hr : ret = none) (h1 : cells ≤ mc) (h2 : slots ≤ ms) (hk : L[k]? = some (pc, .return_, 1)) (hq : ∀ H, I H → Q none H) : VG l K d nL mc ms (ZG K X mc ms Q) X cells slots I pc lc [] := by
  intro H locs ls hI hS hl
  exact W.widen h1 h2 (W.vret (cg_x hX) (cg_b hX) ((cg_r hX).trans hr) (fun t ht _ => ⟨⟨_, rfl, by rw [ht]; exact hq H hI⟩, hS.F ht⟩) hS.2.2 (zz_at (cg_d hX) k hk) (cg_lk hX))
theorem G_aret (hX : CxG l K d nL mc ms X cc own ret L) {a : Nat} {ty : FieldType} (k : Nat) (hr : ret = some ty) (ht9 : (∃ n, ty = .object n) ∨ ∃ t, ty = .array t) (h1 : cells ≤ mc) (h2 : slots ≤ ms) (hk : L[k]? = some (pc, .areturn, 1)) (hq : ∀ H, I H → Q (some (.ref a)) H) : VG l K d nL mc ms (ZG K X mc ms Q) X cells slots I pc lc [.ref a] := by
  intro H locs ls hI hS hl
  exact W.widen h1 h2 (W.aret (cg_x hX) (cg_b hX) ((cg_r hX).trans hr) ht9 (Or.inr ⟨a, rfl⟩) (fun t ht _ => ⟨⟨_, rfl, by rw [ht]; exact hq H hI⟩, hS.F ht⟩) hS.2.2 (zz_at (cg_d hX) k hk) (cg_lk hX))
/-! memory -/
theorem G_get (hX : CxG l K d nL mc ms X cc own ret L) {index ci j a : Nat} {ws : va_W} (k q i : Nat) {fs : List Value} {v : Value} (hF : FL own index ci j) (hk : L[k]? = some (pc, .getfield index, 3)) (hq : pc + 3 = q) (he : ws[i]? = some (a, .inr (ci, fs))) (hv : fs[j]? = some v) (kk : VG l K d nL mc ms Z X cells slots (GI K ws) q lc (v :: st)) : VG l K d nL mc ms Z X cells slots (GI K ws) pc lc (.ref a :: st) := by
  subst hq
  obtain ⟨C, T, N, hc, hin, hj, hlk⟩ := hF
  intro H locs ls hI hS hl
  exact va_get (C := C) (T := T) (N := N) (ci := ci) (cg_x hX) (cg_b hX) (cg_w hX) hin (cg_own hX) (cg_K hX) hI.1 i he hc j hj (cg_w hX _ hlk) (fun _ h => h) hv (zz_at (cg_d hX) k hk) (kk H locs ls hI hS hl)
theorem G_put (hX : CxG l K d nL mc ms X cc own ret L) {index ci j a : Nat} {ws : va_W} (k q i : Nat) {fs : List Value} {v : Value} {ty : FieldType} (hF : FP own index ci j ty) (hn : narrow ty v = v) (hfit : fits ty v = true) (hk : L[k]? = some (pc, .putfield index, 3)) (hq : pc + 3 = q) (he : ws[i]? = some (a, .inr (ci, fs))) (hj9 : j < fs.length) (kk : VG l K d nL mc ms Z X cells slots (GI K (ws.set i (a, .inr (ci, fs.set j v)))) q lc st) : VG l K d nL mc ms Z X cells slots (GI K ws) pc lc (v :: .ref a :: st) := by
  subst hq
  obtain ⟨C, T, N, ty0, hc, hin, hj, hlk, hty, hnm, hfin, hd⟩ := hF
  intro H locs ls hI hS hl
  exact va_put (C := C) (T := T) (N := N) (ci := ci) (cg_x hX) (cg_b hX) (cg_w hX) hin ty0 hty hnm (cg_own hX) (cg_K hX) hI.1 hI.2 hS i he hc j hj (cg_w hX _ hlk) (fun _ h => h) hfin hd hn hfit hj9 (zz_at (cg_d hX) k hk) (fun H1 locs1 hP1 hD1 hS1 => kk H1 locs1 ls ⟨hP1, hD1⟩ hS1 hl)
theorem G_alen (hX : CxG l K d nL mc ms X cc own ret L) {a n t0 : Nat} {cA : ClassId} {ty : FieldType} {f : Nat → Int32} {ws : va_W} (k q i : Nat) (v : Int32) (he : ws[i]? = some (a, .inl (cA, n, .inl f))) (ht : (ztys K)[t0]? = some (cA, ty)) (hv : Int32.ofNat n = v) (hk : L[k]? = some (pc, .arraylength, 1)) (hq : pc + 1 = q) (kk : VG l K d nL mc ms Z X cells slots (GI K ws) q lc (.int v :: st)) : VG l K d nL mc ms Z X cells slots (GI K ws) pc lc (.ref a :: st) := by
  subst hq
  intro H locs ls hI hS hl
  exact va_alen (cg_x hX) (cg_b hX) (cg_K hX) hI.1 i t0 he ht hv (zz_at (cg_d hX) k hk) (kk H locs ls hI hS hl)
theorem G_bald (hX : CxG l K d nL mc ms X cc own ret L) {a n : Nat} {f : Nat → Int32} {j : Int32} {ws : va_W} (k q i : Nat) (he : ws[i]? = some (a, .inl (kC K 4, n, .inl f))) (hin : vp_in j n) (hk : L[k]? = some (pc, .baload, 1)) (hq : pc + 1 = q) (kk : VG l K d nL mc ms Z X cells slots (GI K ws) q lc (.int (f j.toNatClampNeg) :: st)) : VG l K d nL mc ms Z X cells slots (GI K ws) pc lc (.int j :: .ref a :: st) := by
  subst hq
  intro H locs ls hI hS hl
  exact va_bald (cg_x hX) (cg_b hX) (cg_K hX) hI.1 i 4 he rfl hin (zz_at (cg_d hX) k hk) (kk H locs ls hI hS hl)
theorem G_bast (hX : CxG l K d nL mc ms X cc own ret L) {a n : Nat} {f : Nat → Int32} {j x : Int32} {ws : va_W} (k q i : Nat) (he : ws[i]? = some (a, .inl (kC K 4, n, .inl f))) (hin : vp_in j n) (hk : L[k]? = some (pc, .bastore, 1)) (hq : pc + 1 = q) (kk : VG l K d nL mc ms Z X cells slots (GI K (ws.set i (a, .inl (kC K 4, n, .inl (upd f j.toNatClampNeg (vp_nar .byte x)))))) q lc st) : VG l K d nL mc ms Z X cells slots (GI K ws) pc lc (.int x :: .int j :: .ref a :: st) := by
  subst hq
  intro H locs ls hI hS hl
  exact va_bast (cg_x hX) (cg_b hX) (cg_K hX) hI.1 hI.2 hS i 4 he rfl hin (zz_at (cg_d hX) k hk) (fun H1 locs1 hP1 hD1 hS1 => kk H1 locs1 ls ⟨hP1, hD1⟩ hS1 hl)
theorem kF_up (hX : CxG l K d nL mc ms X cc own ret L) : ∀ q, X.2.2.1.heap.size ≤ q → kF K q := fun _ h => Nat.le_trans (cg_z hX) h
theorem G_new (hX : CxG l K d nL mc ms X cc own ret L) {index ci : Nat} {C : String} {T : u_T} {N : Nat} {fs : List Value} {ws : va_W} (k q : Nat) (ty : Nat → FieldType) (hc : wcl[ci]? = some (C, T, N)) (hin : ∀ w ∈ u_ws C T N, w ∈ zz_good) (hty : ∀ k, k < N → parseFieldDescriptor (T k).2.2.1 = some (ty k)) (hl9 : Cond.classLink own index C ∈ zz_good) (hi9 : Cond.instantiable C N ∈ zz_good) (h09 : Cond.initialized C ∈ zz_good) (hfs : ∀ j, j < N → defaultValue (ty j) = vp_V fs j) (h1 : cells + 1 ≤ mc) (h2 : slots + N ≤ ms) (hk : L[k]? = some (pc, .new index, 3)) (hq : pc + 3 = q) (kk : ∀ a, VG l K d nL mc ms Z X (cells + 1) (slots + N) (GI K (ws ++ [(a, .inr (ci, fs))])) q lc (.ref a :: st)) : VG l K d nL mc ms Z X cells slots (GI K ws) pc lc st := by
  subst hq
  intro H locs ls hI hS hl
  exact va_new (C := C) (T := T) (N := N) (ci := ci) (cg_x hX) (cg_b hX) (cg_w hX) hin ty hty (cg_own hX) (cg_w hX _ hl9) (cg_w hX _ hi9) (cg_w hX _ h09) (cg_K hX) hI.1 hI.2 hS (kF_up hX) hc hfs h1 h2 (zz_at (cg_d hX) k hk) (fun a H1 hP1 hD1 hS1 => kk a H1 locs ls ⟨hP1, hD1⟩ hS1 hl)
/-- putfield of a final field, in a constructor -/
def FPF (own : String) (index ci j : Nat) (ty : FieldType) : Prop := ∃ (C : String) (T : u_T) (N : Nat) (ty0 : Nat → FieldType), wcl[ci]? = some (C, T, N) ∧ (∀ w ∈ u_ws C T N, w ∈ zz_good) ∧ j < N ∧ Cond.fieldLink own index (T j).1 (T j).2.1 (T j).2.2.1 ∈ zz_good ∧ (∀ k, k < N → parseFieldDescriptor (T k).2.2.1 = some (ty0 k)) ∧ (∀ a, a < N → ∀ b, b < N → a ≠ b → (T a).2.1 ≠ (T b).2.1) ∧ (T j).2.2.2 = true ∧ (T j).1 = own ∧ parseFieldDescriptor (T j).2.2.1 = some ty
theorem G_putF (hX : CxG l K d nL mc ms X cc own ret L) (hin9 : X.2.2.2.2.2.2.1.name = "<init>") {index ci j a : Nat} {ws : va_W} (k q i : Nat) {fs : List Value} {v : Value} {ty : FieldType} (hF : FPF own index ci j ty) (hn : narrow ty v = v) (hfit : fits ty v = true) (hk : L[k]? = some (pc, .putfield index, 3)) (hq : pc + 3 = q) (he : ws[i]? = some (a, .inr (ci, fs))) (hj9 : j < fs.length) (kk : VG l K d nL mc ms Z X cells slots (GI K (ws.set i (a, .inr (ci, fs.set j v)))) q lc st) : VG l K d nL mc ms Z X cells slots (GI K ws) pc lc (v :: .ref a :: st) := by
  subst hq
  obtain ⟨C, T, N, ty0, hc, hin, hj, hlk, hty, hnm, hfin, hdc, hd⟩ := hF
  intro H locs ls hI hS hl
  exact va_putF (C := C) (T := T) (N := N) (ci := ci) (cg_x hX) (cg_b hX) (cg_w hX) hin ty0 hty hnm (cg_own hX) (cg_K hX) hI.1 hI.2 hS i he hc j hj (cg_w hX _ hlk) (fun _ h => h) hfin hin9 hdc hd hn hfit hj9 (zz_at (cg_d hX) k hk) (fun H1 locs1 hP1 hD1 hS1 => kk H1 locs1 ls ⟨hP1, hD1⟩ hS1 hl)
theorem G_oinit (hX : CxG l K d nL mc ms X cc own ret L) {index a : Nat} (k q : Nat) (hl9 : Cond.methodLink own index objectInit ∈ zz_good) (hi9 : Cond.instanceMethod objectInit ∈ zz_good) (hc9 : Cond.code objectInit ⟨#[0xb1]⟩ 1 none ∈ zz_good) (hd : 1 ≤ d) (hst : (st.map fun v => v.category).sum ≤ 8) (hk : L[k]? = some (pc, .invokespecial index, 3)) (hq : pc + 3 = q) (kk : VG l K d nL mc ms Z X cells slots I q lc st) : VG l K d nL mc ms Z X cells slots I pc lc (.ref a :: st) := by
  subst hq
  intro H locs ls hI hS hl
  refine W.objInit (cg_x hX) (cg_b hX) (cg_own hX) (cg_w hX _ hl9) (cg_w hX _ hi9) (cg_w hX _ hc9) rfl (by rw [cg_ml hX]; exact hl.1) rfl (zz_at (cg_d hX) k hk) hd ?_ ?_
  · show 2 * 0 + (st.map fun v => v.category).sum + 12 ≤ 60 * d
    omega
  · exact kk H locs ls hI hS hl
/-! calls -/
theorem PG_blind {As : List Value} {I : Heap → Prop} : FrameBlind (PG K As I) := by
  intro a U g mk h
  obtain ⟨h1, h2, h3, h4, h5⟩ := h
  exact ⟨h1, h2, va_K.moved (u := U) (U := U.calling g mk a) (Vm.Alike.refl U.vm) h3, Kon.to (s := U) (U := U.calling g mk a) (State.WarmedH.refl U) (fun _ _ _ => rfl) h4, h5⟩
theorem PG_pc (hX : CxG l K d nL mc ms X cc own ret L) {As : List Value} {H : Heap} {locs : List Loc} (hI : I H) (hS : va_S (kF K) X.2.2.1.heap H locs) : ∀ U : State, U.heap = H → X.2.2.1.WarmedH U.vm → PG K As I As.toArray U :=
  fun U hU hW => ⟨rfl, by rw [hU]; exact hI, va_K.moved hW.alike (cg_K hX), by rw [hU]; exact Kon.to hW (fun a ha hA => hS.2.1 a ha hA) (cg_k hX), by rw [hU]; exact Nat.le_trans (cg_z hX) hS.1⟩
theorem CG_CB (hX : CxG l K d nL mc ms X cc own ret L) {y : MethodName} {bytes : ByteArray} {maxL n index d' mc' ms' : Nat} {ret' : Option FieldType} (hy : MY y bytes maxL ret' n) (hl : Cond.methodLink own index y ∈ zz_good) (hd : d' + 1 ≤ d) (hm : maxL ≤ 41) :
    CallB (rmm d mc ms) X.2.2.1 X.2.2.2.2.1 own index y bytes maxL ret' (Cond.code y bytes maxL ret' :: zz_good) (rmm d' mc' ms') mc' ms' n :=
  callB_of n (cg_w hX) (zz_gg hy.1) rfl rfl rfl (cg_w hX _ hy.2.1) (cg_w hX _ hl) hy.2.2 ⟨hd, by show 8 + (maxL + 11) + 60 * d' ≤ 60 * d; omega⟩
/-- behind a call: the world is what the contract says -/
theorem G_run {mc' ms' : Nat} {st0 : List Value} {I' : Heap → Prop} {Q' : Option Value → Heap → Prop} {a : Array Value}
    (hr : ∀ (H : Heap) (locs : List Loc) (ls : Array Slot), I H → va_S (kF K) X.2.2.1.heap H locs → lv_has ls nL lc → va_Run X.1 l X.2.1 (rmm d mc ms) X.2.2.1 X.2.2.2.1 X.2.2.2.2.1 X.2.2.2.2.2.1 X.2.2.2.2.2.2.1 X.2.2.2.2.2.2.2 H locs cells slots mc' ms' (F0 X.2.2.2.1 pc ls st0) rest (QG K Q' a) (kF K))
    (kk : ∀ v, VG l K d nL mc ms Z X (cells + mc') (slots + ms') (Q' v) (pc + 3) lc (v.toList ++ rest)) : VG l K d nL mc ms Z X cells slots I pc lc st0 := by
  intro H locs ls hI hS hl T hT X9
  obtain ⟨v, st₀, t, T', L9, h0, X', hL, e1, e2, ⟨⟨v2, hv, hq⟩, hz, hk⟩, st9⟩ := hr H locs ls hI hS hl T hT X9
  cases hv
  rw [h0] at hz hk
  obtain ⟨t2, a1, b1⟩ := kk v T'.heap (locs ++ L9) ls (by rw [e1]; exact hq) ⟨Nat.le_trans hS.1 (by rw [e1]; exact hz), fun q h1 h2 => by rw [e1, hk q (Nat.lt_of_lt_of_le h1 hS.1) h2]; exact hS.2.1 q h1 h2, fun q hq9 => by
    rcases List.mem_append.mp hq9 with h | h
    · exact hS.2.2 q h
    · exact hL q h⟩ hl T' rfl X'
  exact ⟨t2, st9 t2 a1, b1⟩
theorem G_callS (hX : CxG l K d nL mc ms X cc own ret L) {y : MethodName} {bytes : ByteArray} {maxL n index d' mc' ms' : Nat} {ret' : Option FieldType} {As st0 : List Value} {Q' : Option Value → Heap → Prop} (k : Nat) (hc : CG l K y (Cond.code y bytes maxL ret') d' mc' ms' As I Q') (hy : MY y bytes maxL ret' n) (hi : Cond.static y ∈ zz_good) (hl9 : Cond.methodLink own index y ∈ zz_good) (hd : d' + 1 ≤ d) (hm : maxL ≤ 41) (hn : As.length = n) (hst : st0 = As.reverse ++ rest) (hW : (rest.map fun v => v.category).sum ≤ 8) (hk : L[k]? = some (pc, .invokestatic index, 3)) (h1 : cells + mc' ≤ mc) (h2 : slots + ms' ≤ ms)
    (kk : ∀ v, VG l K d nL mc ms Z X (cells + mc') (slots + ms') (Q' v) (pc + 3) lc (v.toList ++ rest)) : VG l K d nL mc ms Z X cells slots I pc lc st0 :=
  G_run (I' := I) (fun H locs ls hI hS hl => va_runS (Ts := zz_good) (own := own) ⟨cg_x hX, cg_b hX, cg_ml hX, cg_own hX, cg_w hX⟩ hc ⟨CG_CB hX hy hl9 hd hm, cg_w hX _ hi⟩ ⟨PG_blind, PG_pc hX hI hS⟩ rfl hn hl.1 hst (lv_room hW) (zz_at (cg_d hX) k hk) ⟨h1, h2⟩) kk
theorem G_callI (hX : CxG l K d nL mc ms X cc own ret L) {y : MethodName} {bytes : ByteArray} {maxL n index d' mc' ms' b : Nat} {As st0 : List Value} {Q' : Option Value → Heap → Prop} (k : Nat) (hc : CG l K y (Cond.code y bytes maxL none) d' mc' ms' (.ref b :: As) I Q') (hy : MY y bytes maxL none n) (hi : y.name = "<init>" ∧ Cond.instanceMethod y ∈ zz_good) (hl9 : Cond.methodLink own index y ∈ zz_good) (hd : d' + 1 ≤ d) (hm : maxL ≤ 41) (hn : As.length = n) (hst : st0 = As.reverse ++ .ref b :: rest) (hW : (rest.map fun v => v.category).sum ≤ 8) (hk : L[k]? = some (pc, .invokespecial index, 3)) (h1 : cells + mc' ≤ mc) (h2 : slots + ms' ≤ ms)
    (kk : ∀ v, VG l K d nL mc ms Z X (cells + mc') (slots + ms') (Q' v) (pc + 3) lc (v.toList ++ rest)) : VG l K d nL mc ms Z X cells slots I pc lc st0 :=
  G_run (I' := I) (fun H locs ls hI hS hl => va_runI (Ts := zz_good) (own := own) ⟨cg_x hX, cg_b hX, cg_ml hX, cg_own hX, cg_w hX⟩ hc ⟨CG_CB hX hy hl9 hd hm, hi.1, cg_w hX _ hi.2⟩ ⟨PG_blind, PG_pc hX hI hS⟩ rfl hn hl.1 hst (lv_room hW) (zz_at (cg_d hX) k hk) ⟨h1, h2⟩) kk
theorem G_callIN (hX : CxG l K d nL mc ms X cc own ret L) {y : MethodName} {bytes : ByteArray} {maxL n index d' mc' ms' b : Nat} {host : String} {As st0 : List Value} {Q' : Option Value → Heap → Prop} (k : Nat) (hc : CG l K y (Cond.code y bytes maxL none) d' mc' ms' (.ref b :: As) I Q') (hy : MY y bytes maxL none n) (hi : y.name = "<init>" ∧ Cond.instanceMethod y ∈ zz_good) (hl9 : (own, index, y, host) ∈ zz_nestM) (hd : d' + 1 ≤ d) (hm : maxL ≤ 41) (hn : As.length = n) (hst : st0 = As.reverse ++ .ref b :: rest) (hW : (rest.map fun v => v.category).sum ≤ 8) (hk : L[k]? = some (pc, .invokespecial index, 3)) (h1 : cells + mc' ≤ mc) (h2 : slots + ms' ≤ ms)
    (kk : ∀ v, VG l K d nL mc ms Z X (cells + mc') (slots + ms') (Q' v) (pc + 3) lc (v.toList ++ rest)) : VG l K d nL mc ms Z X cells slots I pc lc st0 := by
  have hN := cg_k hX
  obtain ⟨-, -, -, -, -, -, -, -, -, -, -, -, hnm, -⟩ := hN
  exact G_run (I' := I) (fun H locs ls hI hS hl => va_runIN (Ts := zz_good) (own := own) ⟨cg_x hX, cg_b hX, cg_ml hX, cg_own hX, cg_w hX⟩ hc ⟨va_cnB n (cg_w hX) (zz_gg hy.1) rfl rfl rfl (hnm _ hl9) (cg_w hX _ hy.2.1) hy.2.2 ⟨hd, by show 8 + (maxL + 11) + 60 * d' ≤ 60 * d; omega⟩, hi.1, cg_w hX _ hi.2⟩ ⟨PG_blind, PG_pc hX hI hS⟩ rfl hn hl.1 hst (lv_room hW) (zz_at (cg_d hX) k hk) ⟨h1, h2⟩) kk
/-- a virtual call on an object of a class C whose own method is y (SB: the JDK's methods on a StringBuilder) -/
theorem G_callV (hX : CxG l K d nL mc ms X cc own ret L) {y : MethodName} {bytes : ByteArray} {maxL n index d' mc' ms' b ci N : Nat} {C : String} {T : u_T} {fs : List Value} {ws : va_W} {ret' : Option FieldType} {As st0 : List Value} {Q' : Option Value → Heap → Prop} (k i : Nat) (hc : CG l K y (Cond.code y bytes maxL ret') d' mc' ms' (.ref b :: As) (GI K ws) Q') (hy : MY y bytes maxL ret' n) (hi : Cond.instanceMethod y ∈ zz_good) (hse : Cond.selects C y y ∈ zz_good) (hl9 : Cond.methodLink own index y ∈ zz_good) (he : ws[i]? = some (b, .inr (ci, fs))) (hcl : wcl[ci]? = some (C, T, N)) (hd : d' + 1 ≤ d) (hm : maxL ≤ 41) (hn : As.length = n) (hst : st0 = As.reverse ++ .ref b :: rest) (hW : (rest.map fun v => v.category).sum ≤ 8) (hk : L[k]? = some (pc, .invokevirtual index, 3)) (h1 : cells + mc' ≤ mc) (h2 : slots + ms' ≤ ms)
    (kk : ∀ v, VG l K d nL mc ms Z X (cells + mc') (slots + ms') (Q' v) (pc + 3) lc (v.toList ++ rest)) : VG l K d nL mc ms Z X cells slots (GI K ws) pc lc st0 :=
  G_run (I' := GI K ws) (fun H locs ls hI hS hl => va_runV (Ts := zz_good) (own := own) (C := C) ⟨cg_x hX, cg_b hX, cg_ml hX, cg_own hX, cg_w hX⟩ hc ⟨CG_CB hX hy hl9 hd hm, cg_w hX _ hi, cg_w hX _ hse⟩ ⟨PG_blind, va_recv (cg_K hX) hI.1 hcl he, PG_pc hX hI hS⟩ rfl hn hl.1 hst (lv_room hW) (zz_at (cg_d hX) k hk) ⟨h1, h2⟩) kk
/-- super.m(..) by invokespecial -/
theorem G_callSU (hX : CxG l K d nL mc ms X cc own ret L) {y : MethodName} {bytes : ByteArray} {maxL n index d' mc' ms' b ci N : Nat} {C : String} {T : u_T} {fs : List Value} {ws : va_W} {ret' : Option FieldType} {As st0 : List Value} {Q' : Option Value → Heap → Prop} (k i : Nat) (hc : CG l K y (Cond.code y bytes maxL ret') d' mc' ms' (.ref b :: As) (GI K ws) Q') (hy : MY y bytes maxL ret' n) (hi : Cond.instanceMethod y ∈ zz_good) (hsm : Cond.sameMethod y.cls y.cls y.name y.desc ∈ zz_good) (hsu : Cond.superclass own y.cls ∈ zz_good) (hnm : y.name ≠ "<init>") (hl9 : Cond.methodLink own index y ∈ zz_good) (he : ws[i]? = some (b, .inr (ci, fs))) (hcl : wcl[ci]? = some (C, T, N)) (hd : d' + 1 ≤ d) (hm : maxL ≤ 41) (hn : As.length = n) (hst : st0 = As.reverse ++ .ref b :: rest) (hW : (rest.map fun v => v.category).sum ≤ 8) (hk : L[k]? = some (pc, .invokespecial index, 3)) (h1 : cells + mc' ≤ mc) (h2 : slots + ms' ≤ ms)
    (kk : ∀ v, VG l K d nL mc ms Z X (cells + mc') (slots + ms') (Q' v) (pc + 3) lc (v.toList ++ rest)) : VG l K d nL mc ms Z X cells slots (GI K ws) pc lc st0 :=
  G_run (I' := GI K ws) (fun H locs ls hI hS hl => va_runSU (Ts := zz_good) (own := own) (C := C) ((cg_K hX).1 ci _ hcl).2 ⟨cg_x hX, cg_b hX, cg_ml hX, cg_own hX, cg_w hX⟩ hc
    ⟨⟨rfl, rfl, hd, by show 8 + (maxL + 11) + 60 * d' ≤ 60 * d; omega, pay_in (cg_w hX) (zz_gg hy.1), List.mem_cons_self⟩, cg_w hX _ hl9, cg_w hX _ hsm, cg_w hX _ hsu, cg_w hX _ hi, cg_w hX _ hy.2.1, cg_w hX _ hy.1, hnm, fun sig h => by
      have h2 := hy.2.2.2.2
      rw [h] at h2
      exact (Option.some.inj h2).symm⟩ ⟨PG_blind, va_recv (cg_K hX) hI.1 hcl he, PG_pc hX hI hS⟩ rfl hn hl.1 hst (lv_room hW) (zz_at (cg_d hX) k hk) ⟨h1, h2⟩) kk
/-! contracts -/
theorem CG_of {y : MethodName} {As : List Value} (hy : plainName y.cls = true) (hd : zz_decAll cc L = true) (hl : l.stackTraces = false) (hlc : lv_args 0 As = lc) (hle : (lg_sl As).length ≤ nL)
    (body : ∀ X : XT, CxG l K d nL mc ms X cc y.cls ret L → X.2.2.2.2.2.2.1.name = y.name → VG l K d nL mc ms (ZG K X mc ms Q) X 0 0 I 0 lc []) : CG l K y (Cond.code y cc nL ret) d mc ms As I Q := by
  refine Met.ofW (cc := cc) (maxL := nL) (ret := ret) (ws' := zz_good) hy rfl ?_
  intro p e s m args below meth c s₁ B hml hv
  obtain ⟨rfl, hI, hK, hN, hz⟩ := hv
  have hts := atoms_spec (ws := Cond.code y cc nL ret :: zz_good) B.pre
  have hc : CxG l K d nL mc ms (p, e, s, m, As.toArray, below, meth, c) cc y.cls ret L := ⟨B.exec, B.bytes, hd, hml, findClass_of_methodNamed B.named, fun w hw => hts w (List.mem_cons_of_mem _ hw), B.returns, B.notSynchronized, hK, hN, hz, hl⟩
  have hls := lv_entry As (n := nL) hle
  rw [hlc] at hls
  rw [lg_entry_eq]
  exact body _ hc (name_of_methodNamed B.named B.method).1 s.heap [] _ hI va_S.rf hls
/-- a contract over the memory's functions out of a walk over the world -/
theorem CTp_ofG {α : Type} {rv : α → Option Value} {y : MethodName} {As : List Value} {M : Mm} {x : Rs α} (hy : plainName y.cls = true) (hd : zz_decAll cc L = true) (hl : l.stackTraces = false) (hlc : lv_args 0 As = lc) (hle : (lg_sl As).length ≤ nL)
    (body : ∀ o M', x = some (o, M') → ∃ a, o = .inl a ∧ ∀ X : XT, CxG l K d nL mc ms X cc y.cls ret L → VG l K d nL mc ms (ZG K X mc ms (fun v H => v = rv a ∧ InvH K M' H)) X 0 0 (InvH K M) 0 lc []) : CTp l K y (Cond.code y cc nL ret) rv d mc ms As M x := by
  intro o M' ho
  obtain ⟨a, rfl, hb⟩ := body o M' ho
  refine vx_ofW (cc := cc) (maxL := nL) (ret := ret) (ws' := zz_good) hy rfl ?_
  intro p e s m args below meth c s₁ B hml hex hv
  obtain ⟨rfl, hI, hK, hN, hz⟩ := hv
  have hts := atoms_spec (ws := Cond.code y cc nL ret :: zz_good) B.pre
  have hc : CxG l K d nL mc ms (p, e, s, m, As.toArray, below, meth, c) cc y.cls ret L := ⟨B.exec, B.bytes, hd, hml, findClass_of_methodNamed B.named, fun w hw => hts w (List.mem_cons_of_mem _ hw), B.returns, B.notSynchronized, hK, hN, hz, hl⟩
  have hls := lv_entry As (n := nL) hle
  rw [hlc] at hls
  rw [lg_entry_eq]
  have hw := hb _ hc s.heap [] _ hI va_S.rf hls
  refine vx_ret ?_
  intro T hT X9
  obtain ⟨t, a1, o, b1, b2, ⟨⟨v, b3, b4, b5⟩, b6⟩, b7⟩ := hw T hT X9
  exact ⟨t, a1, o, b1, b2, ⟨⟨a, rfl, by rw [b3, b4], b5⟩, b6⟩, b7⟩
end G
