/-! THE MEMORY AS A FUNCTION: location -> index -> number. Locations are names (numbers), kA gives their addresses. -/
abbrev Mm : Type := Nat → Nat → Int32
def mrow (M : Mm) (k : Nat) (g : Nat → Int32) : Mm := fun a => if a = k then g else M a
def mset (M : Mm) (k j : Nat) (x : Int32) : Mm := mrow M k (upd (M k) j x)
abbrev Rs (α : Type) : Type := Option ((α ⊕ Nat) × Mm)
def bnd {α β : Type} (x : Rs β) (k : β → Mm → Rs α) : Rs α := match x with
  | none => none
  | some (.inl a, M) => k a M
  | some (.inr q, M) => some (.inr q, M)
def grd {α : Type} (g : Prop) [Decidable g] (t : Option α) : Option α := if g then t else none
def lm {α : Type} (M : Mm) (k : Mm → Rs α) : Rs α := k M
def li {α : Type} (x : Int32) (k : Int32 → Rs α) : Rs α := k x
def fuel0 : Nat := 2000
abbrev inb (i : Int32) (n : Nat) : Prop := ¬ (i < 0 ∨ n ≤ i.toNatClampNeg)
abbrev KT : Type := va_G × (Nat → Nat) × (Nat → ClassId) × Nat
abbrev kD (K : KT) : va_G := K.1
abbrev kA (K : KT) : Nat → Nat := K.2.1
abbrev kC (K : KT) : Nat → ClassId := K.2.2.1
abbrev kz (K : KT) : Nat := K.2.2.2
abbrev kF (K : KT) : Nat → Prop := fun q => kz K ≤ q
def zz_lens : List Nat := [0, 0, 0, 0, 0, 0, 0, 20, 20, 20, 20, 20, 0, 680, 85, 85, 0, 0, 3, 0, 0, 0, 21, 20, 20, 20, 0, 20, 0, 105, 0, 400, 0, 85, 85, 85, 680, 105, 20, 140, 60, 32, 32, 32, 32, 0, 0]
/-- the length of an int array; 0 for all else -/
def alen (k : Nat) : Nat := zz_lens.getD k 0
abbrev isIA (k : Nat) : Prop := alen k ≠ 0
abbrev isSer (k : Nat) : Prop := 2 ≤ k ∧ k ≤ 6
def dbl (a b : Int32) : UInt64 := UInt64.ofNat (a.toBitVec.toNat * 4294967296 + b.toBitVec.toNat)
/-- what stands at a location whose numbers are f -/
def ent (K : KT) (k : Nat) (f : Nat → Int32) : va_E :=
  if alen k ≠ 0 then .inl (kC K 0, alen k, .inl f)
  else if 2 ≤ k ∧ k ≤ 6 then .inr (2, [.ref (kA K (k + 5)), .int (f 1)])
  else if k = 0 then .inr (0, [.ref (kA K 1), .ref (kA K 12), .ref (kA K 14), .int (f 3), .ref (kA K 15), .ref (kA K 16), .int (f 6), .int (f 7), .ref (kA K 19), .ref (kA K 21), .ref (kA K 26), .ref (kA K 28), .ref (kA K 30)])
  else if k = 1 then .inr (1, [.ref (kA K 2), .ref (kA K 3), .ref (kA K 4), .ref (kA K 5), .ref (kA K 6), .int (f 5)])
  else if k = 12 then .inr (3, [.ref (kA K 13), .int (f 1), .int (f 2)])
  else if k = 16 then .inr (4, [.ref (kA K 17), .int (f 1), .ref (kA K 18), .int (f 3), .ref (kA K (1000 + (f 4).toNatClampNeg)), .int (f 5)])
  else if k = 17 then .inl (kC K 1, 60, .inl f)
  else if k = 21 then .inr (5, [.ref (kA K 22), .ref (kA K 23), .ref (kA K 24), .ref (kA K 25)])
  else if k = 26 then .inr (6, [.ref (kA K 27)])
  else if k = 28 then .inr (7, [.ref (kA K 29)])
  else if k = 30 then .inr (8, [.ref (kA K 31)])
  else if k = 32 then .inr (9, [.ref (kA K 33), .ref (kA K 34), .ref (kA K 35), .ref (kA K 36), .ref (kA K 37), .ref (kA K 38), .int (f 6), .int (f 7), .int (f 8), .int (f 9), .int (f 10), .ref (kA K 39), .int (f 12), .ref (kA K 40), .ref (kA K 41), .ref (kA K 42), .ref (kA K 43), .ref (kA K 44), .int (f 18), .int (f 19), .int (f 20), .int (f 21), .int (f 22)])
  else if k = 45 then .inl (kC K 2, 1, .inr (.inl (fun j => (f j).toInt64)))
  else .inl (kC K 3, 1, .inr (.inr (.inr (.inl (fun _ => dbl (f 0) (f 1))))))
def zz_locs : List Nat := [0, 1, 2, 3, 4, 5, 6, 7, 8, 9, 10, 11, 12, 13, 14, 15, 16, 17, 18, 21, 22, 23, 24, 25, 26, 27, 28, 29, 30, 31, 32, 33, 34, 35, 36, 37, 38, 39, 40, 41, 42, 43, 44, 45, 46]
def zz_pos (k : Nat) : Nat := if k < 19 then k else k - 2
def wsx (K : KT) (M : Mm) (sb : va_W) : va_W := zz_locs.map (fun k => (kA K k, ent K k (M k))) ++ sb
theorem zz_posOf : ∀ k ∈ zz_locs, zz_locs[zz_pos k]? = some k := by decide +kernel
theorem zz_posAt : ∀ i, i < 45 → ∀ k, zz_locs[i]? = some k → zz_pos k = i := by
  intro i hi k hk
  have h : (List.range 45).all (fun i => decide (zz_pos (zz_locs.getD i 0) = i)) = true := by decide +kernel
  have h1 := of_decide_eq_true (List.all_eq_true.mp h i (List.mem_range.mpr hi))
  rw [List.getD_eq_getElem?_getD, hk] at h1
  exact h1
theorem zz_get (K : KT) (M : Mm) (sb : va_W) {k : Nat} (hk : k ∈ zz_locs) {e : va_E} (he : ent K k (M k) = e) : (wsx K M sb)[zz_pos k]? = some (kA K k, e) := by
  have h := zz_posOf k hk
  subst he
  unfold wsx
  rw [List.getElem?_append_left (by rw [List.length_map]; exact (List.getElem?_eq_some_iff.mp h).1), List.getElem?_map, h]
  rfl
theorem mrow_eq (M : Mm) (k : Nat) (g : Nat → Int32) : mrow M k g k = g := if_pos rfl
theorem mrow_ne (M : Mm) {k a : Nat} (g : Nat → Int32) (h : a ≠ k) : mrow M k g a = M a := if_neg h
theorem mset_eq (M : Mm) (k j : Nat) (x : Int32) : mset M k j x k = upd (M k) j x := if_pos rfl
theorem mset_ne (M : Mm) {k a : Nat} (j : Nat) (x : Int32) (h : a ≠ k) : mset M k j x a = M a := if_neg h
theorem zz_set (K : KT) (M : Mm) (sb : va_W) {k : Nat} (hk : k ∈ zz_locs) (g : Nat → Int32) {e : va_E} (he : ent K k g = e) : (wsx K M sb).set (zz_pos k) (kA K k, e) = wsx K (mrow M k g) sb := by
  subst he
  have h := zz_posOf k hk
  have hl : zz_pos k < zz_locs.length := (List.getElem?_eq_some_iff.mp h).1
  unfold wsx
  rw [List.set_append_left _ _ (by rw [List.length_map]; exact hl)]
  congr 1
  apply List.ext_getElem?
  intro i
  rw [List.getElem?_set, List.getElem?_map, List.length_map]
  by_cases hi : zz_pos k = i
  · subst hi
    rw [if_pos rfl, if_pos hl, List.getElem?_map, h]
    simp only [Option.map_some, mrow_eq]
  · rw [if_neg hi, List.getElem?_map]
    cases hz : zz_locs[i]? with
    | none => simp only [Option.map_none]
    | some a =>
      have hlt : i < 45 := (List.getElem?_eq_some_iff.mp hz).1
      have ha : zz_pos a = i := zz_posAt i hlt a hz
      have hne : a ≠ k := fun e => hi (by rw [← e]; exact ha)
      simp only [Option.map_some, mrow_ne _ _ hne]
/-- the line: a StringBuilder of Latin-1 bytes -/
def SBok (K : KT) (f : Nat → Int32) (sb : va_W) : Prop :=
  ∃ (q m n : Nat) (z : Int32) (t : Nat → Nat) (a : Nat → Int32), sb = [(kA K 19, .inr (10, [.ref q, .int 0, .int z, .int (nI n)])), (q, .inl (kC K 4, m, .inl a))] ∧ f 0 = nI n ∧ n ≤ m ∧ (m = 16 ∨ m = 34 ∨ m = 70 ∨ m = 142) ∧ sb_Lat t n a ∧ sb_Fit a ∧ ∀ j, j < n → f (1 + j) = nI (t j)
def InvH (K : KT) (M : Mm) (H : Heap) : Prop := ∃ sb, SBok K (M 19) sb ∧ va_P (kD K) wcl (wsx K M sb) H ∧ va_D (kF K) (wsx K M sb)
abbrev ztys (K : KT) : List (ClassId × FieldType) := [(kC K 0, .int), (kC K 1, .char), (kC K 2, .long), (kC K 3, .double), (kC K 4, .byte)]
def zz_kinds : List String := ["PUT", "SET", "CUT", "COPY", "TURN", "SHIFT", "SMOOTH", "STEPS", "CLIP"]
def zz_faults : List String := ["NOTHING", "INDEX", "ARGUMENT", "STATE"]
def zz_ord : String × String × String × List Int32 := ("java/lang/Enum", "ordinal", "I", [0, 1, 2, 3, 4, 5, 6, 7, 8])
def zz_sw (i : Nat) : Int32 := ([1, 2, 3, 4, 9, 5, 6, 7, 8] : List Int32).getD i 0
def zz_shl : List Nat := [7, 9, 7, 8, 6, 9, 10, 7, 10]
def zz_shb : List (List Int32) := [[112, 117, 116, 32, 68, 32, 78], [115, 101, 116, 32, 68, 32, 73, 61, 78], [99, 117, 116, 32, 68, 32, 73], [99, 111, 112, 121, 32, 68, 60, 68], [116, 117, 114, 110, 32, 68], [115, 104, 105, 102, 116, 32, 68, 32, 78], [115, 109, 111, 111, 116, 104, 32, 68, 32, 68], [115, 116, 101, 112, 115, 32, 68], [99, 108, 105, 112, 32, 68, 32, 78, 32, 78]]

def zz_nestF : List (String × Nat × String × String × String × String) := [("SeriesArchive$Input", 51, "SeriesArchive$Kind", "ALL", "[LSeriesArchive$Kind;", "SeriesArchive"), ("SeriesArchive$Input", 55, "SeriesArchive$Kind", "shape", "Ljava/lang/String;", "SeriesArchive")]
def zz_nestM : List (String × Nat × MethodName × String) := [("SeriesArchive", 11, ⟨"SeriesArchive$State", "<init>", "()V"⟩, "SeriesArchive"), ("SeriesArchive", 18, ⟨"SeriesArchive$History", "<init>", "()V"⟩, "SeriesArchive"), ("SeriesArchive", 32, ⟨"SeriesArchive$Input", "<init>", "()V"⟩, "SeriesArchive"), ("SeriesArchive", 53, ⟨"SeriesArchive$Ranges", "<init>", "()V"⟩, "SeriesArchive"), ("SeriesArchive", 60, ⟨"SeriesArchive$Patterns", "<init>", "()V"⟩, "SeriesArchive"), ("SeriesArchive", 67, ⟨"SeriesArchive$Divisions", "<init>", "()V"⟩, "SeriesArchive"), ("SeriesArchive", 74, ⟨"SeriesArchive$Walks", "<init>", "()V"⟩, "SeriesArchive"), ("SeriesArchive$Divisions", 25, ⟨"SeriesArchive", "write", "([III)V"⟩, "SeriesArchive"), ("SeriesArchive$Divisions", 29, ⟨"SeriesArchive", "read", "([II)I"⟩, "SeriesArchive"), ("SeriesArchive$History", 31, ⟨"SeriesArchive", "read", "([II)I"⟩, "SeriesArchive"), ("SeriesArchive$History", 35, ⟨"SeriesArchive", "write", "([III)V"⟩, "SeriesArchive"), ("SeriesArchive$Input", 36, ⟨"SeriesArchive", "read", "([II)I"⟩, "SeriesArchive"), ("SeriesArchive$Input", 95, ⟨"SeriesArchive", "write", "([III)V"⟩, "SeriesArchive"), ("SeriesArchive$Patterns", 25, ⟨"SeriesArchive", "read", "([II)I"⟩, "SeriesArchive"), ("SeriesArchive$Patterns", 29, ⟨"SeriesArchive", "write", "([III)V"⟩, "SeriesArchive"), ("SeriesArchive$Ranges", 38, ⟨"SeriesArchive", "write", "([III)V"⟩, "SeriesArchive"), ("SeriesArchive$Ranges", 42, ⟨"SeriesArchive", "read", "([II)I"⟩, "SeriesArchive"), ("SeriesArchive$Series", 19, ⟨"SeriesArchive", "write", "([III)V"⟩, "SeriesArchive"), ("SeriesArchive$Series", 35, ⟨"SeriesArchive", "read", "([II)I"⟩, "SeriesArchive"), ("SeriesArchive$Series", 43, ⟨"SeriesArchive", "isValue", "(I)Z"⟩, "SeriesArchive"), ("SeriesArchive$State", 11, ⟨"SeriesArchive$Series", "<init>", "()V"⟩, "SeriesArchive"), ("SeriesArchive$State", 46, ⟨"SeriesArchive", "write", "([III)V"⟩, "SeriesArchive"), ("SeriesArchive$State", 54, ⟨"SeriesArchive", "read", "([II)I"⟩, "SeriesArchive"), ("SeriesArchive$State", 61, ⟨"SeriesArchive", "isSlot", "(I)Z"⟩, "SeriesArchive"), ("SeriesArchive$State", 82, ⟨"SeriesArchive", "isValue", "(I)Z"⟩, "SeriesArchive"), ("SeriesArchive$Walks", 32, ⟨"SeriesArchive", "write", "([III)V"⟩, "SeriesArchive"), ("SeriesArchive$Walks", 36, ⟨"SeriesArchive", "read", "([II)I"⟩, "SeriesArchive")]
def zz_texts : List (Nat × String) := [(158, "no such rank"), (172, "the series is empty"), (256, "no such segment"), (289, "all series are empty"), (317, "the line has no such character"), (326, "not a character that can be typed"), (334, "the input buffer is full"), (350, "the program is malformed"), (355, "a command failed"), (358, "no change can be undone"), (372, "there is no saved copy"), (398, "no such slot or index"), (403, "an argument is out of range"), (408, "the series does not allow it"), (430, "no such slot"), (432, "no value has this index"), (434, "no such range"), (436, "the width is out of range"), (438, "the window would begin before the series"), (440, "the value is not a peak"), (442, "the number of segments is out of range"), (444, "the series has fewer values than segments"), (446, "one of the series is empty"), (448, "there is none")]
def exN : Nat → String
  | 0 => "java/lang/IndexOutOfBoundsException"
  | 1 => "java/lang/IllegalArgumentException"
  | 2 => "java/lang/IllegalStateException"
  | 3 => "java/util/NoSuchElementException"
  | _ => "java/lang/ArithmeticException"
/-- the words on the tables that go by premises of their own -/
def zz_isx : Cond → Bool
  | .castable .. => true
  | .declares .. => true
  | .privateMethod .. => true
  | _ => false
def zz_ex : List Cond := lw_tbl.filter zz_isx
theorem zz_inx {w : Cond} (h : w ∈ lw_tbl) (hg : zz_isx w = true) : w ∈ zz_ex := List.mem_filter.mpr ⟨h, hg⟩
theorem zz_xw {w : Cond} (hg : zz_isx w = true) {s U : State} (hW : s.WarmedH U.vm) (h : va_Nw w s) : va_Nw w U := by
  cases w with
  | castable a b => exact va_Nw.warmC hW h
  | declares a => exact va_Nw.warmD hW h
  | privateMethod a => exact Cond.privateMethod_warm hW h
  | _ => cases hg
theorem zz_xu {w : Cond} (hg : zz_isx w = true) {A : Array Value} {U : State} (h : va_Nw w U) : w.before A U = true := by
  cases w with
  | castable a b => exact va_Nw.use rfl h
  | declares a => exact va_Nw.use rfl h
  | privateMethod a => exact va_Nw.use rfl h
  | _ => cases hg
/-- what stays as it was at the start: constants, statics, words of nest mates -/
def Kon (K : KT) (U : State) (H : Heap) : Prop :=
  va_En "SeriesArchive$Kind" "LSeriesArchive$Kind;" zz_kinds [zz_ord] (fun i => kA K (1000 + i)) (kF K) U H ∧
  va_En "SeriesArchive$Fault" "LSeriesArchive$Fault;" zz_faults [] (fun i => kA K (1100 + i)) (kF K) U H ∧
  va_Ef 9 "SeriesArchive$Kind" "shape" "Ljava/lang/String;" (fun i => .ref (kA K (1200 + i))) (fun i => kA K (1000 + i)) (kF K) U H ∧
  va_Z "SeriesArchive$Kind" "ALL" "[LSeriesArchive$Kind;" (.ref (kA K 1300)) (kF K) U H ∧
  va_T (.object "SeriesArchive$Kind") (kA K 1300) 9 (fun i => .ref (kA K (1000 + i))) (kF K) U H ∧
  va_Z "SeriesArchive$1" "$SwitchMap$SeriesArchive$Kind" "[I" (.ref (kA K 1301)) (kF K) U H ∧
  va_T .int (kA K 1301) 9 (fun i => .int (zz_sw i)) (kF K) U H ∧
  vk_S 9 zz_shl zz_shb (fun i => kA K (1200 + i)) (fun i => kA K (1250 + i)) (kF K) U H ∧
  (∀ q ∈ zz_texts, ∃ a, vk_R "SeriesArchive" q.1 q.2 a U) ∧
  vx_Zq Bundle.tN "UNASSIGNED_STACK" Bundle.steD (kF K) U H ∧ vx_Zq Bundle.tN "SUPPRESSED_SENTINEL" Bundle.listD (kF K) U H ∧
  (∀ q ∈ zz_nestF, va_Nw (.fieldLinkNest q.1 q.2.1 q.2.2.1 q.2.2.2.1 q.2.2.2.2.1 q.2.2.2.2.2) U) ∧
  (∀ q ∈ zz_nestM, va_Nw (.methodLinkNest q.1 q.2.1 q.2.2.1 q.2.2.2) U) ∧
  va_Z "java/lang/String" "COMPACT_STRINGS" "Z" (.int 1) (kF K) U H ∧
  va_Z "java/lang/Integer" "DigitTens" "[B" (.ref (kA K 1302)) (kF K) U H ∧ va_T .byte (kA K 1302) 100 (fun i => .int (sb_b (48 + i / 10))) (kF K) U H ∧
  va_Z "java/lang/Integer" "DigitOnes" "[B" (.ref (kA K 1303)) (kF K) U H ∧ va_T .byte (kA K 1303) 100 (fun i => .int (sb_b (48 + i % 10))) (kF K) U H ∧
  (∀ i, i < 5 → ∀ j, j < 5 → i ≠ j → va_Nc (exN i) (exN j) U) ∧
  va_Zq "jdk/internal/util/Preconditions" "SIOOBE_FORMATTER" "Ljava/util/function/BiFunction;" (kF K) U H ∧
  (∀ w ∈ zz_ex, va_Nw w U)
theorem Kon.to {K : KT} {s U : State} {H H1 : Heap} (hW : s.WarmedH U.vm) (hq : ∀ a : Nat, a < H.size → ¬ kF K a → H1[a]? = H[a]?) (h : Kon K s H) : Kon K U H1 := by
  obtain ⟨h1, h2, h3, h4, h5, h6, h7, h8, h9, h10, h11, h12, h13, h14, h15, h16, h17, h18, h19, h20, h21⟩ := h
  have hv := hW.alike
  refine ⟨(va_En.moved hv h1).kept hq, (va_En.moved hv h2).kept hq, fun i hi => (va_OF.moved hv (h3 i hi)).kept hq, (va_Z.moved hv h4).kept hq, (va_T.moved hv h5).kept hq, (va_Z.moved hv h6).kept hq, (va_T.moved hv h7).kept hq, (vk_S.moved hv h8).kept hq, fun q hq9 => ?_, (vx_Zq.moved hv h10).kept hq, (vx_Zq.moved hv h11).kept hq, fun q hq9 => va_Nw.warmF hW (h12 q hq9), fun q hq9 => va_Nw.warmM hW (h13 q hq9), (va_Z.moved hv h14).kept hq, (va_Z.moved hv h15).kept hq, (va_T.moved hv h16).kept hq, (va_Z.moved hv h17).kept hq, (va_T.moved hv h18).kept hq, fun i hi j hj hij => va_Nc.moved hv (h19 i hi j hj hij), (va_Zq.moved hv h20).kept hq, fun w hw => zz_xw (List.mem_filter.mp hw).2 hW (h21 w hw)⟩
  obtain ⟨a, ha⟩ := h9 q hq9
  exact ⟨a, vk_R.warm hW ha⟩
def rmm (d mc ms : Nat) : Room := { frames := d, cells := mc, slots := ms, locals := 60 * d }
/-! CONTRACTS: the method, from a memory M, does what the pure term x says -/
def Pcc (K : KT) (As : List Value) (M : Mm) : Array Value → State → Prop := va_Pc As (fun U => InvH K M U.heap ∧ va_K (kD K) wcl (ztys K) U ∧ Kon K U U.heap ∧ kz K ≤ U.heap.size)
def Qcc {α : Type} (K : KT) (rv : α → Option Value) (o : α ⊕ Nat) (M' : Mm) : Array Value → State → Outcome → State → Prop := fun _ st oc t => (∃ a, o = .inl a ∧ oc = .returned (rv a) ∧ InvH K M' t.heap) ∧ va_F (kF K) st t
def Xcc {α : Type} (K : KT) (o : α ⊕ Nat) (M' : Mm) : String → State → State → Prop := fun E st t => (∃ k, o = .inr k ∧ E = exN k ∧ InvH K M' t.heap) ∧ va_F (kF K) st t
def CTp {α : Type} (l : Launch) (K : KT) (y : MethodName) (wd : Cond) (rv : α → Option Value) (d mc ms : Nat) (As : List Value) (M : Mm) (x : Rs α) : Prop :=
  ∀ o M', x = some (o, M') → vx_Met l y (wd :: zz_good) (rmm d mc ms) (Pcc K As M) (Qcc K rv o M') (Xcc K o M') mc ms (kF K)
abbrev XT : Type := Program × Env × State × MethodId × Array Value × List Frame × Method × Code
def Cx (l : Launch) (K : KT) (d nL mc ms : Nat) (X : XT) (cc : ByteArray) (own : String) (ret : Option FieldType) (hh : List (Nat × Nat × Nat × Nat)) (L : zz_L) : Prop :=
  X.1.tables.exec = Jvm.exec ∧ X.2.2.2.2.2.2.2.code = cc ∧ zz_decAll cc L = true ∧ X.2.2.2.2.2.2.2.maxLocals = nL ∧ X.2.2.1.vm.findClass own = some X.2.2.2.1.cls ∧ (∀ w ∈ zz_good, w.before X.2.2.2.2.1 X.2.2.1 = true) ∧
  X.2.2.2.2.2.2.1.sig.returnType = ret ∧ X.2.2.2.2.2.2.1.locks = false ∧ X.2.2.2.2.2.2.2.exceptionTable.toList = tableOf hh ∧ va_K (kD K) wcl (ztys K) X.2.2.1 ∧ Kon K X.2.2.1 X.2.2.1.heap ∧ kz K ≤ X.2.2.1.heap.size ∧ l.stackTraces = false
/-- from here, the method does what the pure term x says -/
def VV {α : Type} (l : Launch) (K : KT) (d nL mc ms : Nat) (rv : α → Option Value) (X : XT) (x : Rs α) (cells slots : Nat) (M : Mm) (pc : Nat) (lc : List (Nat × Value)) (st : List Value) : Prop :=
  ∀ o M', x = some (o, M') → ∀ (H : Heap) (locs : List Loc) (ls : Array Slot), InvH K M H → va_S (kF K) X.2.2.1.heap H locs → lv_has ls nL lc →
    W X.1 l X.2.1 (rmm d mc ms) X.2.2.1 X.2.2.2.1 X.2.2.2.2.1 X.2.2.2.2.2.1 X.2.2.2.2.2.2.1 X.2.2.2.2.2.2.2 H locs cells slots (vx_MQ X.2.2.2.2.2.1 (Qcc K rv o M') (Xcc K o M') X.2.2.2.2.1 X.2.2.1 mc ms (kF K)) (F0 X.2.2.2.1 pc ls st)
section CORE
variable {α : Type} {l : Launch} {K : KT} {d nL mc ms : Nat} {rv : α → Option Value} {X : XT} {cc : ByteArray} {own : String} {ret : Option FieldType} {hh : List (Nat × Nat × Nat × Nat)} {L : zz_L}
theorem cx_x (h : Cx l K d nL mc ms X cc own ret hh L) : X.1.tables.exec = Jvm.exec := h.1
theorem cx_b (h : Cx l K d nL mc ms X cc own ret hh L) : X.2.2.2.2.2.2.2.code = cc := h.2.1
theorem cx_d (h : Cx l K d nL mc ms X cc own ret hh L) : zz_decAll cc L = true := h.2.2.1
theorem cx_ml (h : Cx l K d nL mc ms X cc own ret hh L) : X.2.2.2.2.2.2.2.maxLocals = nL := h.2.2.2.1
theorem cx_own (h : Cx l K d nL mc ms X cc own ret hh L) : X.2.2.1.vm.findClass own = some X.2.2.2.1.cls := h.2.2.2.2.1
theorem cx_w (h : Cx l K d nL mc ms X cc own ret hh L) : ∀ w ∈ zz_good, w.before X.2.2.2.2.1 X.2.2.1 = true := h.2.2.2.2.2.1
theorem cx_r (h : Cx l K d nL mc ms X cc own ret hh L) : X.2.2.2.2.2.2.1.sig.returnType = ret := h.2.2.2.2.2.2.1
theorem cx_lk (h : Cx l K d nL mc ms X cc own ret hh L) : X.2.2.2.2.2.2.1.locks = false := h.2.2.2.2.2.2.2.1
theorem cx_h (h : Cx l K d nL mc ms X cc own ret hh L) : X.2.2.2.2.2.2.2.exceptionTable.toList = tableOf hh := h.2.2.2.2.2.2.2.2.1
theorem cx_K (h : Cx l K d nL mc ms X cc own ret hh L) : va_K (kD K) wcl (ztys K) X.2.2.1 := h.2.2.2.2.2.2.2.2.2.1
theorem cx_k (h : Cx l K d nL mc ms X cc own ret hh L) : Kon K X.2.2.1 X.2.2.1.heap := h.2.2.2.2.2.2.2.2.2.2.1
theorem cx_z (h : Cx l K d nL mc ms X cc own ret hh L) : kz K ≤ X.2.2.1.heap.size := h.2.2.2.2.2.2.2.2.2.2.2.1
theorem cx_t (h : Cx l K d nL mc ms X cc own ret hh L) : l.stackTraces = false := h.2.2.2.2.2.2.2.2.2.2.2.2
theorem VV_none {cells slots : Nat} {M : Mm} {pc : Nat} {lc : List (Nat × Value)} {st : List Value} : VV l K d nL mc ms rv X none cells slots M pc lc st := fun _ _ h => by cases h
theorem VV_grd {t : Rs α} {g : Prop} {dg : Decidable g} {cells slots : Nat} {M : Mm} {pc : Nat} {lc : List (Nat × Value)} {st : List Value} (k : g → VV l K d nL mc ms rv X t cells slots M pc lc st) : VV l K d nL mc ms rv X (@grd _ g dg t) cells slots M pc lc st := by
  intro o M' ho
  unfold grd at ho
  by_cases h : g
  · rw [if_pos h] at ho
    exact k h o M' ho
  · rw [if_neg h] at ho
    cases ho
theorem VV_li {k : Int32 → Rs α} {e : Int32} {cells slots : Nat} {M : Mm} {pc : Nat} {lc : List (Nat × Value)} {st : List Value} (h : ∀ x : Int32, x = e → VV l K d nL mc ms rv X (k x) cells slots M pc lc (.int x :: st)) : VV l K d nL mc ms rv X (li e k) cells slots M pc lc (.int e :: st) := h e rfl
theorem VV_sub {x : Rs α} {cells slots : Nat} {M : Mm} {pc : Nat} {lc lc' : List (Nat × Value)} {st : List Value} (ks : List Nat) (hl : lv_pick lc ks = lc') (h : VV l K d nL mc ms rv X x cells slots M pc lc' st) : VV l K d nL mc ms rv X x cells slots M pc lc st :=
  fun o M' ho H locs ls hI hS hls => h o M' ho H locs ls hI hS (lv_sub hls ks hl)
theorem VV_wd {x : Rs α} {cells slots : Nat} (c9 s9 : Nat) {M : Mm} {pc : Nat} {lc : List (Nat × Value)} {st : List Value} (h1 : cells ≤ c9) (h2 : slots ≤ s9) (h : VV l K d nL mc ms rv X x c9 s9 M pc lc st) : VV l K d nL mc ms rv X x cells slots M pc lc st :=
  fun o M' ho H locs ls hI hS hls => W.widen h1 h2 (h o M' ho H locs ls hI hS hls)
theorem CTp_of {y : MethodName} {As : List Value} {M : Mm} {x : Rs α} {lc : List (Nat × Value)} (hy : plainName y.cls = true) (hd : zz_decAll cc L = true) (hl : l.stackTraces = false) (hlc : lv_args 0 As = lc) (hle : (lg_sl As).length ≤ nL)
    (body : ∀ X : XT, Cx l K d nL mc ms X cc y.cls ret [] L → VV l K d nL mc ms rv X x 0 0 M 0 lc []) : CTp l K y (Cond.code y cc nL ret) rv d mc ms As M x := by
  intro o M' ho
  refine vx_ofW (cc := cc) (maxL := nL) (ret := ret) (ws' := zz_good) hy rfl ?_
  intro p e s m args below meth c s₁ B hml hex hv
  obtain ⟨rfl, hI, hK, hN, hz⟩ := hv
  have hts := atoms_spec (ws := Cond.code y cc nL ret :: zz_good) B.pre
  have hc : Cx l K d nL mc ms (p, e, s, m, As.toArray, below, meth, c) cc y.cls ret [] L := ⟨B.exec, B.bytes, hd, hml, findClass_of_methodNamed B.named, fun w hw => hts w (List.mem_cons_of_mem _ hw), B.returns, B.notSynchronized, by
    show c.exceptionTable.toList = []
    cases h9 : c.exceptionTable.toList with
    | nil => rfl
    | cons a t => exact (hex a (by rw [h9]; exact List.mem_cons_self)).elim, hK, hN, hz, hl⟩
  have hls := lv_entry As (n := nL) hle
  rw [hlc] at hls
  rw [lg_entry_eq]
  exact body _ hc o M' ho s.heap [] _ hI va_S.rf hls

theorem V_iconst (hX : Cx l K d nL mc ms X cc own ret hh L) {x : Rs α} {cells slots : Nat} {M : Mm} {pc : Nat} {lc : List (Nat × Value)} {st : List Value} {n : Int} (k q : Nat) (hk : L[k]? = some (pc, .iconst n, 1)) (hq : pc + 1 = q) (v : Int32) (hv : Int32.ofInt n = v) (kk : VV l K d nL mc ms rv X x cells slots M q lc (.int v :: st)) : VV l K d nL mc ms rv X x cells slots M pc lc (st) := by
  subst hq
  intro o M' ho H locs ls hI hS hl
  exact lv_iconst (v := v) (cx_x hX) (cx_b hX) (zz_at (cx_d hX) k hk) hv (kk o M' ho H locs ls hI hS hl)
theorem V_bipush (hX : Cx l K d nL mc ms X cc own ret hh L) {x : Rs α} {cells slots : Nat} {M : Mm} {pc : Nat} {lc : List (Nat × Value)} {st : List Value} {n : Int} (k q : Nat) (hk : L[k]? = some (pc, .bipush n, 2)) (hq : pc + 2 = q) (v : Int32) (hv : (Int8.ofInt n).toInt32 = v) (kk : VV l K d nL mc ms rv X x cells slots M q lc (.int v :: st)) : VV l K d nL mc ms rv X x cells slots M pc lc (st) := by
  subst hq
  intro o M' ho H locs ls hI hS hl
  exact lv_bipush (v := v) (cx_x hX) (cx_b hX) (zz_at (cx_d hX) k hk) hv (kk o M' ho H locs ls hI hS hl)
theorem V_sipush (hX : Cx l K d nL mc ms X cc own ret hh L) {x : Rs α} {cells slots : Nat} {M : Mm} {pc : Nat} {lc : List (Nat × Value)} {st : List Value} {n : Int} (k q : Nat) (hk : L[k]? = some (pc, .sipush n, 3)) (hq : pc + 3 = q) (v : Int32) (hv : (Int16.ofInt n).toInt32 = v) (kk : VV l K d nL mc ms rv X x cells slots M q lc (.int v :: st)) : VV l K d nL mc ms rv X x cells slots M pc lc (st) := by
  subst hq
  intro o M' ho H locs ls hI hS hl
  exact lv_sipush (v := v) (cx_x hX) (cx_b hX) (zz_at (cx_d hX) k hk) hv (kk o M' ho H locs ls hI hS hl)
theorem V_iadd (hX : Cx l K d nL mc ms X cc own ret hh L) {x : Rs α} {cells slots : Nat} {M : Mm} {pc : Nat} {lc : List (Nat × Value)} {st : List Value} {a b : Int32} (k q : Nat) (hk : L[k]? = some (pc, .iadd, 1)) (hq : pc + 1 = q) (kk : VV l K d nL mc ms rv X x cells slots M q lc (.int (a + b) :: st)) : VV l K d nL mc ms rv X x cells slots M pc lc (.int b :: .int a :: st) := by
  subst hq
  intro o M' ho H locs ls hI hS hl
  exact lv_iadd (cx_x hX) (cx_b hX) (zz_at (cx_d hX) k hk) (kk o M' ho H locs ls hI hS hl)
theorem V_isub (hX : Cx l K d nL mc ms X cc own ret hh L) {x : Rs α} {cells slots : Nat} {M : Mm} {pc : Nat} {lc : List (Nat × Value)} {st : List Value} {a b : Int32} (k q : Nat) (hk : L[k]? = some (pc, .isub, 1)) (hq : pc + 1 = q) (kk : VV l K d nL mc ms rv X x cells slots M q lc (.int (a - b) :: st)) : VV l K d nL mc ms rv X x cells slots M pc lc (.int b :: .int a :: st) := by
  subst hq
  intro o M' ho H locs ls hI hS hl
  exact lv_isub (cx_x hX) (cx_b hX) (zz_at (cx_d hX) k hk) (kk o M' ho H locs ls hI hS hl)
theorem V_imul (hX : Cx l K d nL mc ms X cc own ret hh L) {x : Rs α} {cells slots : Nat} {M : Mm} {pc : Nat} {lc : List (Nat × Value)} {st : List Value} {a b : Int32} (k q : Nat) (hk : L[k]? = some (pc, .imul, 1)) (hq : pc + 1 = q) (kk : VV l K d nL mc ms rv X x cells slots M q lc (.int (a * b) :: st)) : VV l K d nL mc ms rv X x cells slots M pc lc (.int b :: .int a :: st) := by
  subst hq
  intro o M' ho H locs ls hI hS hl
  exact lv_imul (cx_x hX) (cx_b hX) (zz_at (cx_d hX) k hk) (kk o M' ho H locs ls hI hS hl)
theorem V_iand (hX : Cx l K d nL mc ms X cc own ret hh L) {x : Rs α} {cells slots : Nat} {M : Mm} {pc : Nat} {lc : List (Nat × Value)} {st : List Value} {a b : Int32} (k q : Nat) (hk : L[k]? = some (pc, .iand, 1)) (hq : pc + 1 = q) (kk : VV l K d nL mc ms rv X x cells slots M q lc (.int (a &&& b) :: st)) : VV l K d nL mc ms rv X x cells slots M pc lc (.int b :: .int a :: st) := by
  subst hq
  intro o M' ho H locs ls hI hS hl
  exact lv_iand (cx_x hX) (cx_b hX) (zz_at (cx_d hX) k hk) (kk o M' ho H locs ls hI hS hl)
theorem V_ior (hX : Cx l K d nL mc ms X cc own ret hh L) {x : Rs α} {cells slots : Nat} {M : Mm} {pc : Nat} {lc : List (Nat × Value)} {st : List Value} {a b : Int32} (k q : Nat) (hk : L[k]? = some (pc, .ior, 1)) (hq : pc + 1 = q) (kk : VV l K d nL mc ms rv X x cells slots M q lc (.int (a ||| b) :: st)) : VV l K d nL mc ms rv X x cells slots M pc lc (.int b :: .int a :: st) := by
  subst hq
  intro o M' ho H locs ls hI hS hl
  exact lv_ior (cx_x hX) (cx_b hX) (zz_at (cx_d hX) k hk) (kk o M' ho H locs ls hI hS hl)
theorem V_ixor (hX : Cx l K d nL mc ms X cc own ret hh L) {x : Rs α} {cells slots : Nat} {M : Mm} {pc : Nat} {lc : List (Nat × Value)} {st : List Value} {a b : Int32} (k q : Nat) (hk : L[k]? = some (pc, .ixor, 1)) (hq : pc + 1 = q) (kk : VV l K d nL mc ms rv X x cells slots M q lc (.int (a ^^^ b) :: st)) : VV l K d nL mc ms rv X x cells slots M pc lc (.int b :: .int a :: st) := by
  subst hq
  intro o M' ho H locs ls hI hS hl
  exact lv_ixor (cx_x hX) (cx_b hX) (zz_at (cx_d hX) k hk) (kk o M' ho H locs ls hI hS hl)
theorem V_ineg (hX : Cx l K d nL mc ms X cc own ret hh L) {x : Rs α} {cells slots : Nat} {M : Mm} {pc : Nat} {lc : List (Nat × Value)} {st : List Value} {a : Int32} (k q : Nat) (hk : L[k]? = some (pc, .ineg, 1)) (hq : pc + 1 = q) (kk : VV l K d nL mc ms rv X x cells slots M q lc (.int (-a) :: st)) : VV l K d nL mc ms rv X x cells slots M pc lc (.int a :: st) := by
  subst hq
  intro o M' ho H locs ls hI hS hl
  exact lv_ineg (cx_x hX) (cx_b hX) (zz_at (cx_d hX) k hk) (kk o M' ho H locs ls hI hS hl)
theorem V_i2l (hX : Cx l K d nL mc ms X cc own ret hh L) {x : Rs α} {cells slots : Nat} {M : Mm} {pc : Nat} {lc : List (Nat × Value)} {st : List Value} {a : Int32} (k q : Nat) (hk : L[k]? = some (pc, .i2l, 1)) (hq : pc + 1 = q) (kk : VV l K d nL mc ms rv X x cells slots M q lc (.long a.toInt64 :: st)) : VV l K d nL mc ms rv X x cells slots M pc lc (.int a :: st) := by
  subst hq
  intro o M' ho H locs ls hI hS hl
  exact lv_i2l (v := a.toInt64) (cx_x hX) (cx_b hX) (zz_at (cx_d hX) k hk) rfl (kk o M' ho H locs ls hI hS hl)
theorem V_lconst (hX : Cx l K d nL mc ms X cc own ret hh L) {x : Rs α} {cells slots : Nat} {M : Mm} {pc : Nat} {lc : List (Nat × Value)} {st : List Value} {n : Fin 2} (k q : Nat) (hk : L[k]? = some (pc, .lconst n, 1)) (hq : pc + 1 = q) (v : Int64) (hv : Int64.ofNat (n : Nat) = v) (kk : VV l K d nL mc ms rv X x cells slots M q lc (.long v :: st)) : VV l K d nL mc ms rv X x cells slots M pc lc (st) := by
  subst hq
  intro o M' ho H locs ls hI hS hl
  exact lv_lconst (v := v) (cx_x hX) (cx_b hX) (zz_at (cx_d hX) k hk) hv (kk o M' ho H locs ls hI hS hl)
theorem V_i2d (hX : Cx l K d nL mc ms X cc own ret hh L) {x : Rs α} {cells slots : Nat} {M : Mm} {pc : Nat} {lc : List (Nat × Value)} {st : List Value} {a : Int32} (k q : Nat) (hk : L[k]? = some (pc, .i2d, 1)) (hq : pc + 1 = q) (kk : VV l K d nL mc ms rv X x cells slots M q lc (.double (FP.i2d a) :: st)) : VV l K d nL mc ms rv X x cells slots M pc lc (.int a :: st) := by
  subst hq
  intro o M' ho H locs ls hI hS hl
  exact lv_i2d (cx_x hX) (cx_b hX) (zz_at (cx_d hX) k hk) (kk o M' ho H locs ls hI hS hl)
theorem V_i2f (hX : Cx l K d nL mc ms X cc own ret hh L) {x : Rs α} {cells slots : Nat} {M : Mm} {pc : Nat} {lc : List (Nat × Value)} {st : List Value} {a : Int32} (k q : Nat) (hk : L[k]? = some (pc, .i2f, 1)) (hq : pc + 1 = q) (kk : VV l K d nL mc ms rv X x cells slots M q lc (.float (FP.i2f a) :: st)) : VV l K d nL mc ms rv X x cells slots M pc lc (.int a :: st) := by
  subst hq
  intro o M' ho H locs ls hI hS hl
  exact lv_i2f (cx_x hX) (cx_b hX) (zz_at (cx_d hX) k hk) (kk o M' ho H locs ls hI hS hl)
theorem V_dconst0 (hX : Cx l K d nL mc ms X cc own ret hh L) {x : Rs α} {cells slots : Nat} {M : Mm} {pc : Nat} {lc : List (Nat × Value)} {st : List Value}  (k q : Nat) (hk : L[k]? = some (pc, .dconst 0, 1)) (hq : pc + 1 = q) (kk : VV l K d nL mc ms rv X x cells slots M q lc (.double FP.dconst0 :: st)) : VV l K d nL mc ms rv X x cells slots M pc lc (st) := by
  subst hq
  intro o M' ho H locs ls hI hS hl
  exact lv_dconst0 (cx_x hX) (cx_b hX) (zz_at (cx_d hX) k hk) (kk o M' ho H locs ls hI hS hl)
theorem V_fconst0 (hX : Cx l K d nL mc ms X cc own ret hh L) {x : Rs α} {cells slots : Nat} {M : Mm} {pc : Nat} {lc : List (Nat × Value)} {st : List Value}  (k q : Nat) (hk : L[k]? = some (pc, .fconst 0, 1)) (hq : pc + 1 = q) (kk : VV l K d nL mc ms rv X x cells slots M q lc (.float FP.fconst0 :: st)) : VV l K d nL mc ms rv X x cells slots M pc lc (st) := by
  subst hq
  intro o M' ho H locs ls hI hS hl
  exact lv_fconst0 (cx_x hX) (cx_b hX) (zz_at (cx_d hX) k hk) (kk o M' ho H locs ls hI hS hl)
theorem V_ddiv (hX : Cx l K d nL mc ms X cc own ret hh L) {x : Rs α} {cells slots : Nat} {M : Mm} {pc : Nat} {lc : List (Nat × Value)} {st : List Value} {a b : UInt64} (k q : Nat) (hk : L[k]? = some (pc, .ddiv, 1)) (hq : pc + 1 = q) (hne : vf_n64 (FP.ddiv a b)) (kk : VV l K d nL mc ms rv X x cells slots M q lc (.double (FP.ddiv a b) :: st)) : VV l K d nL mc ms rv X x cells slots M pc lc (.double b :: .double a :: st) := by
  subst hq
  intro o M' ho H locs ls hI hS hl
  exact lv_ddiv (cx_x hX) (cx_b hX) (zz_at (cx_d hX) k hk) hne (kk o M' ho H locs ls hI hS hl)
theorem V_fdiv (hX : Cx l K d nL mc ms X cc own ret hh L) {x : Rs α} {cells slots : Nat} {M : Mm} {pc : Nat} {lc : List (Nat × Value)} {st : List Value} {a b : UInt32} (k q : Nat) (hk : L[k]? = some (pc, .fdiv, 1)) (hq : pc + 1 = q) (hne : vf_n32 (FP.fdiv a b)) (kk : VV l K d nL mc ms rv X x cells slots M q lc (.float (FP.fdiv a b) :: st)) : VV l K d nL mc ms rv X x cells slots M pc lc (.float b :: .float a :: st) := by
  subst hq
  intro o M' ho H locs ls hI hS hl
  exact lv_fdiv (cx_x hX) (cx_b hX) (zz_at (cx_d hX) k hk) hne (kk o M' ho H locs ls hI hS hl)
theorem V_f2d (hX : Cx l K d nL mc ms X cc own ret hh L) {x : Rs α} {cells slots : Nat} {M : Mm} {pc : Nat} {lc : List (Nat × Value)} {st : List Value} {a : UInt32} (k q : Nat) (hk : L[k]? = some (pc, .f2d, 1)) (hq : pc + 1 = q) (hne : vf_n64 (FP.f2d a)) (kk : VV l K d nL mc ms rv X x cells slots M q lc (.double (FP.f2d a) :: st)) : VV l K d nL mc ms rv X x cells slots M pc lc (.float a :: st) := by
  subst hq
  intro o M' ho H locs ls hI hS hl
  exact lv_f2d (cx_x hX) (cx_b hX) (zz_at (cx_d hX) k hk) hne (kk o M' ho H locs ls hI hS hl)
theorem V_dcmp (hX : Cx l K d nL mc ms X cc own ret hh L) {x : Rs α} {cells slots : Nat} {M : Mm} {pc : Nat} {lc : List (Nat × Value)} {st : List Value} {a b : UInt64} {op : CmpOp} (k q : Nat) (hk : L[k]? = some (pc, .dcmp op, 1)) (hq : pc + 1 = q) (kk : VV l K d nL mc ms rv X x cells slots M q lc (.int (Op.cmpValue (FP.dcmp a b) op) :: st)) : VV l K d nL mc ms rv X x cells slots M pc lc (.double b :: .double a :: st) := by
  subst hq
  intro o M' ho H locs ls hI hS hl
  exact lv_dcmp (cx_x hX) (cx_b hX) (zz_at (cx_d hX) k hk) (kk o M' ho H locs ls hI hS hl)
theorem V_fcmp (hX : Cx l K d nL mc ms X cc own ret hh L) {x : Rs α} {cells slots : Nat} {M : Mm} {pc : Nat} {lc : List (Nat × Value)} {st : List Value} {a b : UInt32} {op : CmpOp} (k q : Nat) (hk : L[k]? = some (pc, .fcmp op, 1)) (hq : pc + 1 = q) (kk : VV l K d nL mc ms rv X x cells slots M q lc (.int (Op.cmpValue (FP.fcmp a b) op) :: st)) : VV l K d nL mc ms rv X x cells slots M pc lc (.float b :: .float a :: st) := by
  subst hq
  intro o M' ho H locs ls hI hS hl
  exact lv_fcmp (cx_x hX) (cx_b hX) (zz_at (cx_d hX) k hk) (kk o M' ho H locs ls hI hS hl)
theorem V_lcmp (hX : Cx l K d nL mc ms X cc own ret hh L) {x : Rs α} {cells slots : Nat} {M : Mm} {pc : Nat} {lc : List (Nat × Value)} {st : List Value} {a b : Int64} (k q : Nat) (hk : L[k]? = some (pc, .lcmp, 1)) (hq : pc + 1 = q) (kk : VV l K d nL mc ms rv X x cells slots M q lc (.int (lg_cmp a b) :: st)) : VV l K d nL mc ms rv X x cells slots M pc lc (.long b :: .long a :: st) := by
  subst hq
  intro o M' ho H locs ls hI hS hl
  exact W.lcmp (cx_x hX) (cx_b hX) (zz_at (cx_d hX) k hk) (kk o M' ho H locs ls hI hS hl)
theorem V_i2c (hX : Cx l K d nL mc ms X cc own ret hh L) {x : Rs α} {cells slots : Nat} {M : Mm} {pc : Nat} {lc : List (Nat × Value)} {st : List Value} {a : Int32} (k q : Nat) (hk : L[k]? = some (pc, .i2c, 1)) (hq : pc + 1 = q) (kk : VV l K d nL mc ms rv X x cells slots M q lc (.int (a.toUInt32 % 65536).toInt32 :: st)) : VV l K d nL mc ms rv X x cells slots M pc lc (.int a :: st) := by
  subst hq
  intro o M' ho H locs ls hI hS hl
  exact lv_i2c (cx_x hX) (cx_b hX) (zz_at (cx_d hX) k hk) rfl (kk o M' ho H locs ls hI hS hl)
theorem V_idiv (hX : Cx l K d nL mc ms X cc own ret hh L) {x : Rs α} {cells slots : Nat} {M : Mm} {pc : Nat} {lc : List (Nat × Value)} {st : List Value} {a b : Int32} (k q : Nat) (hk : L[k]? = some (pc, .idiv, 1)) (hq : pc + 1 = q) (hne : ¬ b = 0) (kk : VV l K d nL mc ms rv X x cells slots M q lc (.int (a / b) :: st)) : VV l K d nL mc ms rv X x cells slots M pc lc (.int b :: .int a :: st) := by
  subst hq
  intro o M' ho H locs ls hI hS hl
  exact lv_idiv (cx_x hX) (cx_b hX) (zz_at (cx_d hX) k hk) hne (kk o M' ho H locs ls hI hS hl)
theorem V_irem (hX : Cx l K d nL mc ms X cc own ret hh L) {x : Rs α} {cells slots : Nat} {M : Mm} {pc : Nat} {lc : List (Nat × Value)} {st : List Value} {a b : Int32} (k q : Nat) (hk : L[k]? = some (pc, .irem, 1)) (hq : pc + 1 = q) (hne : ¬ b = 0) (kk : VV l K d nL mc ms rv X x cells slots M q lc (.int (a - a / b * b) :: st)) : VV l K d nL mc ms rv X x cells slots M pc lc (.int b :: .int a :: st) := by
  subst hq
  intro o M' ho H locs ls hI hS hl
  exact lv_irem (cx_x hX) (cx_b hX) (zz_at (cx_d hX) k hk) hne (kk o M' ho H locs ls hI hS hl)
theorem V_pop (hX : Cx l K d nL mc ms X cc own ret hh L) {x : Rs α} {cells slots : Nat} {M : Mm} {pc : Nat} {lc : List (Nat × Value)} {st : List Value} {a : Value} (k q : Nat) (hk : L[k]? = some (pc, .pop, 1)) (hq : pc + 1 = q) (hc : a.category = 1) (kk : VV l K d nL mc ms rv X x cells slots M q lc (st)) : VV l K d nL mc ms rv X x cells slots M pc lc (a :: st) := by
  subst hq
  intro o M' ho H locs ls hI hS hl
  exact lv_pop (cx_x hX) (cx_b hX) (zz_at (cx_d hX) k hk) hc (kk o M' ho H locs ls hI hS hl)
theorem V_dup (hX : Cx l K d nL mc ms X cc own ret hh L) {x : Rs α} {cells slots : Nat} {M : Mm} {pc : Nat} {lc : List (Nat × Value)} {st : List Value} {a : Value} (k q : Nat) (hk : L[k]? = some (pc, .dup, 1)) (hq : pc + 1 = q) (hc : a.category = 1) (kk : VV l K d nL mc ms rv X x cells slots M q lc (a :: a :: st)) : VV l K d nL mc ms rv X x cells slots M pc lc (a :: st) := by
  subst hq
  intro o M' ho H locs ls hI hS hl
  exact lv_dup (cx_x hX) (cx_b hX) (zz_at (cx_d hX) k hk) hc (kk o M' ho H locs ls hI hS hl)
theorem V_dup2 (hX : Cx l K d nL mc ms X cc own ret hh L) {x : Rs α} {cells slots : Nat} {M : Mm} {pc : Nat} {lc : List (Nat × Value)} {st : List Value} {a b : Value} (k q : Nat) (hk : L[k]? = some (pc, .dup2, 1)) (hq : pc + 1 = q) (hc : a.category = 1) (hb : b.category = 1) (kk : VV l K d nL mc ms rv X x cells slots M q lc (a :: b :: a :: b :: st)) : VV l K d nL mc ms rv X x cells slots M pc lc (a :: b :: st) := by
  subst hq
  intro o M' ho H locs ls hI hS hl
  exact lv_dup2_11 (cx_x hX) (cx_b hX) (zz_at (cx_d hX) k hk) hc hb (kk o M' ho H locs ls hI hS hl)
theorem V_iload_n (hX : Cx l K d nL mc ms X cc own ret hh L) {x : Rs α} {cells slots : Nat} {M : Mm} {pc : Nat} {lc : List (Nat × Value)} {st : List Value} {i : Fin 4} {v : Int32} (k q : Nat) (hk : L[k]? = some (pc, .iload_n i, 1)) (hq : pc + 1 = q) (j : Nat) (hj : lc[j]? = some ((i : Nat), .int v)) (kk : VV l K d nL mc ms rv X x cells slots M q lc (.int v :: st)) : VV l K d nL mc ms rv X x cells slots M pc lc (st) := by
  subst hq
  intro o M' ho H locs ls hI hS hl
  exact lv_iload_n (cx_x hX) (cx_b hX) (zz_at (cx_d hX) k hk) rfl (lv_at hl j hj) (kk o M' ho H locs ls hI hS hl)
theorem V_iload (hX : Cx l K d nL mc ms X cc own ret hh L) {x : Rs α} {cells slots : Nat} {M : Mm} {pc : Nat} {lc : List (Nat × Value)} {st : List Value} {i : Nat} {v : Int32} (k q : Nat) (hk : L[k]? = some (pc, .iload i, 2)) (hq : pc + 2 = q) (j : Nat) (hj : lc[j]? = some (i, .int v)) (kk : VV l K d nL mc ms rv X x cells slots M q lc (.int v :: st)) : VV l K d nL mc ms rv X x cells slots M pc lc (st) := by
  subst hq
  intro o M' ho H locs ls hI hS hl
  exact lv_iload (cx_x hX) (cx_b hX) (zz_at (cx_d hX) k hk) (lv_at hl j hj) (kk o M' ho H locs ls hI hS hl)
theorem V_aload_n (hX : Cx l K d nL mc ms X cc own ret hh L) {x : Rs α} {cells slots : Nat} {M : Mm} {pc : Nat} {lc : List (Nat × Value)} {st : List Value} {i : Fin 4} {v : Nat} (k q : Nat) (hk : L[k]? = some (pc, .aload_n i, 1)) (hq : pc + 1 = q) (j : Nat) (hj : lc[j]? = some ((i : Nat), .ref v)) (kk : VV l K d nL mc ms rv X x cells slots M q lc (.ref v :: st)) : VV l K d nL mc ms rv X x cells slots M pc lc (st) := by
  subst hq
  intro o M' ho H locs ls hI hS hl
  exact lv_aload_n (cx_x hX) (cx_b hX) (zz_at (cx_d hX) k hk) rfl (lv_at hl j hj) (kk o M' ho H locs ls hI hS hl)
theorem V_aload (hX : Cx l K d nL mc ms X cc own ret hh L) {x : Rs α} {cells slots : Nat} {M : Mm} {pc : Nat} {lc : List (Nat × Value)} {st : List Value} {i : Nat} {v : Nat} (k q : Nat) (hk : L[k]? = some (pc, .aload i, 2)) (hq : pc + 2 = q) (j : Nat) (hj : lc[j]? = some (i, .ref v)) (kk : VV l K d nL mc ms rv X x cells slots M q lc (.ref v :: st)) : VV l K d nL mc ms rv X x cells slots M pc lc (st) := by
  subst hq
  intro o M' ho H locs ls hI hS hl
  exact lv_aload (cx_x hX) (cx_b hX) (zz_at (cx_d hX) k hk) (lv_at hl j hj) (kk o M' ho H locs ls hI hS hl)
theorem V_fload_n (hX : Cx l K d nL mc ms X cc own ret hh L) {x : Rs α} {cells slots : Nat} {M : Mm} {pc : Nat} {lc : List (Nat × Value)} {st : List Value} {i : Fin 4} {v : UInt32} (k q : Nat) (hk : L[k]? = some (pc, .fload_n i, 1)) (hq : pc + 1 = q) (j : Nat) (hj : lc[j]? = some ((i : Nat), .float v)) (kk : VV l K d nL mc ms rv X x cells slots M q lc (.float v :: st)) : VV l K d nL mc ms rv X x cells slots M pc lc (st) := by
  subst hq
  intro o M' ho H locs ls hI hS hl
  exact lv_fload_n (cx_x hX) (cx_b hX) (zz_at (cx_d hX) k hk) rfl (lv_at hl j hj) (kk o M' ho H locs ls hI hS hl)
theorem V_fload (hX : Cx l K d nL mc ms X cc own ret hh L) {x : Rs α} {cells slots : Nat} {M : Mm} {pc : Nat} {lc : List (Nat × Value)} {st : List Value} {i : Nat} {v : UInt32} (k q : Nat) (hk : L[k]? = some (pc, .fload i, 2)) (hq : pc + 2 = q) (j : Nat) (hj : lc[j]? = some (i, .float v)) (kk : VV l K d nL mc ms rv X x cells slots M q lc (.float v :: st)) : VV l K d nL mc ms rv X x cells slots M pc lc (st) := by
  subst hq
  intro o M' ho H locs ls hI hS hl
  exact lv_fload (cx_x hX) (cx_b hX) (zz_at (cx_d hX) k hk) (lv_at hl j hj) (kk o M' ho H locs ls hI hS hl)
theorem V_dload_n (hX : Cx l K d nL mc ms X cc own ret hh L) {x : Rs α} {cells slots : Nat} {M : Mm} {pc : Nat} {lc : List (Nat × Value)} {st : List Value} {i : Fin 4} {v : UInt64} (k q : Nat) (hk : L[k]? = some (pc, .dload_n i, 1)) (hq : pc + 1 = q) (j : Nat) (hj : lc[j]? = some ((i : Nat), .double v)) (kk : VV l K d nL mc ms rv X x cells slots M q lc (.double v :: st)) : VV l K d nL mc ms rv X x cells slots M pc lc (st) := by
  subst hq
  intro o M' ho H locs ls hI hS hl
  exact lv_dload_n (cx_x hX) (cx_b hX) (zz_at (cx_d hX) k hk) rfl (lv_at hl j hj) (kk o M' ho H locs ls hI hS hl)
theorem V_dload (hX : Cx l K d nL mc ms X cc own ret hh L) {x : Rs α} {cells slots : Nat} {M : Mm} {pc : Nat} {lc : List (Nat × Value)} {st : List Value} {i : Nat} {v : UInt64} (k q : Nat) (hk : L[k]? = some (pc, .dload i, 2)) (hq : pc + 2 = q) (j : Nat) (hj : lc[j]? = some (i, .double v)) (kk : VV l K d nL mc ms rv X x cells slots M q lc (.double v :: st)) : VV l K d nL mc ms rv X x cells slots M pc lc (st) := by
  subst hq
  intro o M' ho H locs ls hI hS hl
  exact lv_dload (cx_x hX) (cx_b hX) (zz_at (cx_d hX) k hk) (lv_at hl j hj) (kk o M' ho H locs ls hI hS hl)
theorem V_istore_n (hX : Cx l K d nL mc ms X cc own ret hh L) {x : Rs α} {cells slots : Nat} {M : Mm} {pc : Nat} {lc : List (Nat × Value)} {st : List Value} {i : Fin 4} {v : Int32} (k q : Nat) (lv : List (Nat × Value)) (hk : L[k]? = some (pc, .istore_n i, 1)) (hq : pc + 1 = q) (hn : (i : Nat) < nL) (hv : ((i : Nat), Value.int v) :: lc.filter (fun q => !(q.1 == (i : Nat)) && !(q.1 + 1 == (i : Nat) && q.2.category == 2)) = lv) (kk : VV l K d nL mc ms rv X x cells slots M q lv st) : VV l K d nL mc ms rv X x cells slots M pc lc (.int v :: st) := by
  subst hq
  intro o M' ho H locs ls hI hS hl
  exact lv_istore_n (lv' := lv) (cx_x hX) (cx_b hX) (zz_at (cx_d hX) k hk) rfl hl hn hv (fun ls9 hl9 => kk o M' ho H locs ls9 hI hS hl9)
theorem V_istore (hX : Cx l K d nL mc ms X cc own ret hh L) {x : Rs α} {cells slots : Nat} {M : Mm} {pc : Nat} {lc : List (Nat × Value)} {st : List Value} {i : Nat} {v : Int32} (k q : Nat) (lv : List (Nat × Value)) (hk : L[k]? = some (pc, .istore i, 2)) (hq : pc + 2 = q) (hn : i < nL) (hv : (i, Value.int v) :: lc.filter (fun q => !(q.1 == i) && !(q.1 + 1 == i && q.2.category == 2)) = lv) (kk : VV l K d nL mc ms rv X x cells slots M q lv st) : VV l K d nL mc ms rv X x cells slots M pc lc (.int v :: st) := by
  subst hq
  intro o M' ho H locs ls hI hS hl
  exact lv_istore (lv' := lv) (cx_x hX) (cx_b hX) (zz_at (cx_d hX) k hk)  hl hn hv (fun ls9 hl9 => kk o M' ho H locs ls9 hI hS hl9)
theorem V_astore_n (hX : Cx l K d nL mc ms X cc own ret hh L) {x : Rs α} {cells slots : Nat} {M : Mm} {pc : Nat} {lc : List (Nat × Value)} {st : List Value} {i : Fin 4} {v : Nat} (k q : Nat) (lv : List (Nat × Value)) (hk : L[k]? = some (pc, .astore_n i, 1)) (hq : pc + 1 = q) (hn : (i : Nat) < nL) (hv : ((i : Nat), Value.ref v) :: lc.filter (fun q => !(q.1 == (i : Nat)) && !(q.1 + 1 == (i : Nat) && q.2.category == 2)) = lv) (kk : VV l K d nL mc ms rv X x cells slots M q lv st) : VV l K d nL mc ms rv X x cells slots M pc lc (.ref v :: st) := by
  subst hq
  intro o M' ho H locs ls hI hS hl
  exact lv_astore_n (lv' := lv) (cx_x hX) (cx_b hX) (zz_at (cx_d hX) k hk) rfl hl hn hv (fun ls9 hl9 => kk o M' ho H locs ls9 hI hS hl9)
theorem V_astore (hX : Cx l K d nL mc ms X cc own ret hh L) {x : Rs α} {cells slots : Nat} {M : Mm} {pc : Nat} {lc : List (Nat × Value)} {st : List Value} {i : Nat} {v : Nat} (k q : Nat) (lv : List (Nat × Value)) (hk : L[k]? = some (pc, .astore i, 2)) (hq : pc + 2 = q) (hn : i < nL) (hv : (i, Value.ref v) :: lc.filter (fun q => !(q.1 == i) && !(q.1 + 1 == i && q.2.category == 2)) = lv) (kk : VV l K d nL mc ms rv X x cells slots M q lv st) : VV l K d nL mc ms rv X x cells slots M pc lc (.ref v :: st) := by
  subst hq
  intro o M' ho H locs ls hI hS hl
  exact lv_astore (lv' := lv) (cx_x hX) (cx_b hX) (zz_at (cx_d hX) k hk)  hl hn hv (fun ls9 hl9 => kk o M' ho H locs ls9 hI hS hl9)
theorem V_fstore_n (hX : Cx l K d nL mc ms X cc own ret hh L) {x : Rs α} {cells slots : Nat} {M : Mm} {pc : Nat} {lc : List (Nat × Value)} {st : List Value} {i : Fin 4} {v : UInt32} (k q : Nat) (lv : List (Nat × Value)) (hk : L[k]? = some (pc, .fstore_n i, 1)) (hq : pc + 1 = q) (hn : (i : Nat) < nL) (hv : ((i : Nat), Value.float v) :: lc.filter (fun q => !(q.1 == (i : Nat)) && !(q.1 + 1 == (i : Nat) && q.2.category == 2)) = lv) (kk : VV l K d nL mc ms rv X x cells slots M q lv st) : VV l K d nL mc ms rv X x cells slots M pc lc (.float v :: st) := by
  subst hq
  intro o M' ho H locs ls hI hS hl
  exact lv_fstore_n (lv' := lv) (cx_x hX) (cx_b hX) (zz_at (cx_d hX) k hk) rfl hl hn hv (fun ls9 hl9 => kk o M' ho H locs ls9 hI hS hl9)
theorem V_fstore (hX : Cx l K d nL mc ms X cc own ret hh L) {x : Rs α} {cells slots : Nat} {M : Mm} {pc : Nat} {lc : List (Nat × Value)} {st : List Value} {i : Nat} {v : UInt32} (k q : Nat) (lv : List (Nat × Value)) (hk : L[k]? = some (pc, .fstore i, 2)) (hq : pc + 2 = q) (hn : i < nL) (hv : (i, Value.float v) :: lc.filter (fun q => !(q.1 == i) && !(q.1 + 1 == i && q.2.category == 2)) = lv) (kk : VV l K d nL mc ms rv X x cells slots M q lv st) : VV l K d nL mc ms rv X x cells slots M pc lc (.float v :: st) := by
  subst hq
  intro o M' ho H locs ls hI hS hl
  exact lv_fstore (lv' := lv) (cx_x hX) (cx_b hX) (zz_at (cx_d hX) k hk)  hl hn hv (fun ls9 hl9 => kk o M' ho H locs ls9 hI hS hl9)
theorem V_dstore_n (hX : Cx l K d nL mc ms X cc own ret hh L) {x : Rs α} {cells slots : Nat} {M : Mm} {pc : Nat} {lc : List (Nat × Value)} {st : List Value} {i : Fin 4} {v : UInt64} (k q : Nat) (lv : List (Nat × Value)) (hk : L[k]? = some (pc, .dstore_n i, 1)) (hq : pc + 1 = q) (hn : (i : Nat) + 1 < nL) (hv : ((i : Nat), Value.double v) :: lc.filter (fun q => !(q.1 == (i : Nat)) && (!(q.1 == (i : Nat) + 1) && !(q.1 + 1 == (i : Nat) && q.2.category == 2))) = lv) (kk : VV l K d nL mc ms rv X x cells slots M q lv st) : VV l K d nL mc ms rv X x cells slots M pc lc (.double v :: st) := by
  subst hq
  intro o M' ho H locs ls hI hS hl
  exact lv_dstore_n (lv' := lv) (cx_x hX) (cx_b hX) (zz_at (cx_d hX) k hk) rfl hl hn hv (fun ls9 hl9 => kk o M' ho H locs ls9 hI hS hl9)
theorem V_dstore (hX : Cx l K d nL mc ms X cc own ret hh L) {x : Rs α} {cells slots : Nat} {M : Mm} {pc : Nat} {lc : List (Nat × Value)} {st : List Value} {i : Nat} {v : UInt64} (k q : Nat) (lv : List (Nat × Value)) (hk : L[k]? = some (pc, .dstore i, 2)) (hq : pc + 2 = q) (hn : i + 1 < nL) (hv : (i, Value.double v) :: lc.filter (fun q => !(q.1 == i) && (!(q.1 == i + 1) && !(q.1 + 1 == i && q.2.category == 2))) = lv) (kk : VV l K d nL mc ms rv X x cells slots M q lv st) : VV l K d nL mc ms rv X x cells slots M pc lc (.double v :: st) := by
  subst hq
  intro o M' ho H locs ls hI hS hl
  exact lv_dstore (lv' := lv) (cx_x hX) (cx_b hX) (zz_at (cx_d hX) k hk)  hl hn hv (fun ls9 hl9 => kk o M' ho H locs ls9 hI hS hl9)
theorem V_iinc (hX : Cx l K d nL mc ms X cc own ret hh L) {x : Rs α} {cells slots : Nat} {M : Mm} {pc : Nat} {lc : List (Nat × Value)} {st : List Value} {i : Nat} {n : Int} {v : Int32} (k q j : Nat) (w : Int32) (lv : List (Nat × Value)) (hk : L[k]? = some (pc, .iinc i n, 3)) (hq : pc + 3 = q) (hj : lc[j]? = some (i, .int v)) (hw : v + Int32.ofInt n = w) (hn : i < nL) (hv : (i, Value.int w) :: lc.filter (fun q => !(q.1 == i) && !(q.1 + 1 == i && q.2.category == 2)) = lv) (kk : VV l K d nL mc ms rv X x cells slots M q lv st) : VV l K d nL mc ms rv X x cells slots M pc lc st := by
  subst hq
  intro o M' ho H locs ls hI hS hl
  exact lv_iinc (lv' := lv) (cx_x hX) (cx_b hX) (zz_at (cx_d hX) k hk) hl hj hw hn hv (fun ls9 hl9 => kk o M' ho H locs ls9 hI hS hl9)
theorem V_goto (hX : Cx l K d nL mc ms X cc own ret hh L) {x : Rs α} {cells slots : Nat} {M : Mm} {pc : Nat} {lc : List (Nat × Value)} {st : List Value} {off : Int} (k q : Nat) (hk : L[k]? = some (pc, .goto off, 3)) (hq : (pc : Int) + off = (q : Int)) (kk : VV l K d nL mc ms rv X x cells slots M q lc st) : VV l K d nL mc ms rv X x cells slots M pc lc st := by
  intro o M' ho H locs ls hI hS hl
  exact lv_goto (cx_x hX) (cx_b hX) (zz_at (cx_d hX) k hk) hq (kk o M' ho H locs ls hI hS hl)
theorem V_if_eq (hX : Cx l K d nL mc ms X cc own ret hh L) {t f : Rs α} {cells slots : Nat} {M : Mm} {pc : Nat} {lc : List (Nat × Value)} {st : List Value} {off : Int} {a : Int32} {dc : Decidable (a = 0)} (k q tgt : Nat) (hk : L[k]? = some (pc, .ifCond .eq off, 3)) (hq : pc + 3 = q) (ht : (pc : Int) + off = (tgt : Int)) (kt : a = 0 → VV l K d nL mc ms rv X t cells slots M tgt lc st) (kf : ¬ (a = 0) → VV l K d nL mc ms rv X f cells slots M q lc st) : VV l K d nL mc ms rv X (@ite _ (a = 0) dc t f) cells slots M pc lc (.int a :: st) := by
  subst hq
  intro o M' ho H locs ls hI hS hl
  refine lv_if_eq (cx_x hX) (cx_b hX) (zz_at (cx_d hX) k hk) ht (fun c9 => kt c9 o M' ?_ H locs ls hI hS hl) (fun c9 => kf c9 o M' ?_ H locs ls hI hS hl)
  · rw [if_pos c9] at ho; exact ho
  · rw [if_neg c9] at ho; exact ho
theorem V_if_lt (hX : Cx l K d nL mc ms X cc own ret hh L) {t f : Rs α} {cells slots : Nat} {M : Mm} {pc : Nat} {lc : List (Nat × Value)} {st : List Value} {off : Int} {a : Int32} {dc : Decidable (a < 0)} (k q tgt : Nat) (hk : L[k]? = some (pc, .ifCond .lt off, 3)) (hq : pc + 3 = q) (ht : (pc : Int) + off = (tgt : Int)) (kt : a < 0 → VV l K d nL mc ms rv X t cells slots M tgt lc st) (kf : ¬ (a < 0) → VV l K d nL mc ms rv X f cells slots M q lc st) : VV l K d nL mc ms rv X (@ite _ (a < 0) dc t f) cells slots M pc lc (.int a :: st) := by
  subst hq
  intro o M' ho H locs ls hI hS hl
  refine lv_if_lt (cx_x hX) (cx_b hX) (zz_at (cx_d hX) k hk) ht (fun c9 => kt c9 o M' ?_ H locs ls hI hS hl) (fun c9 => kf c9 o M' ?_ H locs ls hI hS hl)
  · rw [if_pos c9] at ho; exact ho
  · rw [if_neg c9] at ho; exact ho
theorem V_if_ge (hX : Cx l K d nL mc ms X cc own ret hh L) {t f : Rs α} {cells slots : Nat} {M : Mm} {pc : Nat} {lc : List (Nat × Value)} {st : List Value} {off : Int} {a : Int32} {dc : Decidable (0 ≤ a)} (k q tgt : Nat) (hk : L[k]? = some (pc, .ifCond .ge off, 3)) (hq : pc + 3 = q) (ht : (pc : Int) + off = (tgt : Int)) (kt : 0 ≤ a → VV l K d nL mc ms rv X t cells slots M tgt lc st) (kf : ¬ (0 ≤ a) → VV l K d nL mc ms rv X f cells slots M q lc st) : VV l K d nL mc ms rv X (@ite _ (0 ≤ a) dc t f) cells slots M pc lc (.int a :: st) := by
  subst hq
  intro o M' ho H locs ls hI hS hl
  refine lv_if_ge (cx_x hX) (cx_b hX) (zz_at (cx_d hX) k hk) ht (fun c9 => kt c9 o M' ?_ H locs ls hI hS hl) (fun c9 => kf c9 o M' ?_ H locs ls hI hS hl)
  · rw [if_pos c9] at ho; exact ho
  · rw [if_neg c9] at ho; exact ho
theorem V_if_gt (hX : Cx l K d nL mc ms X cc own ret hh L) {t f : Rs α} {cells slots : Nat} {M : Mm} {pc : Nat} {lc : List (Nat × Value)} {st : List Value} {off : Int} {a : Int32} {dc : Decidable (0 < a)} (k q tgt : Nat) (hk : L[k]? = some (pc, .ifCond .gt off, 3)) (hq : pc + 3 = q) (ht : (pc : Int) + off = (tgt : Int)) (kt : 0 < a → VV l K d nL mc ms rv X t cells slots M tgt lc st) (kf : ¬ (0 < a) → VV l K d nL mc ms rv X f cells slots M q lc st) : VV l K d nL mc ms rv X (@ite _ (0 < a) dc t f) cells slots M pc lc (.int a :: st) := by
  subst hq
  intro o M' ho H locs ls hI hS hl
  refine lv_if_gt (cx_x hX) (cx_b hX) (zz_at (cx_d hX) k hk) ht (fun c9 => kt c9 o M' ?_ H locs ls hI hS hl) (fun c9 => kf c9 o M' ?_ H locs ls hI hS hl)
  · rw [if_pos c9] at ho; exact ho
  · rw [if_neg c9] at ho; exact ho
theorem V_if_le (hX : Cx l K d nL mc ms X cc own ret hh L) {t f : Rs α} {cells slots : Nat} {M : Mm} {pc : Nat} {lc : List (Nat × Value)} {st : List Value} {off : Int} {a : Int32} {dc : Decidable (a ≤ 0)} (k q tgt : Nat) (hk : L[k]? = some (pc, .ifCond .le off, 3)) (hq : pc + 3 = q) (ht : (pc : Int) + off = (tgt : Int)) (kt : a ≤ 0 → VV l K d nL mc ms rv X t cells slots M tgt lc st) (kf : ¬ (a ≤ 0) → VV l K d nL mc ms rv X f cells slots M q lc st) : VV l K d nL mc ms rv X (@ite _ (a ≤ 0) dc t f) cells slots M pc lc (.int a :: st) := by
  subst hq
  intro o M' ho H locs ls hI hS hl
  refine lv_if_le (cx_x hX) (cx_b hX) (zz_at (cx_d hX) k hk) ht (fun c9 => kt c9 o M' ?_ H locs ls hI hS hl) (fun c9 => kf c9 o M' ?_ H locs ls hI hS hl)
  · rw [if_pos c9] at ho; exact ho
  · rw [if_neg c9] at ho; exact ho
theorem V_if_ne (hX : Cx l K d nL mc ms X cc own ret hh L) {t f : Rs α} {cells slots : Nat} {M : Mm} {pc : Nat} {lc : List (Nat × Value)} {st : List Value} {off : Int} {a : Int32} {dc : Decidable (a = 0)} (k q tgt : Nat) (hk : L[k]? = some (pc, .ifCond .ne off, 3)) (hq : pc + 3 = q) (ht : (pc : Int) + off = (tgt : Int)) (kt : ¬ (a = 0) → VV l K d nL mc ms rv X t cells slots M tgt lc st) (kf : a = 0 → VV l K d nL mc ms rv X f cells slots M q lc st) : VV l K d nL mc ms rv X (@ite _ (a = 0) dc f t) cells slots M pc lc (.int a :: st) := by
  subst hq
  intro o M' ho H locs ls hI hS hl
  refine lv_if_ne (cx_x hX) (cx_b hX) (zz_at (cx_d hX) k hk) ht (fun c9 => kt c9 o M' ?_ H locs ls hI hS hl) (fun c9 => kf c9 o M' ?_ H locs ls hI hS hl)
  · rw [if_neg c9] at ho; exact ho
  · rw [if_pos c9] at ho; exact ho
theorem V_icmp_eq (hX : Cx l K d nL mc ms X cc own ret hh L) {t f : Rs α} {cells slots : Nat} {M : Mm} {pc : Nat} {lc : List (Nat × Value)} {st : List Value} {off : Int} {a b : Int32} {dc : Decidable (a = b)} (k q tgt : Nat) (hk : L[k]? = some (pc, .if_icmp .eq off, 3)) (hq : pc + 3 = q) (ht : (pc : Int) + off = (tgt : Int)) (kt : a = b → VV l K d nL mc ms rv X t cells slots M tgt lc st) (kf : ¬ (a = b) → VV l K d nL mc ms rv X f cells slots M q lc st) : VV l K d nL mc ms rv X (@ite _ (a = b) dc t f) cells slots M pc lc (.int b :: .int a :: st) := by
  subst hq
  intro o M' ho H locs ls hI hS hl
  refine lv_icmp_eq (cx_x hX) (cx_b hX) (zz_at (cx_d hX) k hk) ht (fun c9 => kt c9 o M' ?_ H locs ls hI hS hl) (fun c9 => kf c9 o M' ?_ H locs ls hI hS hl)
  · rw [if_pos c9] at ho; exact ho
  · rw [if_neg c9] at ho; exact ho
theorem V_icmp_lt (hX : Cx l K d nL mc ms X cc own ret hh L) {t f : Rs α} {cells slots : Nat} {M : Mm} {pc : Nat} {lc : List (Nat × Value)} {st : List Value} {off : Int} {a b : Int32} {dc : Decidable (a < b)} (k q tgt : Nat) (hk : L[k]? = some (pc, .if_icmp .lt off, 3)) (hq : pc + 3 = q) (ht : (pc : Int) + off = (tgt : Int)) (kt : a < b → VV l K d nL mc ms rv X t cells slots M tgt lc st) (kf : ¬ (a < b) → VV l K d nL mc ms rv X f cells slots M q lc st) : VV l K d nL mc ms rv X (@ite _ (a < b) dc t f) cells slots M pc lc (.int b :: .int a :: st) := by
  subst hq
  intro o M' ho H locs ls hI hS hl
  refine lv_icmp_lt (cx_x hX) (cx_b hX) (zz_at (cx_d hX) k hk) ht (fun c9 => kt c9 o M' ?_ H locs ls hI hS hl) (fun c9 => kf c9 o M' ?_ H locs ls hI hS hl)
  · rw [if_pos c9] at ho; exact ho
  · rw [if_neg c9] at ho; exact ho
theorem V_icmp_ge (hX : Cx l K d nL mc ms X cc own ret hh L) {t f : Rs α} {cells slots : Nat} {M : Mm} {pc : Nat} {lc : List (Nat × Value)} {st : List Value} {off : Int} {a b : Int32} {dc : Decidable (b ≤ a)} (k q tgt : Nat) (hk : L[k]? = some (pc, .if_icmp .ge off, 3)) (hq : pc + 3 = q) (ht : (pc : Int) + off = (tgt : Int)) (kt : b ≤ a → VV l K d nL mc ms rv X t cells slots M tgt lc st) (kf : ¬ (b ≤ a) → VV l K d nL mc ms rv X f cells slots M q lc st) : VV l K d nL mc ms rv X (@ite _ (b ≤ a) dc t f) cells slots M pc lc (.int b :: .int a :: st) := by
  subst hq
  intro o M' ho H locs ls hI hS hl
  refine lv_icmp_ge (cx_x hX) (cx_b hX) (zz_at (cx_d hX) k hk) ht (fun c9 => kt c9 o M' ?_ H locs ls hI hS hl) (fun c9 => kf c9 o M' ?_ H locs ls hI hS hl)
  · rw [if_pos c9] at ho; exact ho
  · rw [if_neg c9] at ho; exact ho
theorem V_icmp_gt (hX : Cx l K d nL mc ms X cc own ret hh L) {t f : Rs α} {cells slots : Nat} {M : Mm} {pc : Nat} {lc : List (Nat × Value)} {st : List Value} {off : Int} {a b : Int32} {dc : Decidable (b < a)} (k q tgt : Nat) (hk : L[k]? = some (pc, .if_icmp .gt off, 3)) (hq : pc + 3 = q) (ht : (pc : Int) + off = (tgt : Int)) (kt : b < a → VV l K d nL mc ms rv X t cells slots M tgt lc st) (kf : ¬ (b < a) → VV l K d nL mc ms rv X f cells slots M q lc st) : VV l K d nL mc ms rv X (@ite _ (b < a) dc t f) cells slots M pc lc (.int b :: .int a :: st) := by
  subst hq
  intro o M' ho H locs ls hI hS hl
  refine lv_icmp_gt (cx_x hX) (cx_b hX) (zz_at (cx_d hX) k hk) ht (fun c9 => kt c9 o M' ?_ H locs ls hI hS hl) (fun c9 => kf c9 o M' ?_ H locs ls hI hS hl)
  · rw [if_pos c9] at ho; exact ho
  · rw [if_neg c9] at ho; exact ho
theorem V_icmp_le (hX : Cx l K d nL mc ms X cc own ret hh L) {t f : Rs α} {cells slots : Nat} {M : Mm} {pc : Nat} {lc : List (Nat × Value)} {st : List Value} {off : Int} {a b : Int32} {dc : Decidable (a ≤ b)} (k q tgt : Nat) (hk : L[k]? = some (pc, .if_icmp .le off, 3)) (hq : pc + 3 = q) (ht : (pc : Int) + off = (tgt : Int)) (kt : a ≤ b → VV l K d nL mc ms rv X t cells slots M tgt lc st) (kf : ¬ (a ≤ b) → VV l K d nL mc ms rv X f cells slots M q lc st) : VV l K d nL mc ms rv X (@ite _ (a ≤ b) dc t f) cells slots M pc lc (.int b :: .int a :: st) := by
  subst hq
  intro o M' ho H locs ls hI hS hl
  refine lv_icmp_le (cx_x hX) (cx_b hX) (zz_at (cx_d hX) k hk) ht (fun c9 => kt c9 o M' ?_ H locs ls hI hS hl) (fun c9 => kf c9 o M' ?_ H locs ls hI hS hl)
  · rw [if_pos c9] at ho; exact ho
  · rw [if_neg c9] at ho; exact ho
theorem V_icmp_ne (hX : Cx l K d nL mc ms X cc own ret hh L) {t f : Rs α} {cells slots : Nat} {M : Mm} {pc : Nat} {lc : List (Nat × Value)} {st : List Value} {off : Int} {a b : Int32} {dc : Decidable (a = b)} (k q tgt : Nat) (hk : L[k]? = some (pc, .if_icmp .ne off, 3)) (hq : pc + 3 = q) (ht : (pc : Int) + off = (tgt : Int)) (kt : ¬ (a = b) → VV l K d nL mc ms rv X t cells slots M tgt lc st) (kf : a = b → VV l K d nL mc ms rv X f cells slots M q lc st) : VV l K d nL mc ms rv X (@ite _ (a = b) dc f t) cells slots M pc lc (.int b :: .int a :: st) := by
  subst hq
  intro o M' ho H locs ls hI hS hl
  refine lv_icmp_ne (cx_x hX) (cx_b hX) (zz_at (cx_d hX) k hk) ht (fun c9 => kt c9 o M' ?_ H locs ls hI hS hl) (fun c9 => kf c9 o M' ?_ H locs ls hI hS hl)
  · rw [if_neg c9] at ho; exact ho
  · rw [if_pos c9] at ho; exact ho
end CORE
