-- names: classes, fields (in the order of the slots), types
def RX12 : String := "SeriesArchive"
def TX12 : u_T := fun k => match k with
  | 0 => ("SeriesArchive", "state", "LSeriesArchive$State;", true)
  | 1 => ("SeriesArchive", "history", "LSeriesArchive$History;", true)
  | 2 => ("SeriesArchive", "saved", "[I", true)
  | 3 => ("SeriesArchive", "hasSaved", "Z", false)
  | 4 => ("SeriesArchive", "beforeRun", "[I", true)
  | 5 => ("SeriesArchive", "input", "LSeriesArchive$Input;", true)
  | 6 => ("SeriesArchive", "storedErrorPosition", "I", false)
  | 7 => ("SeriesArchive", "storedFailedCommand", "I", false)
  | 8 => ("SeriesArchive", "line", "Ljava/lang/StringBuilder;", true)
  | 9 => ("SeriesArchive", "ranges", "LSeriesArchive$Ranges;", true)
  | 10 => ("SeriesArchive", "patterns", "LSeriesArchive$Patterns;", true)
  | 11 => ("SeriesArchive", "divisions", "LSeriesArchive$Divisions;", true)
  | _ => ("SeriesArchive", "walks", "LSeriesArchive$Walks;", true)
def tyX12 : Nat → FieldType := fun k => match k with
  | 0 => .object "SeriesArchive$State"
  | 1 => .object "SeriesArchive$History"
  | 2 => .array .int
  | 3 => .boolean
  | 4 => .array .int
  | 5 => .object "SeriesArchive$Input"
  | 6 => .int
  | 7 => .int
  | 8 => .object "java/lang/StringBuilder"
  | 9 => .object "SeriesArchive$Ranges"
  | 10 => .object "SeriesArchive$Patterns"
  | 11 => .object "SeriesArchive$Divisions"
  | _ => .object "SeriesArchive$Walks"
theorem nmX12 : ∀ a, a < 13 → ∀ b, b < 13 → a ≠ b → (TX12 a).2.1 ≠ (TX12 b).2.1 := by decide +kernel
theorem tyX12_ok : ∀ k, k < 13 → parseFieldDescriptor (TX12 k).2.2.1 = some (tyX12 k) := by decide +kernel
def RX10 : String := "SeriesArchive$State"
def TX10 : u_T := fun k => match k with
  | 0 => ("SeriesArchive$State", "inSlot0", "LSeriesArchive$Series;", true)
  | 1 => ("SeriesArchive$State", "inSlot1", "LSeriesArchive$Series;", true)
  | 2 => ("SeriesArchive$State", "inSlot2", "LSeriesArchive$Series;", true)
  | 3 => ("SeriesArchive$State", "inSlot3", "LSeriesArchive$Series;", true)
  | 4 => ("SeriesArchive$State", "old", "LSeriesArchive$Series;", true)
  | _ => ("SeriesArchive$State", "appended", "I", false)
def tyX10 : Nat → FieldType := fun k => match k with
  | 0 => .object "SeriesArchive$Series"
  | 1 => .object "SeriesArchive$Series"
  | 2 => .object "SeriesArchive$Series"
  | 3 => .object "SeriesArchive$Series"
  | 4 => .object "SeriesArchive$Series"
  | _ => .int
theorem nmX10 : ∀ a, a < 6 → ∀ b, b < 6 → a ≠ b → (TX10 a).2.1 ≠ (TX10 b).2.1 := by decide +kernel
theorem tyX10_ok : ∀ k, k < 6 → parseFieldDescriptor (TX10 k).2.2.1 = some (tyX10 k) := by decide +kernel
def RX9 : String := "SeriesArchive$Series"
def TX9 : u_T := fun k => match k with
  | 0 => ("SeriesArchive$Series", "values", "[I", true)
  | _ => ("SeriesArchive$Series", "count", "I", false)
def tyX9 : Nat → FieldType := fun k => match k with
  | 0 => .array .int
  | _ => .int
theorem nmX9 : ∀ a, a < 2 → ∀ b, b < 2 → a ≠ b → (TX9 a).2.1 ≠ (TX9 b).2.1 := by decide +kernel
theorem tyX9_ok : ∀ k, k < 2 → parseFieldDescriptor (TX9 k).2.2.1 = some (tyX9 k) := by decide +kernel
def RX3 : String := "SeriesArchive$History"
def TX3 : u_T := fun k => match k with
  | 0 => ("SeriesArchive$History", "rows", "[I", true)
  | 1 => ("SeriesArchive$History", "next", "I", false)
  | _ => ("SeriesArchive$History", "count", "I", false)
def tyX3 : Nat → FieldType := fun k => match k with
  | 0 => .array .int
  | 1 => .int
  | _ => .int
theorem nmX3 : ∀ a, a < 3 → ∀ b, b < 3 → a ≠ b → (TX3 a).2.1 ≠ (TX3 b).2.1 := by decide +kernel
theorem tyX3_ok : ∀ k, k < 3 → parseFieldDescriptor (TX3 k).2.2.1 = some (tyX3 k) := by decide +kernel
def RX4 : String := "SeriesArchive$Input"
def TX4 : u_T := fun k => match k with
  | 0 => ("SeriesArchive$Input", "text", "[C", true)
  | 1 => ("SeriesArchive$Input", "count", "I", false)
  | 2 => ("SeriesArchive$Input", "arguments", "[I", true)
  | 3 => ("SeriesArchive$Input", "argumentCount", "I", false)
  | 4 => ("SeriesArchive$Input", "kind", "LSeriesArchive$Kind;", false)
  | _ => ("SeriesArchive$Input", "furthest", "I", false)
def tyX4 : Nat → FieldType := fun k => match k with
  | 0 => .array .char
  | 1 => .int
  | 2 => .array .int
  | 3 => .int
  | 4 => .object "SeriesArchive$Kind"
  | _ => .int
theorem nmX4 : ∀ a, a < 6 → ∀ b, b < 6 → a ≠ b → (TX4 a).2.1 ≠ (TX4 b).2.1 := by decide +kernel
theorem tyX4_ok : ∀ k, k < 6 → parseFieldDescriptor (TX4 k).2.2.1 = some (tyX4 k) := by decide +kernel
def RX8 : String := "SeriesArchive$Ranges"
def TX8 : u_T := fun k => match k with
  | 0 => ("SeriesArchive$Ranges", "tree", "[I", true)
  | 1 => ("SeriesArchive$Ranges", "candidates", "[I", true)
  | 2 => ("SeriesArchive$Ranges", "sorted", "[I", true)
  | _ => ("SeriesArchive$Ranges", "spare", "[I", true)
def tyX8 : Nat → FieldType := fun k => match k with
  | 0 => .array .int
  | 1 => .array .int
  | 2 => .array .int
  | _ => .array .int
theorem nmX8 : ∀ a, a < 4 → ∀ b, b < 4 → a ≠ b → (TX8 a).2.1 ≠ (TX8 b).2.1 := by decide +kernel
theorem tyX8_ok : ∀ k, k < 4 → parseFieldDescriptor (TX8 k).2.2.1 = some (tyX8 k) := by decide +kernel
def RX6 : String := "SeriesArchive$Patterns"
def TX6 : u_T := fun k => match k with
  | _ => ("SeriesArchive$Patterns", "borders", "[I", true)
def tyX6 : Nat → FieldType := fun k => match k with
  | _ => .array .int
theorem nmX6 : ∀ a, a < 1 → ∀ b, b < 1 → a ≠ b → (TX6 a).2.1 ≠ (TX6 b).2.1 := by decide +kernel
theorem tyX6_ok : ∀ k, k < 1 → parseFieldDescriptor (TX6 k).2.2.1 = some (tyX6 k) := by decide +kernel
def RX1 : String := "SeriesArchive$Divisions"
def TX1 : u_T := fun k => match k with
  | _ => ("SeriesArchive$Divisions", "errors", "[I", true)
def tyX1 : Nat → FieldType := fun k => match k with
  | _ => .array .int
theorem nmX1 : ∀ a, a < 1 → ∀ b, b < 1 → a ≠ b → (TX1 a).2.1 ≠ (TX1 b).2.1 := by decide +kernel
theorem tyX1_ok : ∀ k, k < 1 → parseFieldDescriptor (TX1 k).2.2.1 = some (tyX1 k) := by decide +kernel
def RX11 : String := "SeriesArchive$Walks"
def TX11 : u_T := fun k => match k with
  | _ => ("SeriesArchive$Walks", "costs", "[I", true)
def tyX11 : Nat → FieldType := fun k => match k with
  | _ => .array .int
theorem nmX11 : ∀ a, a < 1 → ∀ b, b < 1 → a ≠ b → (TX11 a).2.1 ≠ (TX11 b).2.1 := by decide +kernel
theorem tyX11_ok : ∀ k, k < 1 → parseFieldDescriptor (TX11 k).2.2.1 = some (tyX11 k) := by decide +kernel
def RX13 : String := "SeriesArchiveModel"
def TX13 : u_T := fun k => match k with
  | 0 => ("SeriesArchiveModel", "now", "[I", true)
  | 1 => ("SeriesArchiveModel", "before", "[I", true)
  | 2 => ("SeriesArchiveModel", "saved", "[I", true)
  | 3 => ("SeriesArchiveModel", "history", "[I", true)
  | 4 => ("SeriesArchiveModel", "least", "[I", true)
  | 5 => ("SeriesArchiveModel", "row", "[I", true)
  | 6 => ("SeriesArchiveModel", "thrown", "I", false)
  | 7 => ("SeriesArchiveModel", "depth", "I", false)
  | 8 => ("SeriesArchiveModel", "wrongAt", "I", false)
  | 9 => ("SeriesArchiveModel", "failedAt", "I", false)
  | 10 => ("SeriesArchiveModel", "isSaved", "Z", false)
  | 11 => ("SeriesArchiveModel", "line", "[I", true)
  | 12 => ("SeriesArchiveModel", "lineLength", "I", false)
  | 13 => ("SeriesArchiveModel", "input", "[I", true)
  | 14 => ("SeriesArchiveModel", "kinds", "[I", true)
  | 15 => ("SeriesArchiveModel", "firsts", "[I", true)
  | 16 => ("SeriesArchiveModel", "seconds", "[I", true)
  | 17 => ("SeriesArchiveModel", "thirds", "[I", true)
  | 18 => ("SeriesArchiveModel", "length", "I", false)
  | 19 => ("SeriesArchiveModel", "textLength", "I", false)
  | 20 => ("SeriesArchiveModel", "place", "I", false)
  | 21 => ("SeriesArchiveModel", "commands", "I", false)
  | _ => ("SeriesArchiveModel", "isWrong", "Z", false)
def tyX13 : Nat → FieldType := fun k => match k with
  | 0 => .array .int
  | 1 => .array .int
  | 2 => .array .int
  | 3 => .array .int
  | 4 => .array .int
  | 5 => .array .int
  | 6 => .int
  | 7 => .int
  | 8 => .int
  | 9 => .int
  | 10 => .boolean
  | 11 => .array .int
  | 12 => .int
  | 13 => .array .int
  | 14 => .array .int
  | 15 => .array .int
  | 16 => .array .int
  | 17 => .array .int
  | 18 => .int
  | 19 => .int
  | 20 => .int
  | 21 => .int
  | _ => .boolean
theorem nmX13 : ∀ a, a < 23 → ∀ b, b < 23 → a ≠ b → (TX13 a).2.1 ≠ (TX13 b).2.1 := by decide +kernel
theorem tyX13_ok : ∀ k, k < 23 → parseFieldDescriptor (TX13 k).2.2.1 = some (tyX13 k) := by decide +kernel
def RJ4 : String := "java/lang/StringBuilder"
def TJ4 : u_T := fun k => match k with
  | 0 => ("java/lang/AbstractStringBuilder", "value", "[B", false)
  | 1 => ("java/lang/AbstractStringBuilder", "coder", "B", false)
  | 2 => ("java/lang/AbstractStringBuilder", "maybeLatin1", "Z", false)
  | _ => ("java/lang/AbstractStringBuilder", "count", "I", false)
def tyJ4 : Nat → FieldType := fun k => match k with
  | 0 => .array .byte
  | 1 => .byte
  | 2 => .boolean
  | _ => .int
theorem nmJ4 : ∀ a, a < 4 → ∀ b, b < 4 → a ≠ b → (TJ4 a).2.1 ≠ (TJ4 b).2.1 := by decide +kernel
theorem tyJ4_ok : ∀ k, k < 4 → parseFieldDescriptor (TJ4 k).2.2.1 = some (tyJ4 k) := by decide +kernel
abbrev wcl : List vw_C := [(RX12, TX12, 13), (RX10, TX10, 6), (RX9, TX9, 2), (RX3, TX3, 3), (RX4, TX4, 6), (RX8, TX8, 4), (RX6, TX6, 1), (RX1, TX1, 1), (RX11, TX11, 1), (RX13, TX13, 23), (RJ4, TJ4, 4)]
/-- the words that a callee may use as well -/
def zz_good : List Cond := lw_tbl.filter goodWord
theorem zz_in {w : Cond} (h : w ∈ lw_tbl) (hg : goodWord w = true) : w ∈ zz_good := List.mem_filter.mpr ⟨h, hg⟩
theorem zz_tb (i : Nat) {w : Cond} (h : tables_1[i]? = some w) (hg : goodWord w = true) : w ∈ zz_good := zz_in (List.mem_append_right _ (List.mem_of_getElem? h)) hg
theorem zz_sl {q : MethodName × Nat} (i : Nat) (h : lw_privs[i]? = some q) (hg : goodWord (.selects q.1.cls q.1 q.1) = true) (hm : Cond.selects q.1.cls q.1 q.1 ∈ k2_sels lw_privs) : Cond.selects q.1.cls q.1 q.1 ∈ zz_good := zz_in (List.mem_append_left _ hm) hg
theorem zz_gg {c : Cond} (h : c ∈ zz_good) : GoodIn zz_good (c :: zz_good) := by
  intro w hw
  rcases List.mem_cons.mp hw with e | e
  · subst e
    exact ⟨h, good_of_word (List.mem_filter.mp h).2⟩
  · exact ⟨e, good_of_word (List.mem_filter.mp e).2⟩
abbrev zz_L : Type := List (Nat × Instr × Nat)
def zz_decAll (bs : ByteArray) (l : zz_L) : Bool := l.all (fun q => decide (decode bs q.1 = .ok (q.2.1, q.2.2)))
theorem zz_at {bs : ByteArray} {l : zz_L} (h : zz_decAll bs l = true) (k : Nat) {pc n : Nat} {i : Instr} (hk : l[k]? = some (pc, i, n)) : decode bs pc = .ok (i, n) := by
  have h1 := List.all_eq_true.mp h _ (List.mem_of_getElem? hk)
  simp only [decide_eq_true_eq] at h1
  exact h1
