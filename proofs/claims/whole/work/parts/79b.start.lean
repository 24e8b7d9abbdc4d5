/-! THE START: what the premises give of the machine before the law's first step -/
def nw : List Cond := flatC (Jvm.Cond.and given_1 narrow_1)
theorem nw_in {w : Cond} (n : Nat) (h : nw[n]? = some w) : w ∈ nw := List.mem_of_getElem? h
theorem st_a4 {p : Nat → Prop} (h0 : p 0) (h1 : p 1) (h2 : p 2) (h3 : p 3) : ∀ i, i < 4 → p i := by
  intro i hi
  rcases (show i = 0 ∨ i = 1 ∨ i = 2 ∨ i = 3 by omega) with rfl | rfl | rfl | rfl
  · exact h0
  · exact h1
  · exact h2
  · exact h3
theorem st_a5 {p : Nat → Prop} (h0 : p 0) (h1 : p 1) (h2 : p 2) (h3 : p 3) (h4 : p 4) : ∀ i, i < 5 → p i := by
  intro i hi
  rcases (show i = 0 ∨ i = 1 ∨ i = 2 ∨ i = 3 ∨ i = 4 by omega) with rfl | rfl | rfl | rfl | rfl
  · exact h0
  · exact h1
  · exact h2
  · exact h3
  · exact h4
theorem st_a9 {p : Nat → Prop} (h0 : p 0) (h1 : p 1) (h2 : p 2) (h3 : p 3) (h4 : p 4) (h5 : p 5) (h6 : p 6) (h7 : p 7) (h8 : p 8) : ∀ i, i < 9 → p i := by
  intro i hi
  rcases (show i = 0 ∨ i = 1 ∨ i = 2 ∨ i = 3 ∨ i = 4 ∨ i = 5 ∨ i = 6 ∨ i = 7 ∨ i = 8 by omega) with rfl | rfl | rfl | rfl | rfl | rfl | rfl | rfl | rfl
  · exact h0
  · exact h1
  · exact h2
  · exact h3
  · exact h4
  · exact h5
  · exact h6
  · exact h7
  · exact h8
theorem st_kl : ∀ i, i < 9 → Cond.laysStatic "SeriesArchive$Kind" (zz_kinds.getD i "") "LSeriesArchive$Kind;" ∈ lw_tbl := by
  intro i hi
  have h : i = 0 ∨ i = 1 ∨ i = 2 ∨ i = 3 ∨ i = 4 ∨ i = 5 ∨ i = 6 ∨ i = 7 ∨ i = 8 := by omega
  rcases h with rfl | rfl | rfl | rfl | rfl | rfl | rfl | rfl | rfl
  · exact tl_1 108 (by decide +kernel)
  · exact tl_3 184 (by decide +kernel)
  · exact tl_3 193 (by decide +kernel)
  · exact tl_3 202 (by decide +kernel)
  · exact tl_3 211 (by decide +kernel)
  · exact tl_3 220 (by decide +kernel)
  · exact tl_3 229 (by decide +kernel)
  · exact tl_3 238 (by decide +kernel)
  · exact tl_4 7 (by decide +kernel)
theorem st_kx : ∀ i, i < 9 → Cond.exactly (.static "SeriesArchive$Kind" (zz_kinds.getD i "") "LSeriesArchive$Kind;") "SeriesArchive$Kind" ∈ nw := by
  intro i hi
  have h : i = 0 ∨ i = 1 ∨ i = 2 ∨ i = 3 ∨ i = 4 ∨ i = 5 ∨ i = 6 ∨ i = 7 ∨ i = 8 := by omega
  rcases h with rfl | rfl | rfl | rfl | rfl | rfl | rfl | rfl | rfl
  · exact nw_in 4 (by decide +kernel)
  · exact nw_in 40 (by decide +kernel)
  · exact nw_in 48 (by decide +kernel)
  · exact nw_in 57 (by decide +kernel)
  · exact nw_in 67 (by decide +kernel)
  · exact nw_in 78 (by decide +kernel)
  · exact nw_in 90 (by decide +kernel)
  · exact nw_in 103 (by decide +kernel)
  · exact nw_in 117 (by decide +kernel)
theorem st_kd : ∀ i, i < 9 → ∀ j, j < 9 → i < j → Cond.not (.eq (.static "SeriesArchive$Kind" (zz_kinds.getD i "") "LSeriesArchive$Kind;") (.static "SeriesArchive$Kind" (zz_kinds.getD j "") "LSeriesArchive$Kind;")) ∈ nw ∨ Cond.not (.eq (.static "SeriesArchive$Kind" (zz_kinds.getD j "") "LSeriesArchive$Kind;") (.static "SeriesArchive$Kind" (zz_kinds.getD i "") "LSeriesArchive$Kind;")) ∈ nw := by
  refine st_a9 (p := fun i => ∀ j, j < 9 → i < j → Cond.not (.eq (.static "SeriesArchive$Kind" (zz_kinds.getD i "") "LSeriesArchive$Kind;") (.static "SeriesArchive$Kind" (zz_kinds.getD j "") "LSeriesArchive$Kind;")) ∈ nw ∨ Cond.not (.eq (.static "SeriesArchive$Kind" (zz_kinds.getD j "") "LSeriesArchive$Kind;") (.static "SeriesArchive$Kind" (zz_kinds.getD i "") "LSeriesArchive$Kind;")) ∈ nw) ?_ ?_ ?_ ?_ ?_ ?_ ?_ ?_ ?_
  · refine st_a9 (p := fun j => 0 < j → Cond.not (.eq (.static "SeriesArchive$Kind" (zz_kinds.getD 0 "") "LSeriesArchive$Kind;") (.static "SeriesArchive$Kind" (zz_kinds.getD j "") "LSeriesArchive$Kind;")) ∈ nw ∨ Cond.not (.eq (.static "SeriesArchive$Kind" (zz_kinds.getD j "") "LSeriesArchive$Kind;") (.static "SeriesArchive$Kind" (zz_kinds.getD 0 "") "LSeriesArchive$Kind;")) ∈ nw) ?_ ?_ ?_ ?_ ?_ ?_ ?_ ?_ ?_
    · exact fun h => absurd h (by decide)
    · exact fun _ => Or.inl (nw_in 43 (by decide +kernel))
    · exact fun _ => Or.inl (nw_in 51 (by decide +kernel))
    · exact fun _ => Or.inl (nw_in 60 (by decide +kernel))
    · exact fun _ => Or.inl (nw_in 70 (by decide +kernel))
    · exact fun _ => Or.inl (nw_in 81 (by decide +kernel))
    · exact fun _ => Or.inl (nw_in 93 (by decide +kernel))
    · exact fun _ => Or.inl (nw_in 106 (by decide +kernel))
    · exact fun _ => Or.inl (nw_in 120 (by decide +kernel))
  · refine st_a9 (p := fun j => 1 < j → Cond.not (.eq (.static "SeriesArchive$Kind" (zz_kinds.getD 1 "") "LSeriesArchive$Kind;") (.static "SeriesArchive$Kind" (zz_kinds.getD j "") "LSeriesArchive$Kind;")) ∈ nw ∨ Cond.not (.eq (.static "SeriesArchive$Kind" (zz_kinds.getD j "") "LSeriesArchive$Kind;") (.static "SeriesArchive$Kind" (zz_kinds.getD 1 "") "LSeriesArchive$Kind;")) ∈ nw) ?_ ?_ ?_ ?_ ?_ ?_ ?_ ?_ ?_
    · exact fun h => absurd h (by decide)
    · exact fun h => absurd h (by decide)
    · exact fun _ => Or.inl (nw_in 56 (by decide +kernel))
    · exact fun _ => Or.inl (nw_in 65 (by decide +kernel))
    · exact fun _ => Or.inl (nw_in 75 (by decide +kernel))
    · exact fun _ => Or.inl (nw_in 86 (by decide +kernel))
    · exact fun _ => Or.inl (nw_in 98 (by decide +kernel))
    · exact fun _ => Or.inl (nw_in 111 (by decide +kernel))
    · exact fun _ => Or.inl (nw_in 125 (by decide +kernel))
  · refine st_a9 (p := fun j => 2 < j → Cond.not (.eq (.static "SeriesArchive$Kind" (zz_kinds.getD 2 "") "LSeriesArchive$Kind;") (.static "SeriesArchive$Kind" (zz_kinds.getD j "") "LSeriesArchive$Kind;")) ∈ nw ∨ Cond.not (.eq (.static "SeriesArchive$Kind" (zz_kinds.getD j "") "LSeriesArchive$Kind;") (.static "SeriesArchive$Kind" (zz_kinds.getD 2 "") "LSeriesArchive$Kind;")) ∈ nw) ?_ ?_ ?_ ?_ ?_ ?_ ?_ ?_ ?_
    · exact fun h => absurd h (by decide)
    · exact fun h => absurd h (by decide)
    · exact fun h => absurd h (by decide)
    · exact fun _ => Or.inl (nw_in 66 (by decide +kernel))
    · exact fun _ => Or.inl (nw_in 76 (by decide +kernel))
    · exact fun _ => Or.inl (nw_in 87 (by decide +kernel))
    · exact fun _ => Or.inl (nw_in 99 (by decide +kernel))
    · exact fun _ => Or.inl (nw_in 112 (by decide +kernel))
    · exact fun _ => Or.inl (nw_in 126 (by decide +kernel))
  · refine st_a9 (p := fun j => 3 < j → Cond.not (.eq (.static "SeriesArchive$Kind" (zz_kinds.getD 3 "") "LSeriesArchive$Kind;") (.static "SeriesArchive$Kind" (zz_kinds.getD j "") "LSeriesArchive$Kind;")) ∈ nw ∨ Cond.not (.eq (.static "SeriesArchive$Kind" (zz_kinds.getD j "") "LSeriesArchive$Kind;") (.static "SeriesArchive$Kind" (zz_kinds.getD 3 "") "LSeriesArchive$Kind;")) ∈ nw) ?_ ?_ ?_ ?_ ?_ ?_ ?_ ?_ ?_
    · exact fun h => absurd h (by decide)
    · exact fun h => absurd h (by decide)
    · exact fun h => absurd h (by decide)
    · exact fun h => absurd h (by decide)
    · exact fun _ => Or.inl (nw_in 77 (by decide +kernel))
    · exact fun _ => Or.inl (nw_in 88 (by decide +kernel))
    · exact fun _ => Or.inl (nw_in 100 (by decide +kernel))
    · exact fun _ => Or.inl (nw_in 113 (by decide +kernel))
    · exact fun _ => Or.inl (nw_in 127 (by decide +kernel))
  · refine st_a9 (p := fun j => 4 < j → Cond.not (.eq (.static "SeriesArchive$Kind" (zz_kinds.getD 4 "") "LSeriesArchive$Kind;") (.static "SeriesArchive$Kind" (zz_kinds.getD j "") "LSeriesArchive$Kind;")) ∈ nw ∨ Cond.not (.eq (.static "SeriesArchive$Kind" (zz_kinds.getD j "") "LSeriesArchive$Kind;") (.static "SeriesArchive$Kind" (zz_kinds.getD 4 "") "LSeriesArchive$Kind;")) ∈ nw) ?_ ?_ ?_ ?_ ?_ ?_ ?_ ?_ ?_
    · exact fun h => absurd h (by decide)
    · exact fun h => absurd h (by decide)
    · exact fun h => absurd h (by decide)
    · exact fun h => absurd h (by decide)
    · exact fun h => absurd h (by decide)
    · exact fun _ => Or.inl (nw_in 89 (by decide +kernel))
    · exact fun _ => Or.inl (nw_in 101 (by decide +kernel))
    · exact fun _ => Or.inl (nw_in 114 (by decide +kernel))
    · exact fun _ => Or.inl (nw_in 128 (by decide +kernel))
  · refine st_a9 (p := fun j => 5 < j → Cond.not (.eq (.static "SeriesArchive$Kind" (zz_kinds.getD 5 "") "LSeriesArchive$Kind;") (.static "SeriesArchive$Kind" (zz_kinds.getD j "") "LSeriesArchive$Kind;")) ∈ nw ∨ Cond.not (.eq (.static "SeriesArchive$Kind" (zz_kinds.getD j "") "LSeriesArchive$Kind;") (.static "SeriesArchive$Kind" (zz_kinds.getD 5 "") "LSeriesArchive$Kind;")) ∈ nw) ?_ ?_ ?_ ?_ ?_ ?_ ?_ ?_ ?_
    · exact fun h => absurd h (by decide)
    · exact fun h => absurd h (by decide)
    · exact fun h => absurd h (by decide)
    · exact fun h => absurd h (by decide)
    · exact fun h => absurd h (by decide)
    · exact fun h => absurd h (by decide)
    · exact fun _ => Or.inl (nw_in 102 (by decide +kernel))
    · exact fun _ => Or.inl (nw_in 115 (by decide +kernel))
    · exact fun _ => Or.inl (nw_in 129 (by decide +kernel))
  · refine st_a9 (p := fun j => 6 < j → Cond.not (.eq (.static "SeriesArchive$Kind" (zz_kinds.getD 6 "") "LSeriesArchive$Kind;") (.static "SeriesArchive$Kind" (zz_kinds.getD j "") "LSeriesArchive$Kind;")) ∈ nw ∨ Cond.not (.eq (.static "SeriesArchive$Kind" (zz_kinds.getD j "") "LSeriesArchive$Kind;") (.static "SeriesArchive$Kind" (zz_kinds.getD 6 "") "LSeriesArchive$Kind;")) ∈ nw) ?_ ?_ ?_ ?_ ?_ ?_ ?_ ?_ ?_
    · exact fun h => absurd h (by decide)
    · exact fun h => absurd h (by decide)
    · exact fun h => absurd h (by decide)
    · exact fun h => absurd h (by decide)
    · exact fun h => absurd h (by decide)
    · exact fun h => absurd h (by decide)
    · exact fun h => absurd h (by decide)
    · exact fun _ => Or.inl (nw_in 116 (by decide +kernel))
    · exact fun _ => Or.inl (nw_in 130 (by decide +kernel))
  · refine st_a9 (p := fun j => 7 < j → Cond.not (.eq (.static "SeriesArchive$Kind" (zz_kinds.getD 7 "") "LSeriesArchive$Kind;") (.static "SeriesArchive$Kind" (zz_kinds.getD j "") "LSeriesArchive$Kind;")) ∈ nw ∨ Cond.not (.eq (.static "SeriesArchive$Kind" (zz_kinds.getD j "") "LSeriesArchive$Kind;") (.static "SeriesArchive$Kind" (zz_kinds.getD 7 "") "LSeriesArchive$Kind;")) ∈ nw) ?_ ?_ ?_ ?_ ?_ ?_ ?_ ?_ ?_
    · exact fun h => absurd h (by decide)
    · exact fun h => absurd h (by decide)
    · exact fun h => absurd h (by decide)
    · exact fun h => absurd h (by decide)
    · exact fun h => absurd h (by decide)
    · exact fun h => absurd h (by decide)
    · exact fun h => absurd h (by decide)
    · exact fun h => absurd h (by decide)
    · exact fun _ => Or.inl (nw_in 131 (by decide +kernel))
  · refine st_a9 (p := fun j => 8 < j → Cond.not (.eq (.static "SeriesArchive$Kind" (zz_kinds.getD 8 "") "LSeriesArchive$Kind;") (.static "SeriesArchive$Kind" (zz_kinds.getD j "") "LSeriesArchive$Kind;")) ∈ nw ∨ Cond.not (.eq (.static "SeriesArchive$Kind" (zz_kinds.getD j "") "LSeriesArchive$Kind;") (.static "SeriesArchive$Kind" (zz_kinds.getD 8 "") "LSeriesArchive$Kind;")) ∈ nw) ?_ ?_ ?_ ?_ ?_ ?_ ?_ ?_ ?_
    · exact fun h => absurd h (by decide)
    · exact fun h => absurd h (by decide)
    · exact fun h => absurd h (by decide)
    · exact fun h => absurd h (by decide)
    · exact fun h => absurd h (by decide)
    · exact fun h => absurd h (by decide)
    · exact fun h => absurd h (by decide)
    · exact fun h => absurd h (by decide)
    · exact fun h => absurd h (by decide)
theorem st_fl : ∀ i, i < 4 → Cond.laysStatic "SeriesArchive$Fault" (zz_faults.getD i "") "LSeriesArchive$Fault;" ∈ lw_tbl := by
  intro i hi
  have h : i = 0 ∨ i = 1 ∨ i = 2 ∨ i = 3 := by omega
  rcases h with rfl | rfl | rfl | rfl
  · exact tl_3 37 (by decide +kernel)
  · exact tl_3 15 (by decide +kernel)
  · exact tl_3 28 (by decide +kernel)
  · exact tl_3 39 (by decide +kernel)
theorem st_fx : ∀ i, i < 4 → Cond.exactly (.static "SeriesArchive$Fault" (zz_faults.getD i "") "LSeriesArchive$Fault;") "SeriesArchive$Fault" ∈ nw := by
  intro i hi
  have h : i = 0 ∨ i = 1 ∨ i = 2 ∨ i = 3 := by omega
  rcases h with rfl | rfl | rfl | rfl
  · exact nw_in 29 (by decide +kernel)
  · exact nw_in 10 (by decide +kernel)
  · exact nw_in 25 (by decide +kernel)
  · exact nw_in 34 (by decide +kernel)
theorem st_fd : ∀ i, i < 4 → ∀ j, j < 4 → i < j → Cond.not (.eq (.static "SeriesArchive$Fault" (zz_faults.getD i "") "LSeriesArchive$Fault;") (.static "SeriesArchive$Fault" (zz_faults.getD j "") "LSeriesArchive$Fault;")) ∈ nw ∨ Cond.not (.eq (.static "SeriesArchive$Fault" (zz_faults.getD j "") "LSeriesArchive$Fault;") (.static "SeriesArchive$Fault" (zz_faults.getD i "") "LSeriesArchive$Fault;")) ∈ nw := by
  refine st_a4 (p := fun i => ∀ j, j < 4 → i < j → Cond.not (.eq (.static "SeriesArchive$Fault" (zz_faults.getD i "") "LSeriesArchive$Fault;") (.static "SeriesArchive$Fault" (zz_faults.getD j "") "LSeriesArchive$Fault;")) ∈ nw ∨ Cond.not (.eq (.static "SeriesArchive$Fault" (zz_faults.getD j "") "LSeriesArchive$Fault;") (.static "SeriesArchive$Fault" (zz_faults.getD i "") "LSeriesArchive$Fault;")) ∈ nw) ?_ ?_ ?_ ?_
  · refine st_a4 (p := fun j => 0 < j → Cond.not (.eq (.static "SeriesArchive$Fault" (zz_faults.getD 0 "") "LSeriesArchive$Fault;") (.static "SeriesArchive$Fault" (zz_faults.getD j "") "LSeriesArchive$Fault;")) ∈ nw ∨ Cond.not (.eq (.static "SeriesArchive$Fault" (zz_faults.getD j "") "LSeriesArchive$Fault;") (.static "SeriesArchive$Fault" (zz_faults.getD 0 "") "LSeriesArchive$Fault;")) ∈ nw) ?_ ?_ ?_ ?_
    · exact fun h => absurd h (by decide)
    · exact fun _ => Or.inr (nw_in 32 (by decide +kernel))
    · exact fun _ => Or.inr (nw_in 33 (by decide +kernel))
    · exact fun _ => Or.inl (nw_in 39 (by decide +kernel))
  · refine st_a4 (p := fun j => 1 < j → Cond.not (.eq (.static "SeriesArchive$Fault" (zz_faults.getD 1 "") "LSeriesArchive$Fault;") (.static "SeriesArchive$Fault" (zz_faults.getD j "") "LSeriesArchive$Fault;")) ∈ nw ∨ Cond.not (.eq (.static "SeriesArchive$Fault" (zz_faults.getD j "") "LSeriesArchive$Fault;") (.static "SeriesArchive$Fault" (zz_faults.getD 1 "") "LSeriesArchive$Fault;")) ∈ nw) ?_ ?_ ?_ ?_
    · exact fun h => absurd h (by decide)
    · exact fun h => absurd h (by decide)
    · exact fun _ => Or.inl (nw_in 28 (by decide +kernel))
    · exact fun _ => Or.inl (nw_in 37 (by decide +kernel))
  · refine st_a4 (p := fun j => 2 < j → Cond.not (.eq (.static "SeriesArchive$Fault" (zz_faults.getD 2 "") "LSeriesArchive$Fault;") (.static "SeriesArchive$Fault" (zz_faults.getD j "") "LSeriesArchive$Fault;")) ∈ nw ∨ Cond.not (.eq (.static "SeriesArchive$Fault" (zz_faults.getD j "") "LSeriesArchive$Fault;") (.static "SeriesArchive$Fault" (zz_faults.getD 2 "") "LSeriesArchive$Fault;")) ∈ nw) ?_ ?_ ?_ ?_
    · exact fun h => absurd h (by decide)
    · exact fun h => absurd h (by decide)
    · exact fun h => absurd h (by decide)
    · exact fun _ => Or.inl (nw_in 38 (by decide +kernel))
  · refine st_a4 (p := fun j => 3 < j → Cond.not (.eq (.static "SeriesArchive$Fault" (zz_faults.getD 3 "") "LSeriesArchive$Fault;") (.static "SeriesArchive$Fault" (zz_faults.getD j "") "LSeriesArchive$Fault;")) ∈ nw ∨ Cond.not (.eq (.static "SeriesArchive$Fault" (zz_faults.getD j "") "LSeriesArchive$Fault;") (.static "SeriesArchive$Fault" (zz_faults.getD 3 "") "LSeriesArchive$Fault;")) ∈ nw) ?_ ?_ ?_ ?_
    · exact fun h => absurd h (by decide)
    · exact fun h => absurd h (by decide)
    · exact fun h => absurd h (by decide)
    · exact fun h => absurd h (by decide)
theorem st_ko : ∀ i, i < 9 → Cond.eq (.field (.static "SeriesArchive$Kind" (zz_kinds.getD i "") "LSeriesArchive$Kind;") "java/lang/Enum" "ordinal" "I") (.int (zz_ord.2.2.2.getD i 0)) ∈ nw := by
  intro i hi
  have h : i = 0 ∨ i = 1 ∨ i = 2 ∨ i = 3 ∨ i = 4 ∨ i = 5 ∨ i = 6 ∨ i = 7 ∨ i = 8 := by omega
  rcases h with rfl | rfl | rfl | rfl | rfl | rfl | rfl | rfl | rfl
  · exact nw_in 5 (by decide +kernel)
  · exact nw_in 41 (by decide +kernel)
  · exact nw_in 49 (by decide +kernel)
  · exact nw_in 58 (by decide +kernel)
  · exact nw_in 68 (by decide +kernel)
  · exact nw_in 79 (by decide +kernel)
  · exact nw_in 91 (by decide +kernel)
  · exact nw_in 104 (by decide +kernel)
  · exact nw_in 118 (by decide +kernel)
def st_sh : List Nat := [55, 61, 64, 67, 70, 73, 76, 79, 82]
theorem st_ks : ∀ i, i < 9 → Cond.eq (.field (.static "SeriesArchive$Kind" (zz_kinds.getD i "") "LSeriesArchive$Kind;") "SeriesArchive$Kind" "shape" "Ljava/lang/String;") (.string "SeriesArchive$Kind" (st_sh.getD i 0)) ∈ nw := by
  intro i hi
  have h : i = 0 ∨ i = 1 ∨ i = 2 ∨ i = 3 ∨ i = 4 ∨ i = 5 ∨ i = 6 ∨ i = 7 ∨ i = 8 := by omega
  rcases h with rfl | rfl | rfl | rfl | rfl | rfl | rfl | rfl | rfl
  · exact nw_in 6 (by decide +kernel)
  · exact nw_in 42 (by decide +kernel)
  · exact nw_in 50 (by decide +kernel)
  · exact nw_in 59 (by decide +kernel)
  · exact nw_in 69 (by decide +kernel)
  · exact nw_in 80 (by decide +kernel)
  · exact nw_in 92 (by decide +kernel)
  · exact nw_in 105 (by decide +kernel)
  · exact nw_in 119 (by decide +kernel)
theorem st_sx : ∀ i, i < 9 → Cond.exactly (.string "SeriesArchive$Kind" (st_sh.getD i 0)) "java/lang/String" ∈ nw := by
  intro i hi
  have h : i = 0 ∨ i = 1 ∨ i = 2 ∨ i = 3 ∨ i = 4 ∨ i = 5 ∨ i = 6 ∨ i = 7 ∨ i = 8 := by omega
  rcases h with rfl | rfl | rfl | rfl | rfl | rfl | rfl | rfl | rfl
  · exact nw_in 1221 (by decide +kernel)
  · exact nw_in 1232 (by decide +kernel)
  · exact nw_in 1245 (by decide +kernel)
  · exact nw_in 1256 (by decide +kernel)
  · exact nw_in 1268 (by decide +kernel)
  · exact nw_in 1278 (by decide +kernel)
  · exact nw_in 1291 (by decide +kernel)
  · exact nw_in 1305 (by decide +kernel)
  · exact nw_in 1316 (by decide +kernel)
theorem st_sc : ∀ i, i < 9 → Cond.eq (.field (.string "SeriesArchive$Kind" (st_sh.getD i 0)) "java/lang/String" "coder" "B") (.int 0) ∈ nw := by
  intro i hi
  have h : i = 0 ∨ i = 1 ∨ i = 2 ∨ i = 3 ∨ i = 4 ∨ i = 5 ∨ i = 6 ∨ i = 7 ∨ i = 8 := by omega
  rcases h with rfl | rfl | rfl | rfl | rfl | rfl | rfl | rfl | rfl
  · exact nw_in 1222 (by decide +kernel)
  · exact nw_in 1233 (by decide +kernel)
  · exact nw_in 1246 (by decide +kernel)
  · exact nw_in 1257 (by decide +kernel)
  · exact nw_in 1269 (by decide +kernel)
  · exact nw_in 1279 (by decide +kernel)
  · exact nw_in 1292 (by decide +kernel)
  · exact nw_in 1306 (by decide +kernel)
  · exact nw_in 1317 (by decide +kernel)
theorem st_sa : ∀ i, i < 9 → Cond.arrayOf (.field (.string "SeriesArchive$Kind" (st_sh.getD i 0)) "java/lang/String" "value" "[B") .byte ∈ nw := by
  intro i hi
  have h : i = 0 ∨ i = 1 ∨ i = 2 ∨ i = 3 ∨ i = 4 ∨ i = 5 ∨ i = 6 ∨ i = 7 ∨ i = 8 := by omega
  rcases h with rfl | rfl | rfl | rfl | rfl | rfl | rfl | rfl | rfl
  · exact nw_in 1223 (by decide +kernel)
  · exact nw_in 1234 (by decide +kernel)
  · exact nw_in 1247 (by decide +kernel)
  · exact nw_in 1258 (by decide +kernel)
  · exact nw_in 1270 (by decide +kernel)
  · exact nw_in 1280 (by decide +kernel)
  · exact nw_in 1293 (by decide +kernel)
  · exact nw_in 1307 (by decide +kernel)
  · exact nw_in 1318 (by decide +kernel)
theorem st_sl : ∀ i, i < 9 → Cond.eq (.length (.field (.string "SeriesArchive$Kind" (st_sh.getD i 0)) "java/lang/String" "value" "[B")) (.int (Int32.ofNat (zz_shl.getD i 0))) ∈ nw := by
  intro i hi
  have h : i = 0 ∨ i = 1 ∨ i = 2 ∨ i = 3 ∨ i = 4 ∨ i = 5 ∨ i = 6 ∨ i = 7 ∨ i = 8 := by omega
  rcases h with rfl | rfl | rfl | rfl | rfl | rfl | rfl | rfl | rfl
  · exact nw_in 1224 (by decide +kernel)
  · exact nw_in 1235 (by decide +kernel)
  · exact nw_in 1248 (by decide +kernel)
  · exact nw_in 1259 (by decide +kernel)
  · exact nw_in 1271 (by decide +kernel)
  · exact nw_in 1281 (by decide +kernel)
  · exact nw_in 1294 (by decide +kernel)
  · exact nw_in 1308 (by decide +kernel)
  · exact nw_in 1319 (by decide +kernel)
theorem st_se : ∀ i, i < 9 → ∀ j, j < zz_shl.getD i 0 → Cond.eq (.elem (.field (.string "SeriesArchive$Kind" (st_sh.getD i 0)) "java/lang/String" "value" "[B") (.int (Int32.ofNat j))) (.int ((zz_shb.getD i []).getD j 0)) ∈ nw := by
  intro i hi
  have h : i = 0 ∨ i = 1 ∨ i = 2 ∨ i = 3 ∨ i = 4 ∨ i = 5 ∨ i = 6 ∨ i = 7 ∨ i = 8 := by omega
  rcases h with rfl | rfl | rfl | rfl | rfl | rfl | rfl | rfl | rfl
  · exact va_run (L := nw) (N := 7) (p := 1225) (f := fun j => Cond.eq (.elem (.field (.string "SeriesArchive$Kind" (st_sh.getD 0 0)) "java/lang/String" "value" "[B") (.int (Int32.ofNat j))) (.int ((zz_shb.getD 0 []).getD j 0))) (by decide +kernel)
  · exact va_run (L := nw) (N := 9) (p := 1236) (f := fun j => Cond.eq (.elem (.field (.string "SeriesArchive$Kind" (st_sh.getD 1 0)) "java/lang/String" "value" "[B") (.int (Int32.ofNat j))) (.int ((zz_shb.getD 1 []).getD j 0))) (by decide +kernel)
  · exact va_run (L := nw) (N := 7) (p := 1249) (f := fun j => Cond.eq (.elem (.field (.string "SeriesArchive$Kind" (st_sh.getD 2 0)) "java/lang/String" "value" "[B") (.int (Int32.ofNat j))) (.int ((zz_shb.getD 2 []).getD j 0))) (by decide +kernel)
  · exact va_run (L := nw) (N := 8) (p := 1260) (f := fun j => Cond.eq (.elem (.field (.string "SeriesArchive$Kind" (st_sh.getD 3 0)) "java/lang/String" "value" "[B") (.int (Int32.ofNat j))) (.int ((zz_shb.getD 3 []).getD j 0))) (by decide +kernel)
  · exact va_run (L := nw) (N := 6) (p := 1272) (f := fun j => Cond.eq (.elem (.field (.string "SeriesArchive$Kind" (st_sh.getD 4 0)) "java/lang/String" "value" "[B") (.int (Int32.ofNat j))) (.int ((zz_shb.getD 4 []).getD j 0))) (by decide +kernel)
  · exact va_run (L := nw) (N := 9) (p := 1282) (f := fun j => Cond.eq (.elem (.field (.string "SeriesArchive$Kind" (st_sh.getD 5 0)) "java/lang/String" "value" "[B") (.int (Int32.ofNat j))) (.int ((zz_shb.getD 5 []).getD j 0))) (by decide +kernel)
  · exact va_run (L := nw) (N := 10) (p := 1295) (f := fun j => Cond.eq (.elem (.field (.string "SeriesArchive$Kind" (st_sh.getD 6 0)) "java/lang/String" "value" "[B") (.int (Int32.ofNat j))) (.int ((zz_shb.getD 6 []).getD j 0))) (by decide +kernel)
  · exact va_run (L := nw) (N := 7) (p := 1309) (f := fun j => Cond.eq (.elem (.field (.string "SeriesArchive$Kind" (st_sh.getD 7 0)) "java/lang/String" "value" "[B") (.int (Int32.ofNat j))) (.int ((zz_shb.getD 7 []).getD j 0))) (by decide +kernel)
  · exact va_run (L := nw) (N := 10) (p := 1320) (f := fun j => Cond.eq (.elem (.field (.string "SeriesArchive$Kind" (st_sh.getD 8 0)) "java/lang/String" "value" "[B") (.int (Int32.ofNat j))) (.int ((zz_shb.getD 8 []).getD j 0))) (by decide +kernel)
theorem st_sw : ∀ j, j < 9 → Cond.eq (.elem (.static "SeriesArchive$1" "$SwitchMap$SeriesArchive$Kind" "[I") (.int (Int32.ofNat j))) (.int (zz_sw j)) ∈ nw := va_run (L := nw) (N := 9) (p := 16) (f := fun j => Cond.eq (.elem (.static "SeriesArchive$1" "$SwitchMap$SeriesArchive$Kind" "[I") (.int (Int32.ofNat j))) (.int (zz_sw j))) (by decide +kernel)
theorem st_al : ∀ j, j < 9 → Cond.eq (.elem (.static "SeriesArchive$Kind" "ALL" "[LSeriesArchive$Kind;") (.int (Int32.ofNat j))) (.static "SeriesArchive$Kind" (zz_kinds.getD j "") "LSeriesArchive$Kind;") ∈ nw := va_run (L := nw) (N := 9) (p := 347) (f := fun j => Cond.eq (.elem (.static "SeriesArchive$Kind" "ALL" "[LSeriesArchive$Kind;") (.int (Int32.ofNat j))) (.static "SeriesArchive$Kind" (zz_kinds.getD j "") "LSeriesArchive$Kind;")) (by decide +kernel)
theorem st_dt : ∀ j, j < 100 → Cond.eq (.elem (.static "java/lang/Integer" "DigitTens" "[B") (.int (Int32.ofNat j))) (.int (sb_b (48 + j / 10))) ∈ nw := va_run (L := nw) (N := 100) (p := 242) (f := fun j => Cond.eq (.elem (.static "java/lang/Integer" "DigitTens" "[B") (.int (Int32.ofNat j))) (.int (sb_b (48 + j / 10)))) (by decide +kernel)
theorem st_do : ∀ j, j < 100 → Cond.eq (.elem (.static "java/lang/Integer" "DigitOnes" "[B") (.int (Int32.ofNat j))) (.int (sb_b (48 + j % 10))) ∈ nw := va_run (L := nw) (N := 100) (p := 139) (f := fun j => Cond.eq (.elem (.static "java/lang/Integer" "DigitOnes" "[B") (.int (Int32.ofNat j))) (.int (sb_b (48 + j % 10)))) (by decide +kernel)
theorem st_tx : ∀ q ∈ zz_texts, Cond.stringRef "SeriesArchive" q.1 q.2 ∈ lw_tbl ∧ Cond.exactly (.string "SeriesArchive" q.1) "java/lang/String" ∈ nw := List.forall_mem_cons.mpr ⟨⟨tl_4 107 (by decide +kernel), nw_in 602 (by decide +kernel)⟩, List.forall_mem_cons.mpr ⟨⟨tl_4 145 (by decide +kernel), nw_in 618 (by decide +kernel)⟩, List.forall_mem_cons.mpr ⟨⟨tl_5 173 (by decide +kernel), nw_in 845 (by decide +kernel)⟩, List.forall_mem_cons.mpr ⟨⟨tl_6 41 (by decide +kernel), nw_in 894 (by decide +kernel)⟩, List.forall_mem_cons.mpr ⟨⟨tl_7 109 (by decide +kernel), nw_in 1021 (by decide +kernel)⟩, List.forall_mem_cons.mpr ⟨⟨tl_7 127 (by decide +kernel), nw_in 1055 (by decide +kernel)⟩, List.forall_mem_cons.mpr ⟨⟨tl_7 132 (by decide +kernel), nw_in 1092 (by decide +kernel)⟩, List.forall_mem_cons.mpr ⟨⟨tl_7 213 (by decide +kernel), nw_in 1120 (by decide +kernel)⟩, List.forall_mem_cons.mpr ⟨⟨tl_8 5 (by decide +kernel), nw_in 1148 (by decide +kernel)⟩, List.forall_mem_cons.mpr ⟨⟨tl_8 27 (by decide +kernel), nw_in 1168 (by decide +kernel)⟩, List.forall_mem_cons.mpr ⟨⟨tl_8 40 (by decide +kernel), nw_in 1195 (by decide +kernel)⟩, List.forall_mem_cons.mpr ⟨⟨tl_3 69 (by decide +kernel), nw_in 454 (by decide +kernel)⟩, List.forall_mem_cons.mpr ⟨⟨tl_3 83 (by decide +kernel), nw_in 479 (by decide +kernel)⟩, List.forall_mem_cons.mpr ⟨⟨tl_3 100 (by decide +kernel), nw_in 510 (by decide +kernel)⟩, List.forall_mem_cons.mpr ⟨⟨tl_4 20 (by decide +kernel), nw_in 542 (by decide +kernel)⟩, List.forall_mem_cons.mpr ⟨⟨tl_4 34 (by decide +kernel), nw_in 558 (by decide +kernel)⟩, List.forall_mem_cons.mpr ⟨⟨tl_4 47 (by decide +kernel), nw_in 585 (by decide +kernel)⟩, List.forall_mem_cons.mpr ⟨⟨tl_4 158 (by decide +kernel), nw_in 641 (by decide +kernel)⟩, List.forall_mem_cons.mpr ⟨⟨tl_4 159 (by decide +kernel), nw_in 670 (by decide +kernel)⟩, List.forall_mem_cons.mpr ⟨⟨tl_4 226 (by decide +kernel), nw_in 731 (by decide +kernel)⟩, List.forall_mem_cons.mpr ⟨⟨tl_5 133 (by decide +kernel), nw_in 758 (by decide +kernel)⟩, List.forall_mem_cons.mpr ⟨⟨tl_5 134 (by decide +kernel), nw_in 800 (by decide +kernel)⟩, List.forall_mem_cons.mpr ⟨⟨tl_5 201 (by decide +kernel), nw_in 864 (by decide +kernel)⟩, List.forall_mem_cons.mpr ⟨⟨tl_4 182 (by decide +kernel), nw_in 714 (by decide +kernel)⟩, fun _ h => absurd h List.not_mem_nil⟩⟩⟩⟩⟩⟩⟩⟩⟩⟩⟩⟩⟩⟩⟩⟩⟩⟩⟩⟩⟩⟩⟩⟩
theorem st_nf : ∀ q ∈ zz_nestF, Cond.fieldLinkNest q.1 q.2.1 q.2.2.1 q.2.2.2.1 q.2.2.2.2.1 q.2.2.2.2.2 ∈ lw_tbl := List.forall_mem_cons.mpr ⟨tl_7 153 (by decide +kernel), List.forall_mem_cons.mpr ⟨tl_10 223 (by decide +kernel), fun _ h => absurd h List.not_mem_nil⟩⟩
theorem st_nm : ∀ q ∈ zz_nestM, Cond.methodLinkNest q.1 q.2.1 q.2.2.1 q.2.2.2 ∈ lw_tbl := List.forall_mem_cons.mpr ⟨tl_1 48 (by decide +kernel), List.forall_mem_cons.mpr ⟨tl_1 87 (by decide +kernel), List.forall_mem_cons.mpr ⟨tl_1 103 (by decide +kernel), List.forall_mem_cons.mpr ⟨tl_1 164 (by decide +kernel), List.forall_mem_cons.mpr ⟨tl_1 183 (by decide +kernel), List.forall_mem_cons.mpr ⟨tl_1 193 (by decide +kernel), List.forall_mem_cons.mpr ⟨tl_1 203 (by decide +kernel), List.forall_mem_cons.mpr ⟨tl_5 152 (by decide +kernel), List.forall_mem_cons.mpr ⟨tl_5 150 (by decide +kernel), List.forall_mem_cons.mpr ⟨tl_8 3 (by decide +kernel), List.forall_mem_cons.mpr ⟨tl_8 4 (by decide +kernel), List.forall_mem_cons.mpr ⟨tl_7 227 (by decide +kernel), List.forall_mem_cons.mpr ⟨tl_7 200 (by decide +kernel), List.forall_mem_cons.mpr ⟨tl_2 125 (by decide +kernel), List.forall_mem_cons.mpr ⟨tl_2 118 (by decide +kernel), List.forall_mem_cons.mpr ⟨tl_2 61 (by decide +kernel), List.forall_mem_cons.mpr ⟨tl_2 64 (by decide +kernel), List.forall_mem_cons.mpr ⟨tl_2 153 (by decide +kernel), List.forall_mem_cons.mpr ⟨tl_7 238 (by decide +kernel), List.forall_mem_cons.mpr ⟨tl_3 51 (by decide +kernel), List.forall_mem_cons.mpr ⟨tl_1 54 (by decide +kernel), List.forall_mem_cons.mpr ⟨tl_2 148 (by decide +kernel), List.forall_mem_cons.mpr ⟨tl_7 233 (by decide +kernel), List.forall_mem_cons.mpr ⟨tl_3 11 (by decide +kernel), List.forall_mem_cons.mpr ⟨tl_3 24 (by decide +kernel), List.forall_mem_cons.mpr ⟨tl_5 224 (by decide +kernel), List.forall_mem_cons.mpr ⟨tl_5 221 (by decide +kernel), fun _ h => absurd h List.not_mem_nil⟩⟩⟩⟩⟩⟩⟩⟩⟩⟩⟩⟩⟩⟩⟩⟩⟩⟩⟩⟩⟩⟩⟩⟩⟩⟩⟩
theorem st_nc : ∀ i, i < 5 → ∀ j, j < 5 → i ≠ j → Cond.not (.castable (exN i) (exN j)) ∈ nw := by
  refine st_a5 (p := fun i => ∀ j, j < 5 → i ≠ j → Cond.not (.castable (exN i) (exN j)) ∈ nw) ?_ ?_ ?_ ?_ ?_
  · refine st_a5 (p := fun j => 0 ≠ j → Cond.not (.castable (exN 0) (exN j)) ∈ nw) ?_ ?_ ?_ ?_ ?_
    · exact fun h => absurd rfl h
    · exact fun _ => nw_in 388 (by decide +kernel)
    · exact fun _ => nw_in 408 (by decide +kernel)
    · exact fun _ => nw_in 428 (by decide +kernel)
    · exact fun _ => nw_in 448 (by decide +kernel)
  · refine st_a5 (p := fun j => 1 ≠ j → Cond.not (.castable (exN 1) (exN j)) ∈ nw) ?_ ?_ ?_ ?_ ?_
    · exact fun _ => nw_in 369 (by decide +kernel)
    · exact fun h => absurd rfl h
    · exact fun _ => nw_in 409 (by decide +kernel)
    · exact fun _ => nw_in 429 (by decide +kernel)
    · exact fun _ => nw_in 449 (by decide +kernel)
  · refine st_a5 (p := fun j => 2 ≠ j → Cond.not (.castable (exN 2) (exN j)) ∈ nw) ?_ ?_ ?_ ?_ ?_
    · exact fun _ => nw_in 370 (by decide +kernel)
    · exact fun _ => nw_in 389 (by decide +kernel)
    · exact fun h => absurd rfl h
    · exact fun _ => nw_in 430 (by decide +kernel)
    · exact fun _ => nw_in 450 (by decide +kernel)
  · refine st_a5 (p := fun j => 3 ≠ j → Cond.not (.castable (exN 3) (exN j)) ∈ nw) ?_ ?_ ?_ ?_ ?_
    · exact fun _ => nw_in 371 (by decide +kernel)
    · exact fun _ => nw_in 390 (by decide +kernel)
    · exact fun _ => nw_in 410 (by decide +kernel)
    · exact fun h => absurd rfl h
    · exact fun _ => nw_in 451 (by decide +kernel)
  · refine st_a5 (p := fun j => 4 ≠ j → Cond.not (.castable (exN 4) (exN j)) ∈ nw) ?_ ?_ ?_ ?_ ?_
    · exact fun _ => nw_in 372 (by decide +kernel)
    · exact fun _ => nw_in 391 (by decide +kernel)
    · exact fun _ => nw_in 411 (by decide +kernel)
    · exact fun _ => nw_in 431 (by decide +kernel)
    · exact fun h => absurd rfl h
theorem st_cl : ∀ (c : Nat) (q : vw_C), wcl[c]? = some q → (∀ w ∈ u_ws q.1 q.2.1 q.2.2, w ∈ lw_tbl) ∧ Cond.instantiable q.1 q.2.2 ∈ lw_tbl := by
  intro c q h
  have hc : c < 11 := (List.getElem?_eq_some_iff.mp h).1
  have h9 : c = 0 ∨ c = 1 ∨ c = 2 ∨ c = 3 ∨ c = 4 ∨ c = 5 ∨ c = 6 ∨ c = 7 ∨ c = 8 ∨ c = 9 ∨ c = 10 := by omega
  rcases h9 with rfl | rfl | rfl | rfl | rfl | rfl | rfl | rfl | rfl | rfl | rfl
  · cases Option.some.inj h
    exact ⟨fun w hw => (List.mem_filter.mp (uw_0 w hw)).1, tl_1 39 (by decide +kernel)⟩
  · cases Option.some.inj h
    exact ⟨fun w hw => (List.mem_filter.mp (uw_1 w hw)).1, tl_1 47 (by decide +kernel)⟩
  · cases Option.some.inj h
    exact ⟨fun w hw => (List.mem_filter.mp (uw_2 w hw)).1, tl_1 53 (by decide +kernel)⟩
  · cases Option.some.inj h
    exact ⟨fun w hw => (List.mem_filter.mp (uw_3 w hw)).1, tl_1 86 (by decide +kernel)⟩
  · cases Option.some.inj h
    exact ⟨fun w hw => (List.mem_filter.mp (uw_4 w hw)).1, tl_1 102 (by decide +kernel)⟩
  · cases Option.some.inj h
    exact ⟨fun w hw => (List.mem_filter.mp (uw_5 w hw)).1, tl_1 163 (by decide +kernel)⟩
  · cases Option.some.inj h
    exact ⟨fun w hw => (List.mem_filter.mp (uw_6 w hw)).1, tl_1 182 (by decide +kernel)⟩
  · cases Option.some.inj h
    exact ⟨fun w hw => (List.mem_filter.mp (uw_7 w hw)).1, tl_1 192 (by decide +kernel)⟩
  · cases Option.some.inj h
    exact ⟨fun w hw => (List.mem_filter.mp (uw_8 w hw)).1, tl_1 202 (by decide +kernel)⟩
  · cases Option.some.inj h
    exact ⟨fun w hw => (List.mem_filter.mp (uw_9 w hw)).1, tl_8 46 (by decide +kernel)⟩
  · cases Option.some.inj h
    exact ⟨fun w hw => (List.mem_filter.mp (uw_10 w hw)).1, tl_1 130 (by decide +kernel)⟩
theorem st_nw {w : Cond} (hg : zz_isx w = true) : w.onTables = true := by
  cases w <;> first | rfl | cases hg
theorem st_ne {A : Array Value} {s : State} {t u : Term} {a a' : Nat} (ht : t.eval A s none [] s = some (.ref a)) (hu : u.eval A s none [] s = some (.ref a')) (hne : a ≠ a') : (Cond.not (.eq t u)).before A s = true := by
  simp [Cond.before, Cond.holds, Cond.value, ht, hu, hne]
theorem st_b : ∀ i, i < 9 → ∀ j, j < 9 → (zz_shb.getD i []).getD 0 0 = (zz_shb.getD j []).getD 0 0 → (zz_shb.getD i []).getD 1 0 = (zz_shb.getD j []).getD 1 0 → i = j := by decide +kernel
theorem st_elem {A : Array Value} {s : State} {t u : Term} {c n d : String} {k : Term} (h : t.eval A s none [] s = u.eval A s none [] s) : (Term.elem (.field t c n d) k).eval A s none [] s = (Term.elem (.field u c n d) k).eval A s none [] s := by
  simp only [Term.eval, h]
theorem En_c {E d : String} {nm : List String} {F : List (String × String × String × List Int32)} {ad ad' : Nat → Nat} {A : Nat → Prop} {U : State} {H : Heap} (h : va_En E d nm F ad A U H) (e : ∀ i, i < nm.length → ad' i = ad i) : va_En E d nm F ad' A U H :=
  ⟨fun i hi => by rw [e i hi]; exact h.1 i hi, fun i j hi hj => by rw [e i hi, e j hj]; exact h.2 i j hi hj⟩
theorem Ef_c {N : Nat} {o n d : String} {v v' : Nat → Value} {ad ad' : Nat → Nat} {A : Nat → Prop} {U : State} {H : Heap} (h : va_Ef N o n d v ad A U H) (e : ∀ i, i < N → ad' i = ad i ∧ v' i = v i) : va_Ef N o n d v' ad' A U H := fun i hi => by
  rw [(e i hi).1, (e i hi).2]
  exact h i hi
theorem T_c {ty : FieldType} {t N : Nat} {f f' : Nat → Value} {A : Nat → Prop} {U : State} {H : Heap} (h : va_T ty t N f A U H) (e : ∀ j, j < N → f' j = f j) : va_T ty t N f' A U H := by
  obtain ⟨cell, h1, h2, h3, h4, h5, h6, h7⟩ := h
  exact ⟨cell, h1, h2, h3, h4, h5, fun j hj => by rw [e j hj]; exact h6 j hj, h7⟩
theorem S_c {N : Nat} {len : List Nat} {byt : List (List Int32)} {k k' v v' : Nat → Nat} {A : Nat → Prop} {U : State} {H : Heap} (h : vk_S N len byt k v A U H) (e : ∀ i, i < N → k' i = k i ∧ v' i = v i) : vk_S N len byt k' v' A U H :=
  ⟨fun i hi => by rw [(e i hi).1, (e i hi).2]; exact h.1 i hi, fun i j hi hj => by rw [(e i hi).1, (e j hj).1]; exact h.2 i j hi hj⟩
theorem st_arr {A : Array Value} {s : State} {ty : FieldType} (h : (Cond.arrayClass ty).before A s = true) (hty : ∀ C, ty ≠ .object C) : ∃ cA, ArrOfT s cA ty ∧ va_RA s cA ty := by
  obtain ⟨c, k, comp, h1, h2, h3⟩ := Cond.arrayClass_spec h
  exact ⟨c, fun n z => ⟨(fun k h => by cases h), k, h2, comp, h3⟩, by cases ty <;> first | exact h1 | exact (hty _ rfl).elim⟩
def kA0 (a f k v : Nat → Nat) (t0 t1 t2 t3 : Nat) : Nat → Nat := fun q => if q < 1100 then a (q - 1000) else if q < 1200 then f (q - 1100) else if q < 1250 then k (q - 1200) else if q < 1300 then v (q - 1250) else if q = 1300 then t0 else if q = 1301 then t1 else if q = 1302 then t2 else t3
theorem kA0_a {a f k v : Nat → Nat} {t0 t1 t2 t3 i : Nat} (h : i < 9) : kA0 a f k v t0 t1 t2 t3 (1000 + i) = a i := by
  unfold kA0
  rw [if_pos (by omega), Nat.add_sub_cancel_left]
theorem kA0_f {a f k v : Nat → Nat} {t0 t1 t2 t3 i : Nat} (h : i < 4) : kA0 a f k v t0 t1 t2 t3 (1100 + i) = f i := by
  unfold kA0
  rw [if_neg (by omega), if_pos (by omega), Nat.add_sub_cancel_left]
theorem kA0_k {a f k v : Nat → Nat} {t0 t1 t2 t3 i : Nat} (h : i < 9) : kA0 a f k v t0 t1 t2 t3 (1200 + i) = k i := by
  unfold kA0
  rw [if_neg (by omega), if_neg (by omega), if_pos (by omega), Nat.add_sub_cancel_left]
theorem kA0_v {a f k v : Nat → Nat} {t0 t1 t2 t3 i : Nat} (h : i < 9) : kA0 a f k v t0 t1 t2 t3 (1250 + i) = v i := by
  unfold kA0
  rw [if_neg (by omega), if_neg (by omega), if_neg (by omega), if_pos (by omega), Nat.add_sub_cancel_left]
theorem st_K {A : Array Value} {s : State} (hts : ∀ w ∈ lw_tbl, w.before A s = true) (hs : ∀ w ∈ nw, w.before A s = true) : ∃ K : KT, va_K (kD K) wcl (ztys K) s ∧ Kon K s s.heap ∧ kz K = s.heap.size := by
  have hF : ∀ a : Nat, a < s.heap.size → ¬ s.heap.size ≤ a := fun a h => by omega
  have h0 : ∀ c : Nat, ∃ x : ClassId × (Nat → Nat), ∀ q, wcl[c]? = some q → u_Kn s q.1 q.2.1 q.2.2 x.1 x.2 := by
    intro c
    cases hq : wcl[c]? with
    | none => exact ⟨(0, fun _ => 0), fun q h => by cases h⟩
    | some q =>
      obtain ⟨cC, iS, h⟩ := u_known (ws := lw_tbl) hts (st_cl c q hq).1 (hts _ (st_cl c q hq).2)
      exact ⟨(cC, iS), fun q' h' => by cases h'; exact h⟩
  obtain ⟨D, hD⟩ := Classical.axiomOfChoice h0
  obtain ⟨c0, hc0⟩ := st_arr (hts (.arrayClass .int) (tl_1 65 (by decide +kernel))) (fun _ h => by cases h)
  obtain ⟨c1, hc1⟩ := st_arr (hts (.arrayClass .char) (tl_1 128 (by decide +kernel))) (fun _ h => by cases h)
  obtain ⟨c2, hc2⟩ := st_arr (hts (.arrayClass .long) (tl_10 183 (by decide +kernel))) (fun _ h => by cases h)
  obtain ⟨c3, hc3⟩ := st_arr (hts (.arrayClass .double) (tl_10 184 (by decide +kernel))) (fun _ h => by cases h)
  obtain ⟨c4, hc4⟩ := st_arr (hts (.arrayClass .byte) (tl_1 161 (by decide +kernel))) (fun _ h => by cases h)
  obtain ⟨ak, hak, hev⟩ := va_Enof2 (E := "SeriesArchive$Kind") (d := "LSeriesArchive$Kind;") (nm := zz_kinds) (F := [zz_ord]) (A := fun q => s.heap.size ≤ q) (fun i hi => hts _ (st_kl i hi)) (hts _ (tl_1 7 (by decide +kernel))) (fun i hi => hs _ (st_kx i hi)) (fun q hq i hi => by cases List.mem_singleton.mp hq; exact hs _ (st_ko i hi)) (fun i j hi hj hij => by
    rcases Nat.lt_or_gt_of_ne hij with h | h
    · exact (st_kd i hi j hj h).imp (hs _) (hs _)
    · exact (st_kd j hj i hi h).symm.imp (hs _) (hs _)) hF
  obtain ⟨af, haf, -⟩ := va_Enof2 (E := "SeriesArchive$Fault") (d := "LSeriesArchive$Fault;") (nm := zz_faults) (F := []) (A := fun q => s.heap.size ≤ q) (fun i hi => hts _ (st_fl i hi)) (hts _ (tl_1 22 (by decide +kernel))) (fun i hi => hs _ (st_fx i hi)) (fun q hq => absurd hq List.not_mem_nil) (fun i j hi hj hij => by
    rcases Nat.lt_or_gt_of_ne hij with h | h
    · exact (st_fd i hi j hj h).imp (hs _) (hs _)
    · exact (st_fd j hj i hi h).symm.imp (hs _) (hs _)) hF
  have hel : ∀ i, i < 9 → ∀ j, j < zz_shl.getD i 0 → (Cond.eq (.elem (.field (.string "SeriesArchive$Kind" (st_sh.getD i 0)) "java/lang/String" "value" "[B") (.int (Int32.ofNat j))) (.int ((zz_shb.getD i []).getD j 0))).before A s = true := fun i hi j hj => hs _ (st_se i hi j hj)
  have h2 : ∀ i, i < 9 → 2 ≤ zz_shl.getD i 0 := by decide
  obtain ⟨sk, sv, hS, hSe⟩ := vk_Sof (N := 9) (tm := fun i => .string "SeriesArchive$Kind" (st_sh.getD i 0)) (len := zz_shl) (byt := zz_shb) (A := fun q => s.heap.size ≤ q) (by decide) (fun i hi => hs _ (st_sx i hi)) (fun i hi => hs _ (st_sc i hi)) (fun i hi => hs _ (st_sa i hi)) (fun i hi => hs _ (st_sl i hi)) hel (fun i j hi hj hij => Or.inl (by
    obtain ⟨a, -, -, -, q1, -⟩ := Cond.exactly_spec (hs _ (st_sx i hi))
    obtain ⟨a', -, -, -, q2, -⟩ := Cond.exactly_spec (hs _ (st_sx j hj))
    refine st_ne q1 q2 (fun e => hij ?_)
    subst e
    have E := q1.trans q2.symm
    have b0 := (va_eqt (hel i hi 0 (by have := h2 i hi; omega))).symm.trans ((st_elem E).trans (va_eqt (hel j hj 0 (by have := h2 j hj; omega))))
    have b1 := (va_eqt (hel i hi 1 (by have := h2 i hi; omega))).symm.trans ((st_elem E).trans (va_eqt (hel j hj 1 (by have := h2 j hj; omega))))
    exact st_b i hi j hj (Value.int.inj (Option.some.inj b0)) (Value.int.inj (Option.some.inj b1)))) hF
  obtain ⟨t0, ht0, hT0⟩ := va_Tof (s := s) (args := A) (tm := .static "SeriesArchive$Kind" "ALL" "[LSeriesArchive$Kind;") (ty := .object "SeriesArchive$Kind") (N := 9) (f := fun j => .ref (ak j)) (A := fun q => s.heap.size ≤ q) (by decide) (hs _ (nw_in 344 (by decide +kernel))) (va_eqt (hs _ (nw_in 345 (by decide +kernel)))) (fun j hj => va_eqv (hs _ (st_al j hj)) (hev j hj)) hF
  obtain ⟨t1, ht1, hT1⟩ := va_Tof (s := s) (args := A) (tm := .static "SeriesArchive$1" "$SwitchMap$SeriesArchive$Kind" "[I") (ty := .int) (N := 9) (f := fun j => .int (zz_sw j)) (A := fun q => s.heap.size ≤ q) (by decide) (hs _ (nw_in 14 (by decide +kernel))) (va_eqt (hs _ (nw_in 15 (by decide +kernel)))) (fun j hj => va_eqt (hs _ (st_sw j hj))) hF
  obtain ⟨t2, ht2, hT2⟩ := va_Tof (s := s) (args := A) (tm := .static "java/lang/Integer" "DigitTens" "[B") (ty := .byte) (N := 100) (f := fun j => .int (sb_b (48 + j / 10))) (A := fun q => s.heap.size ≤ q) (by decide) (hs _ (nw_in 240 (by decide +kernel))) (va_eqt (hs _ (nw_in 241 (by decide +kernel)))) (fun j hj => va_eqt (hs _ (st_dt j hj))) hF
  obtain ⟨t3, ht3, hT3⟩ := va_Tof (s := s) (args := A) (tm := .static "java/lang/Integer" "DigitOnes" "[B") (ty := .byte) (N := 100) (f := fun j => .int (sb_b (48 + j % 10))) (A := fun q => s.heap.size ≤ q) (by decide) (hs _ (nw_in 137 (by decide +kernel))) (va_eqt (hs _ (nw_in 138 (by decide +kernel)))) (fun j hj => va_eqt (hs _ (st_do j hj))) hF
  refine ⟨((fun c => (D c).1, fun c => (D c).2), kA0 ak af sk sv t0 t1 t2 t3, fun i => ([c0, c1, c2, c3, c4] : List ClassId).getD i 0, s.heap.size), ⟨fun c q hq => hD c q hq, fun k q hq => ?_⟩, ⟨?_, ?_, ?_, ?_, ?_, ?_, ?_, ?_, ?_, ?_, ?_, ?_, ?_, ?_, ?_, ?_, ?_, ?_, ?_, ?_, ?_⟩, rfl⟩
  · have hk : k < 5 := (List.getElem?_eq_some_iff.mp hq).1
    have h9 : k = 0 ∨ k = 1 ∨ k = 2 ∨ k = 3 ∨ k = 4 := by omega
    rcases h9 with rfl | rfl | rfl | rfl | rfl
    · cases Option.some.inj hq; exact hc0
    · cases Option.some.inj hq; exact hc1
    · cases Option.some.inj hq; exact hc2
    · cases Option.some.inj hq; exact hc3
    · cases Option.some.inj hq; exact hc4
  · exact En_c hak (fun i hi => kA0_a hi)
  · exact En_c haf (fun i hi => kA0_f hi)
  · exact Ef_c (va_Efof hev (fun i hi => hs _ (st_ks i hi)) hSe hF) (fun i hi => ⟨kA0_a hi, congrArg Value.ref (kA0_k hi)⟩)
  · exact va_Zref (hts _ (tl_7 154 (by decide +kernel))) (hts _ (tl_1 7 (by decide +kernel))) ht0 hF
  · exact T_c hT0 (fun j hj => congrArg Value.ref (kA0_a hj))
  · exact va_Zref (hts _ (tl_3 17 (by decide +kernel))) (hts _ (tl_1 23 (by decide +kernel))) ht1 hF
  · exact hT1
  · exact S_c hS (fun i hi => ⟨kA0_k hi, kA0_v hi⟩)
  · intro q hq
    obtain ⟨a, -, -, -, q1, -⟩ := Cond.exactly_spec (hs _ (st_tx q hq).2)
    exact ⟨a, vk_R.of (hts _ (st_tx q hq).1) q1⟩
  · exact vx_Zqof (hts _ (tl_2 175 (by decide +kernel))) (hts _ (tl_1 17 (by decide +kernel))) (hs _ (nw_in 8 (by decide +kernel))) hF
  · exact vx_Zqof (hts _ (tl_2 177 (by decide +kernel))) (hts _ (tl_1 17 (by decide +kernel))) (hs _ (nw_in 9 (by decide +kernel))) hF
  · exact fun q hq => va_Nw.of rfl (hts _ (st_nf q hq))
  · exact fun q hq => va_Nw.of rfl (hts _ (st_nm q hq))
  · exact va_Zof (hts _ (tl_1 139 (by decide +kernel))) (hts _ (tl_1 10 (by decide +kernel))) (va_eqt (hs _ (nw_in 7 (by decide +kernel)))) hF
  · exact va_Zref (hts _ (tl_6 201 (by decide +kernel))) (hts _ (tl_1 37 (by decide +kernel))) ht2 hF
  · exact hT2
  · exact va_Zref (hts _ (tl_6 199 (by decide +kernel))) (hts _ (tl_1 37 (by decide +kernel))) ht3 hF
  · exact hT3
  · exact fun i hi j hj hij => va_Nc.of (hs _ (st_nc i hi j hj hij))
  · exact va_Zqof (hts _ (tl_6 129 (by decide +kernel))) (hts _ (tl_1 34 (by decide +kernel))) (hs _ (nw_in 132 (by decide +kernel))) hF
  · exact fun w hw => va_Nw.of (st_nw (List.mem_filter.mp hw).2) (hts _ (List.mem_filter.mp hw).1)
