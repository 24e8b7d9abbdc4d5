section CORE5
variable {α β : Type} {l : Launch} {K : KT} {d nL mc ms : Nat} {rv : α → Option Value} {X : XT} {cc : ByteArray} {own : String} {ret : Option FieldType} {hh : List (Nat × Nat × Nat × Nat)} {L : zz_L}
variable {x : Rs α} {cells slots : Nat} {M : Mm} {pc : Nat} {lc : List (Nat × Value)} {st rest : List Value}
theorem VV_lc (lc' : List (Nat × Value)) (h : lc = lc') (k : VV l K d nL mc ms rv X x cells slots M pc lc' st) : VV l K d nL mc ms rv X x cells slots M pc lc st := h ▸ k
theorem ia5 {k : Nat} (h : isSer k) : isIA (k + 5) := by
  have h1 := ia_ser h
  intro h2
  rw [h2] at h1
  cases h1
abbrev zz_n64 (r : UInt64) : Prop := r &&& 0x7fffffffffffffff ≤ 0x7ff0000000000000
abbrev zz_n32 (r : UInt32) : Prop := r &&& 0x7fffffff ≤ 0x7f800000
theorem zz_lt (i : Nat) {w : Cond} (h : lw_tbl[i]? = some w) (hg : goodWord w = true) : w ∈ zz_good := zz_in (List.mem_of_getElem? h) hg
theorem zz_lk3 {a : Int32} (h1 : a.toInt ≠ 68) (h2 : a.toInt ≠ 73) (h3 : a.toInt ≠ 78) : Op.lookupswitch.offset (#[(68, 35), (73, 41), (78, 48)] : Array (Int × Int)).toList 76 a.toInt = 76 := by
  simp [Op.lookupswitch.offset, h1.symm, h2.symm, h3.symm]
def zz_slen (i : Nat) : Int32 := nI (zz_shl.getD i 0)
def zz_sch (i j : Nat) : Int32 := (zz_shb.getD i []).getD j 0
theorem zz_m1 {w : Cond} (h : w ∈ tables_1_1) : w ∈ tables_1 := List.mem_append_left _ h
theorem zz_c1 (i : Nat) {w : Cond} (h : tables_1_1[i]? = some w) (hg : goodWord w = true) : w ∈ zz_good := zz_in (List.mem_append_right _ (zz_m1 (List.mem_of_getElem? h))) hg
theorem zz_m2 {w : Cond} (h : w ∈ tables_1_2) : w ∈ tables_1 := List.mem_append_right _ (List.mem_append_left _ h)
theorem zz_c2 (i : Nat) {w : Cond} (h : tables_1_2[i]? = some w) (hg : goodWord w = true) : w ∈ zz_good := zz_in (List.mem_append_right _ (zz_m2 (List.mem_of_getElem? h))) hg
theorem zz_m3 {w : Cond} (h : w ∈ tables_1_3) : w ∈ tables_1 := List.mem_append_right _ (List.mem_append_right _ (List.mem_append_left _ h))
theorem zz_c3 (i : Nat) {w : Cond} (h : tables_1_3[i]? = some w) (hg : goodWord w = true) : w ∈ zz_good := zz_in (List.mem_append_right _ (zz_m3 (List.mem_of_getElem? h))) hg
theorem zz_m4 {w : Cond} (h : w ∈ tables_1_4) : w ∈ tables_1 := List.mem_append_right _ (List.mem_append_right _ (List.mem_append_right _ (List.mem_append_left _ h)))
theorem zz_c4 (i : Nat) {w : Cond} (h : tables_1_4[i]? = some w) (hg : goodWord w = true) : w ∈ zz_good := zz_in (List.mem_append_right _ (zz_m4 (List.mem_of_getElem? h))) hg
theorem zz_m5 {w : Cond} (h : w ∈ tables_1_5) : w ∈ tables_1 := List.mem_append_right _ (List.mem_append_right _ (List.mem_append_right _ (List.mem_append_right _ (List.mem_append_left _ h))))
theorem zz_c5 (i : Nat) {w : Cond} (h : tables_1_5[i]? = some w) (hg : goodWord w = true) : w ∈ zz_good := zz_in (List.mem_append_right _ (zz_m5 (List.mem_of_getElem? h))) hg
theorem zz_m6 {w : Cond} (h : w ∈ tables_1_6) : w ∈ tables_1 := List.mem_append_right _ (List.mem_append_right _ (List.mem_append_right _ (List.mem_append_right _ (List.mem_append_right _ (List.mem_append_left _ h)))))
theorem zz_c6 (i : Nat) {w : Cond} (h : tables_1_6[i]? = some w) (hg : goodWord w = true) : w ∈ zz_good := zz_in (List.mem_append_right _ (zz_m6 (List.mem_of_getElem? h))) hg
theorem zz_m7 {w : Cond} (h : w ∈ tables_1_7) : w ∈ tables_1 := List.mem_append_right _ (List.mem_append_right _ (List.mem_append_right _ (List.mem_append_right _ (List.mem_append_right _ (List.mem_append_right _ (List.mem_append_left _ h))))))
theorem zz_c7 (i : Nat) {w : Cond} (h : tables_1_7[i]? = some w) (hg : goodWord w = true) : w ∈ zz_good := zz_in (List.mem_append_right _ (zz_m7 (List.mem_of_getElem? h))) hg
theorem zz_m8 {w : Cond} (h : w ∈ tables_1_8) : w ∈ tables_1 := List.mem_append_right _ (List.mem_append_right _ (List.mem_append_right _ (List.mem_append_right _ (List.mem_append_right _ (List.mem_append_right _ (List.mem_append_right _ (List.mem_append_left _ h)))))))
theorem zz_c8 (i : Nat) {w : Cond} (h : tables_1_8[i]? = some w) (hg : goodWord w = true) : w ∈ zz_good := zz_in (List.mem_append_right _ (zz_m8 (List.mem_of_getElem? h))) hg
theorem zz_m9 {w : Cond} (h : w ∈ tables_1_9) : w ∈ tables_1 := List.mem_append_right _ (List.mem_append_right _ (List.mem_append_right _ (List.mem_append_right _ (List.mem_append_right _ (List.mem_append_right _ (List.mem_append_right _ (List.mem_append_right _ (List.mem_append_left _ h))))))))
theorem zz_c9 (i : Nat) {w : Cond} (h : tables_1_9[i]? = some w) (hg : goodWord w = true) : w ∈ zz_good := zz_in (List.mem_append_right _ (zz_m9 (List.mem_of_getElem? h))) hg
theorem zz_m10 {w : Cond} (h : w ∈ tables_1_10) : w ∈ tables_1 := List.mem_append_right _ (List.mem_append_right _ (List.mem_append_right _ (List.mem_append_right _ (List.mem_append_right _ (List.mem_append_right _ (List.mem_append_right _ (List.mem_append_right _ (List.mem_append_right _ (h)))))))))
theorem zz_c10 (i : Nat) {w : Cond} (h : tables_1_10[i]? = some w) (hg : goodWord w = true) : w ∈ zz_good := zz_in (List.mem_append_right _ (zz_m10 (List.mem_of_getElem? h))) hg
theorem zz_pm1 {q : MethodName × Nat} (h : q ∈ lw_privs_1) : q ∈ lw_privs := List.mem_append_left _ h
theorem zz_p1 (i : Nat) {y : MethodName} {n : Nat} (h : lw_privs_1[i]? = some (y, n)) (hg : goodWord (Cond.selects y.cls y y) = true) : Cond.selects y.cls y y ∈ zz_good := zz_in (List.mem_append_left _ (List.mem_map.mpr ⟨_, zz_pm1 (List.mem_of_getElem? h), rfl⟩)) hg
theorem zz_pm2 {q : MethodName × Nat} (h : q ∈ lw_privs_2) : q ∈ lw_privs := List.mem_append_right _ (List.mem_append_left _ h)
theorem zz_p2 (i : Nat) {y : MethodName} {n : Nat} (h : lw_privs_2[i]? = some (y, n)) (hg : goodWord (Cond.selects y.cls y y) = true) : Cond.selects y.cls y y ∈ zz_good := zz_in (List.mem_append_left _ (List.mem_map.mpr ⟨_, zz_pm2 (List.mem_of_getElem? h), rfl⟩)) hg
theorem zz_pm3 {q : MethodName × Nat} (h : q ∈ lw_privs_3) : q ∈ lw_privs := List.mem_append_right _ (List.mem_append_right _ (List.mem_append_left _ h))
theorem zz_p3 (i : Nat) {y : MethodName} {n : Nat} (h : lw_privs_3[i]? = some (y, n)) (hg : goodWord (Cond.selects y.cls y y) = true) : Cond.selects y.cls y y ∈ zz_good := zz_in (List.mem_append_left _ (List.mem_map.mpr ⟨_, zz_pm3 (List.mem_of_getElem? h), rfl⟩)) hg
theorem zz_pm4 {q : MethodName × Nat} (h : q ∈ lw_privs_4) : q ∈ lw_privs := List.mem_append_right _ (List.mem_append_right _ (List.mem_append_right _ (List.mem_append_left _ h)))
theorem zz_p4 (i : Nat) {y : MethodName} {n : Nat} (h : lw_privs_4[i]? = some (y, n)) (hg : goodWord (Cond.selects y.cls y y) = true) : Cond.selects y.cls y y ∈ zz_good := zz_in (List.mem_append_left _ (List.mem_map.mpr ⟨_, zz_pm4 (List.mem_of_getElem? h), rfl⟩)) hg
theorem zz_pm5 {q : MethodName × Nat} (h : q ∈ lw_privs_5) : q ∈ lw_privs := List.mem_append_right _ (List.mem_append_right _ (List.mem_append_right _ (List.mem_append_right _ (List.mem_append_left _ h))))
theorem zz_p5 (i : Nat) {y : MethodName} {n : Nat} (h : lw_privs_5[i]? = some (y, n)) (hg : goodWord (Cond.selects y.cls y y) = true) : Cond.selects y.cls y y ∈ zz_good := zz_in (List.mem_append_left _ (List.mem_map.mpr ⟨_, zz_pm5 (List.mem_of_getElem? h), rfl⟩)) hg
theorem zz_pm6 {q : MethodName × Nat} (h : q ∈ lw_privs_6) : q ∈ lw_privs := List.mem_append_right _ (List.mem_append_right _ (List.mem_append_right _ (List.mem_append_right _ (List.mem_append_right _ (List.mem_append_left _ h)))))
theorem zz_p6 (i : Nat) {y : MethodName} {n : Nat} (h : lw_privs_6[i]? = some (y, n)) (hg : goodWord (Cond.selects y.cls y y) = true) : Cond.selects y.cls y y ∈ zz_good := zz_in (List.mem_append_left _ (List.mem_map.mpr ⟨_, zz_pm6 (List.mem_of_getElem? h), rfl⟩)) hg
theorem zz_pm7 {q : MethodName × Nat} (h : q ∈ lw_privs_7) : q ∈ lw_privs := List.mem_append_right _ (List.mem_append_right _ (List.mem_append_right _ (List.mem_append_right _ (List.mem_append_right _ (List.mem_append_right _ (h))))))
theorem zz_p7 (i : Nat) {y : MethodName} {n : Nat} (h : lw_privs_7[i]? = some (y, n)) (hg : goodWord (Cond.selects y.cls y y) = true) : Cond.selects y.cls y y ∈ zz_good := zz_in (List.mem_append_left _ (List.mem_map.mpr ⟨_, zz_pm7 (List.mem_of_getElem? h), rfl⟩)) hg
def zz_chk (L : List Cond) (l : List (Nat × Cond)) : Bool := l.all (fun q => decide (L[q.1]? = some q.2) && goodWord q.2)
theorem zz_bk {L : List Cond} {l : List (Nat × Cond)} (h : zz_chk L l = true) (hm : ∀ w ∈ L, w ∈ lw_tbl) (k : Nat) {i : Nat} {w : Cond} (hk : l[k]? = some (i, w)) : w ∈ zz_good := by
  have h1 := List.all_eq_true.mp h _ (List.mem_of_getElem? hk)
  simp only [Bool.and_eq_true, decide_eq_true_eq] at h1
  exact zz_in (hm _ (List.mem_of_getElem? h1.1)) h1.2
theorem zz_h1 : ∀ w ∈ tables_1_1, w ∈ lw_tbl := fun w h => List.mem_append_right _ (zz_m1 h)
theorem zz_h2 : ∀ w ∈ tables_1_2, w ∈ lw_tbl := fun w h => List.mem_append_right _ (zz_m2 h)
theorem zz_h3 : ∀ w ∈ tables_1_3, w ∈ lw_tbl := fun w h => List.mem_append_right _ (zz_m3 h)
theorem zz_h4 : ∀ w ∈ tables_1_4, w ∈ lw_tbl := fun w h => List.mem_append_right _ (zz_m4 h)
theorem zz_h5 : ∀ w ∈ tables_1_5, w ∈ lw_tbl := fun w h => List.mem_append_right _ (zz_m5 h)
theorem zz_h6 : ∀ w ∈ tables_1_6, w ∈ lw_tbl := fun w h => List.mem_append_right _ (zz_m6 h)
theorem zz_h7 : ∀ w ∈ tables_1_7, w ∈ lw_tbl := fun w h => List.mem_append_right _ (zz_m7 h)
theorem zz_h8 : ∀ w ∈ tables_1_8, w ∈ lw_tbl := fun w h => List.mem_append_right _ (zz_m8 h)
theorem zz_h9 : ∀ w ∈ tables_1_9, w ∈ lw_tbl := fun w h => List.mem_append_right _ (zz_m9 h)
theorem zz_h10 : ∀ w ∈ tables_1_10, w ∈ lw_tbl := fun w h => List.mem_append_right _ (zz_m10 h)
def zz_chx (L : List Cond) (l : List (Nat × Cond)) : Bool := l.all (fun q => decide (L[q.1]? = some q.2))
theorem zz_bx {L : List Cond} {l : List (Nat × Cond)} (h : zz_chx L l = true) (hm : ∀ w ∈ L, w ∈ lw_tbl) : ∀ w ∈ l.map (·.2), w ∈ lw_tbl := by
  intro w hw
  obtain ⟨q, hq, rfl⟩ := List.mem_map.mp hw
  have h1 := of_decide_eq_true (List.all_eq_true.mp h q hq)
  exact hm _ (List.mem_of_getElem? h1)
theorem zz_ap {A B : List Cond} (h1 : ∀ w ∈ A, w ∈ lw_tbl) (h2 : ∀ w ∈ B, w ∈ lw_tbl) : ∀ w ∈ A ++ B, w ∈ lw_tbl := fun w h => (List.mem_append.mp h).elim (h1 w) (h2 w)
end CORE5
