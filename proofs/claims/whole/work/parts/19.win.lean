/-! decoding by a window of bytes -/
section WIN
variable {A B : ByteArray} {off : Nat}
def Rl {α : Type} (A B : ByteArray) (off : Nat) (r1 r2 : Decoder α) : Prop := ∀ q v q', r2.runAt B q = .ok (v, q') → r1.runAt A (off + q) = .ok (v, off + q')
def Ag (A B : ByteArray) (off : Nat) : Prop := ∀ j (h : j < B.size), ∃ h1 : off + j < A.size, A[off + j] = B[j]
theorem run_bind {α β : Type} (r : Decoder α) (f : α → Decoder β) (C : ByteArray) (q : Nat) : (r >>= f).runAt C q = (match r.runAt C q with | .ok (x, q1) => (f x).runAt C q1 | .error e => .error e) := by
  show (do let z ← r.runAt C q; (f z.1).runAt C z.2) = _
  cases r.runAt C q <;> rfl
theorem rl_bind {α β : Type} {r1 r2 : Decoder α} {f1 f2 : α → Decoder β} (h : Rl A B off r1 r2) (hf : ∀ x, Rl A B off (f1 x) (f2 x)) : Rl A B off (r1 >>= f1) (r2 >>= f2) := by
  intro q v q' h9
  rw [run_bind] at h9
  rw [run_bind]
  cases hr : r2.runAt B q with
  | error e => rw [hr] at h9; cases h9
  | ok z =>
    obtain ⟨x, q1⟩ := z
    rw [hr] at h9
    rw [h q x q1 hr]
    exact hf x q1 v q' h9
theorem rl_pure {α : Type} (x : α) : Rl A B off (pure x : Decoder α) (pure x) := by
  intro q v q' h
  cases h
  rfl
theorem rl_thr {α : Type} (e1 e2 : DecodeError) : Rl A B off (throw e1 : Decoder α) (throw e2) := by
  intro q v q' h
  cases h
theorem rl_map {α β : Type} {r1 r2 : Decoder α} (f : α → β) (h : Rl A B off r1 r2) : Rl A B off (f <$> r1) (f <$> r2) := by
  rw [map_eq_pure_bind, map_eq_pure_bind]
  exact rl_bind h (fun x => rl_pure _)
theorem rl_u1 (hA : Ag A B off) : Rl A B off (Reader.u1 : Decoder Nat) Reader.u1 := by
  intro q v q' h
  have e : ∀ (C : ByteArray) (p : Nat), (Reader.u1 : Decoder Nat).runAt C p = (if h : p < C.size then .ok (C[p].toNat, p + 1) else .error (.truncated p)) := by
    intro C p
    unfold Reader.u1
    by_cases hp : p < C.size
    · rw [dif_pos hp]
      show ((if h : p < C.size then (do set (p + 1); pure C[p].toNat : Decoder Nat) else throw (HasTruncated.truncated p) : Decoder Nat).runAt C p) = _
      rw [dif_pos hp]
      rfl
    · rw [dif_neg hp]
      show ((if h : p < C.size then (do set (p + 1); pure C[p].toNat : Decoder Nat) else throw (HasTruncated.truncated p) : Decoder Nat).runAt C p) = _
      rw [dif_neg hp]
      rfl
  rw [e] at h
  by_cases hp : q < B.size
  · rw [dif_pos hp] at h
    cases h
    obtain ⟨h1, h2⟩ := hA q hp
    rw [e, dif_pos h1, h2]
    rfl
  · rw [dif_neg hp] at h
    cases h
theorem rl_u2 (hA : Ag A B off) : Rl A B off (Reader.u2 : Decoder Nat) Reader.u2 := rl_bind (rl_u1 hA) (fun _ => rl_bind (rl_u1 hA) (fun _ => rl_pure _))
theorem rl_u4 (hA : Ag A B off) : Rl A B off (Reader.u4 : Decoder Nat) Reader.u4 := rl_bind (rl_u2 hA) (fun _ => rl_bind (rl_u2 hA) (fun _ => rl_pure _))
theorem rl_s1 (hA : Ag A B off) : Rl A B off (Reader.s1 : Decoder Int) Reader.s1 := rl_map _ (rl_u1 hA)
theorem rl_s2 (hA : Ag A B off) : Rl A B off (Reader.s2 : Decoder Int) Reader.s2 := rl_map _ (rl_u2 hA)
theorem rl_s4 (hA : Ag A B off) : Rl A B off (Reader.s4 : Decoder Int) Reader.s4 := rl_map _ (rl_u4 hA)
theorem rl_go {α : Type} {r1 r2 : Decoder α} (h : Rl A B off r1 r2) : ∀ (n : Nat) (acc : Array α), Rl A B off (Reader.times.go r1 n acc) (Reader.times.go r2 n acc)
  | 0, acc => rl_pure acc
  | n + 1, acc => rl_bind h (fun _ => rl_go h n _)
theorem rl_times {α : Type} {r1 r2 : Decoder α} (h : Rl A B off r1 r2) (n : Nat) : Rl A B off (Reader.times n r1) (Reader.times n r2) := rl_go h n #[]
theorem rl_pad (h4 : off % 4 = 0) (hz : off + B.size ≤ A.size) : Rl A B off Decoder.padding Decoder.padding := by
  have eb : ∀ (C : ByteArray) (p n : Nat), (Reader.bytes n : Decoder ByteArray).runAt C p = (if p + n ≤ C.size then .ok (C.extract p (p + n), p + n) else .error (.truncated C.size)) := by
    intro C p n
    unfold Reader.bytes
    by_cases hp : p + n ≤ C.size
    · rw [if_pos hp]
      show ((if p + n ≤ C.size then (do set (p + n); pure (C.extract p (p + n)) : Decoder ByteArray) else throw (HasTruncated.truncated C.size) : Decoder ByteArray).runAt C p) = _
      rw [if_pos hp]
      rfl
    · rw [if_neg hp]
      show ((if p + n ≤ C.size then (do set (p + n); pure (C.extract p (p + n)) : Decoder ByteArray) else throw (HasTruncated.truncated C.size) : Decoder ByteArray).runAt C p) = _
      rw [if_neg hp]
      rfl
  have e : ∀ (C : ByteArray) (p : Nat), Decoder.padding.runAt C p = (if p + (4 - p % 4) % 4 ≤ C.size then .ok ((), p + (4 - p % 4) % 4) else .error (.truncated C.size)) := by
    intro C p
    show ((Reader.bytes ((4 - p % 4) % 4) : Decoder ByteArray) >>= fun _ => (Pure.pure () : Decoder Unit)).runAt C p = _
    rw [run_bind, eb]
    by_cases hp : p + (4 - p % 4) % 4 ≤ C.size
    · rw [if_pos hp, if_pos hp]
      rfl
    · rw [if_neg hp, if_neg hp]
  intro q v q' h
  rw [e] at h
  have h5 : (off + q) % 4 = q % 4 := by omega
  by_cases hp : q + (4 - q % 4) % 4 ≤ B.size
  · rw [if_pos hp] at h
    cases h
    rw [e, h5, if_pos (by omega), Nat.add_assoc]
  · rw [if_neg hp] at h
    cases h
theorem rl_ite {α : Type} {c : Prop} {dc : Decidable c} {a1 a2 b1 b2 : Decoder α} (ha : Rl A B off a1 a2) (hb : Rl A B off b1 b2) : Rl A B off (@ite _ c dc a1 b1) (@ite _ c dc a2 b2) := by
  by_cases h : c
  · rw [if_pos h, if_pos h]; exact ha
  · rw [if_neg h, if_neg h]; exact hb
theorem rl_table (hA : Ag A B off) (h4 : off % 4 = 0) (hz : off + B.size ≤ A.size) (p1 p2 : Nat) : Rl A B off (Decoder.tableswitch p1) (Decoder.tableswitch p2) := by
  unfold Decoder.tableswitch
  refine rl_bind (rl_pad h4 hz) (fun _ => rl_bind (rl_s4 hA) (fun _ => rl_bind (rl_s4 hA) (fun _ => rl_bind (rl_s4 hA) (fun _ => ?_))))
  first
    | exact rl_bind (rl_ite (rl_pure _) (rl_thr _ _)) (fun _ => rl_bind (rl_times (rl_s4 hA) _) (fun _ => rl_pure _))
    | exact rl_ite (rl_bind (rl_pure _) (fun _ => rl_bind (rl_times (rl_s4 hA) _) (fun _ => rl_pure _))) (rl_bind (rl_thr _ _) (fun _ => rl_bind (rl_times (rl_s4 hA) _) (fun _ => rl_pure _)))
    | exact rl_ite (rl_bind (rl_times (rl_s4 hA) _) (fun _ => rl_pure _)) (rl_bind (rl_thr _ _) (fun _ => rl_bind (rl_times (rl_s4 hA) _) (fun _ => rl_pure _)))
theorem rl_lookup (hA : Ag A B off) (h4 : off % 4 = 0) (hz : off + B.size ≤ A.size) (p1 p2 : Nat) : Rl A B off (Decoder.lookupswitch p1) (Decoder.lookupswitch p2) := by
  unfold Decoder.lookupswitch
  refine rl_bind (rl_pad h4 hz) (fun _ => rl_bind (rl_s4 hA) (fun _ => rl_bind (rl_s4 hA) (fun _ => ?_)))
  exact rl_ite (rl_bind (rl_times (rl_bind (rl_s4 hA) (fun _ => rl_bind (rl_s4 hA) (fun _ => rl_pure _))) _) (fun _ => rl_ite (rl_pure _) (rl_bind (rl_thr _ _) (fun _ => rl_pure _)))) (rl_bind (rl_thr _ _) (fun _ => rl_bind (rl_times (rl_bind (rl_s4 hA) (fun _ => rl_bind (rl_s4 hA) (fun _ => rl_pure _))) _) (fun _ => rl_ite (rl_pure _) (rl_bind (rl_thr _ _) (fun _ => rl_pure _)))))
theorem rl_if (hA : Ag A B off) (p1 p2 : Nat) : Rl A B off (Decoder.invokeinterface p1) (Decoder.invokeinterface p2) := by
  unfold Decoder.invokeinterface
  exact rl_bind (rl_u2 hA) (fun _ => rl_bind (rl_u1 hA) (fun _ => rl_bind (rl_u1 hA) (fun _ => rl_ite (rl_pure _) (rl_bind (rl_thr _ _) (fun _ => rl_pure _)))))
theorem rl_id (hA : Ag A B off) (p1 p2 : Nat) : Rl A B off (Decoder.invokedynamic p1) (Decoder.invokedynamic p2) := by
  unfold Decoder.invokedynamic
  exact rl_bind (rl_u2 hA) (fun _ => rl_bind (rl_u2 hA) (fun _ => rl_ite (rl_pure _) (rl_bind (rl_thr _ _) (fun _ => rl_pure _))))
theorem rl_na (hA : Ag A B off) (p1 p2 : Nat) : Rl A B off (Decoder.newarray p1) (Decoder.newarray p2) := by
  unfold Decoder.newarray
  refine rl_bind (rl_u1 hA) (fun _ => ?_)
  split <;> first | exact rl_pure _ | exact rl_thr _ _
theorem rl_mu (hA : Ag A B off) (p1 p2 : Nat) : Rl A B off (Decoder.multianewarray p1) (Decoder.multianewarray p2) := by
  unfold Decoder.multianewarray
  exact rl_bind (rl_u2 hA) (fun _ => rl_bind (rl_u1 hA) (fun _ => rl_ite (rl_pure _) (rl_bind (rl_thr _ _) (fun _ => rl_pure _))))
theorem rl_wide (hA : Ag A B off) (p1 p2 : Nat) : Rl A B off (Decoder.wide p1) (Decoder.wide p2) := by
  unfold Decoder.wide
  refine rl_bind (rl_u1 hA) (fun _ => ?_)
  split <;> first | exact rl_bind (rl_u2 hA) (fun _ => rl_pure _) | exact rl_thr _ _ | exact rl_bind (rl_u2 hA) (fun _ => rl_bind (rl_s2 hA) (fun _ => rl_pure _))
set_option maxHeartbeats 4000000 in
set_option maxRecDepth 4000 in
theorem rl_instr (hA : Ag A B off) (h4 : off % 4 = 0) (hz : off + B.size ≤ A.size) (p1 p2 : Nat) : Rl A B off (Decoder.instr p1) (Decoder.instr p2) := by
  unfold Decoder.instr
  refine rl_bind (rl_u1 hA) (fun op => ?_)
  split <;> first
    | exact rl_pure _
    | exact rl_thr _ _
    | exact rl_bind (rl_u1 hA) (fun _ => rl_pure _)
    | exact rl_bind (rl_u2 hA) (fun _ => rl_pure _)
    | exact rl_bind (rl_s1 hA) (fun _ => rl_pure _)
    | exact rl_bind (rl_s2 hA) (fun _ => rl_pure _)
    | exact rl_bind (rl_s4 hA) (fun _ => rl_pure _)
    | exact rl_bind (rl_u1 hA) (fun _ => rl_bind (rl_s1 hA) (fun _ => rl_pure _))
    | exact rl_table hA h4 hz _ _
    | exact rl_lookup hA h4 hz _ _
    | exact rl_if hA _ _
    | exact rl_id hA _ _
    | exact rl_na hA _ _
    | exact rl_mu hA _ _
    | exact rl_wide hA _ _
theorem dec_win (hA : Ag A B off) (h4 : off % 4 = 0) (hz : off + B.size ≤ A.size) {q n pc : Nat} {i : Instr} (hp : off + q = pc) (h : decode B q = .ok (i, n)) : decode A pc = .ok (i, n) := by
  subst hp
  have e : ∀ (C : ByteArray) (p : Nat), decode C p = (match (Decoder.instr p).runAt C p with | .ok (x, q1) => .ok (x, q1 - p) | .error e => .error e) := by
    intro C p
    show (do let z ← (Decoder.instr p).runAt C p; pure (z.1, z.2 - p)) = _
    cases (Decoder.instr p).runAt C p <;> rfl
  rw [e] at h
  rw [e]
  cases hr : (Decoder.instr q).runAt B q with
  | error e => rw [hr] at h; cases h
  | ok z =>
    obtain ⟨x, q1⟩ := z
    rw [hr] at h
    rw [rl_instr hA h4 hz (off + q) q q x q1 hr]
    cases h
    show Except.ok (_, off + q1 - (off + q)) = _
    rw [Nat.add_sub_add_left]
end WIN
theorem ag_of {A B : ByteArray} {off : Nat} (h : (A.data.toList.drop off).take B.data.toList.length = B.data.toList) : Ag A B off ∧ off + B.size ≤ A.size ∨ B.size = 0 := by
  by_cases hz : B.size = 0
  · exact Or.inr hz
  have hB : B.data.toList.length = B.size := rfl
  have hA : A.data.toList.length = A.size := rfl
  have hl := congrArg List.length h
  rw [List.length_take, List.length_drop] at hl
  have hs : off + B.size ≤ A.size := by omega
  refine Or.inl ⟨fun j hj => ⟨by omega, ?_⟩, hs⟩
  have e1 : (A.data.toList)[off + j]? = (B.data.toList)[j]? := by
    rw [← h, List.getElem?_take, if_pos (by omega), List.getElem?_drop]
  rw [List.getElem?_eq_getElem (by omega), List.getElem?_eq_getElem (by omega)] at e1
  exact Option.some.inj e1
/-- a list of instructions, decoded by a window -/
theorem win_all {A B : ByteArray} {off : Nat} {L : zz_L} (h4 : off % 4 = 0) (h : (A.data.toList.drop off).take B.data.toList.length = B.data.toList) (hd : L.all (fun q => decide (off ≤ q.1) && decide (decode B (q.1 - off) = .ok (q.2.1, q.2.2))) = true) (hz : 0 < B.size) : zz_decAll A L = true := by
  rcases ag_of h with ⟨hA, hs⟩ | h0
  · refine List.all_eq_true.mpr (fun q hq => ?_)
    have h1 := List.all_eq_true.mp hd q hq
    simp only [Bool.and_eq_true, decide_eq_true_eq] at h1
    exact decide_eq_true (dec_win hA h4 hs (by omega) h1.2)
  · omega
