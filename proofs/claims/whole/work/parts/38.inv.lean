/-! INVERSIONS -/
def segN (g : Int → Int) : Nat → Int → List Int
  | 0, _ => []
  | k + 1, i => g i :: segN g k (i + 1)
def seg (g : Int → Int) (i j : Int) : List Int := segN g (j - i).toNat i
theorem seg_nil {g : Int → Int} {i j : Int} (h : j ≤ i) : seg g i j = [] := by
  unfold seg
  rw [show (j - i).toNat = 0 by omega]
  rfl
theorem seg_cons {g : Int → Int} {i j : Int} (h : i < j) : seg g i j = g i :: seg g (i + 1) j := by
  unfold seg
  rw [show (j - i).toNat = (j - (i + 1)).toNat + 1 by omega]
  rfl
theorem seg_appN {g : Int → Int} {m j : Int} : ∀ (k : Nat) (i : Int), k = (m - i).toNat → i ≤ m → m ≤ j → seg g i j = seg g i m ++ seg g m j := by
  intro k
  induction k with
  | zero =>
    intro i hk h1 h2
    rw [show i = m by omega, seg_nil (i := m) (j := m) (by omega)]
    rfl
  | succ k ih =>
    intro i hk h1 h2
    rw [seg_cons (i := i) (j := j) (by omega), seg_cons (i := i) (j := m) (by omega), ih (i + 1) (by omega) (by omega) h2]
    rfl
theorem seg_app {g : Int → Int} {i m j : Int} (h1 : i ≤ m) (h2 : m ≤ j) : seg g i j = seg g i m ++ seg g m j := seg_appN _ i rfl h1 h2
theorem seg_congrN {g h : Int → Int} {j : Int} : ∀ (k : Nat) (i : Int), k = (j - i).toNat → (∀ x, i ≤ x → x < j → g x = h x) → seg g i j = seg h i j := by
  intro k
  induction k with
  | zero => intro i hk _; rw [seg_nil (by omega), seg_nil (by omega)]
  | succ k ih =>
    intro i hk he
    rw [seg_cons (g := g) (by omega), seg_cons (g := h) (by omega), he i (by omega) (by omega), ih (i + 1) (by omega) (fun x h1 h2 => he x (by omega) h2)]
theorem seg_congr {g h : Int → Int} {i j : Int} (he : ∀ x, i ≤ x → x < j → g x = h x) : seg g i j = seg h i j := seg_congrN _ i rfl he
theorem seg_lenN {g : Int → Int} {j : Int} : ∀ (k : Nat) (i : Int), k = (j - i).toNat → ((seg g i j).length : Int) = max (j - i) 0 := by
  intro k
  induction k with
  | zero => intro i hk; rw [seg_nil (by omega), List.length_nil]; omega
  | succ k ih => intro i hk; rw [seg_cons (by omega), List.length_cons]; have := ih (i + 1) (by omega); omega
theorem seg_len {g : Int → Int} {i j : Int} (h : i ≤ j) : ((seg g i j).length : Int) = j - i := by
  rw [seg_lenN _ i rfl]
  omega
/-- how many of L are below x -/
def lct (x : Int) : List Int → Int
  | [] => 0
  | y :: L => (if y < x then 1 else 0) + lct x L
/-- how many of L are above x -/
def lgt (x : Int) : List Int → Int
  | [] => 0
  | y :: L => (if x < y then 1 else 0) + lgt x L
/-- pairs of one of A and a smaller one of B -/
def lcr : List Int → List Int → Int
  | [], _ => 0
  | x :: A, B => lct x B + lcr A B
def linv : List Int → Int
  | [] => 0
  | x :: A => lct x A + linv A
theorem lct_app (x : Int) (A B : List Int) : lct x (A ++ B) = lct x A + lct x B := by
  induction A with
  | nil => show lct x B = 0 + lct x B; omega
  | cons y A ih => show (if y < x then 1 else 0) + lct x (A ++ B) = (if y < x then 1 else 0) + lct x A + lct x B; rw [ih]; omega
theorem lcr_nil (A : List Int) : lcr A [] = 0 := by
  induction A with
  | nil => rfl
  | cons x A ih => show 0 + lcr A [] = 0; omega
theorem lcr_consR (A B : List Int) (y : Int) : lcr A (y :: B) = lgt y A + lcr A B := by
  induction A with
  | nil => rfl
  | cons x A ih =>
    show (if y < x then 1 else 0) + lct x B + lcr A (y :: B) = (if y < x then 1 else 0) + lgt y A + (lct x B + lcr A B)
    rw [ih]
    omega
theorem linv_app (A B : List Int) : linv (A ++ B) = linv A + linv B + lcr A B := by
  induction A with
  | nil => show linv B = 0 + linv B + 0; omega
  | cons x A ih =>
    show lct x (A ++ B) + linv (A ++ B) = lct x A + linv A + linv B + (lct x B + lcr A B)
    rw [ih, lct_app]
    omega
theorem lct_perm {x : Int} {A B : List Int} (h : A.Perm B) : lct x A = lct x B := by
  induction h with
  | nil => rfl
  | cons y _ ih => show (if y < x then 1 else 0) + _ = (if y < x then 1 else 0) + _; rw [ih]
  | swap y z l => show (if z < x then 1 else 0) + ((if y < x then 1 else 0) + lct x l) = (if y < x then 1 else 0) + ((if z < x then 1 else 0) + lct x l); omega
  | trans _ _ h1 h2 => rw [h1, h2]
theorem lcr_permL {A A2 B : List Int} (h : A.Perm A2) : lcr A B = lcr A2 B := by
  induction h with
  | nil => rfl
  | cons y _ ih => show lct y B + _ = lct y B + _; rw [ih]
  | swap y z l => show lct z B + (lct y B + lcr l B) = lct y B + (lct z B + lcr l B); omega
  | trans _ _ h1 h2 => rw [h1, h2]
theorem lcr_permR {A B B2 : List Int} (h : B.Perm B2) : lcr A B = lcr A B2 := by
  induction A with
  | nil => rfl
  | cons x A ih => show lct x B + lcr A B = lct x B2 + lcr A B2; rw [ih, lct_perm h]
def srt : List Int → Prop
  | [] => True
  | x :: L => (∀ y ∈ L, x ≤ y) ∧ srt L
theorem lct_zero {x : Int} : ∀ {L : List Int}, (∀ y ∈ L, x ≤ y) → lct x L = 0 := by
  intro L
  induction L with
  | nil => intro _; rfl
  | cons z L ih =>
    intro h
    have h1 := h z List.mem_cons_self
    have h2 := ih (fun y hy => h y (List.mem_cons_of_mem _ hy))
    show (if z < x then 1 else 0) + lct x L = 0
    rw [if_neg (by omega), h2]
    rfl
theorem lgt_all {x : Int} : ∀ {L : List Int}, (∀ y ∈ L, x < y) → lgt x L = L.length := by
  intro L
  induction L with
  | nil => intro _; rfl
  | cons z L ih =>
    intro h
    have h1 := h z List.mem_cons_self
    have h2 := ih (fun y hy => h y (List.mem_cons_of_mem _ hy))
    show (if x < z then 1 else 0) + lgt x L = _
    rw [if_pos h1, h2, List.length_cons]
    omega
/-- the merge of two rows, and the pairs that it counts; by the sum of the lengths -/
def mgL : Nat → List Int → List Int → List Int
  | 0, _, _ => []
  | _ + 1, [], r => r
  | _ + 1, x :: l, [] => x :: l
  | k + 1, x :: l, y :: r => if y < x then y :: mgL k (x :: l) r else x :: mgL k l (y :: r)
def mgC : Nat → List Int → List Int → Int
  | 0, _, _ => 0
  | _ + 1, [], _ => 0
  | _ + 1, _ :: _, [] => 0
  | k + 1, x :: l, y :: r => if y < x then (l.length + 1) + mgC k (x :: l) r else mgC k l (y :: r)
theorem mgC_is : ∀ (k : Nat) (l r : List Int), l.length + r.length < k → srt l → srt r → mgC k l r = lcr l r := by
  intro k
  induction k with
  | zero => intros; omega
  | succ k ih =>
    intro l r hk hl hr
    cases l with
    | nil => rfl
    | cons x l =>
      cases r with
      | nil => rw [lcr_nil]; rfl
      | cons y r =>
        rw [List.length_cons, List.length_cons] at hk
        show (if y < x then ((l.length : Int) + 1) + mgC k (x :: l) r else mgC k l (y :: r)) = _
        by_cases c : y < x
        · rw [if_pos c, ih (x :: l) r (by rw [List.length_cons]; omega) hl hr.2, lcr_consR, lgt_all (x := y), List.length_cons]
          · omega
          · intro z hz
            rcases List.mem_cons.mp hz with e | e
            · omega
            · have := hl.1 z e
              omega
        · rw [if_neg c, ih l (y :: r) (by rw [List.length_cons]; omega) hl.2 hr]
          show _ = lct x (y :: r) + lcr l (y :: r)
          rw [lct_zero, Int.zero_add]
          intro z hz
          rcases List.mem_cons.mp hz with e | e
          · omega
          · have := hr.1 z e
            omega
theorem mgL_perm : ∀ (k : Nat) (l r : List Int), l.length + r.length < k → (mgL k l r).Perm (l ++ r) := by
  intro k
  induction k with
  | zero => intros; omega
  | succ k ih =>
    intro l r hk
    cases l with
    | nil => exact List.Perm.refl _
    | cons x l =>
      cases r with
      | nil => rw [List.append_nil]; exact List.Perm.refl _
      | cons y r =>
        rw [List.length_cons, List.length_cons] at hk
        show (if y < x then y :: mgL k (x :: l) r else x :: mgL k l (y :: r)).Perm _
        by_cases c : y < x
        · rw [if_pos c]
          exact ((ih (x :: l) r (by rw [List.length_cons]; omega)).cons y).trans (List.perm_middle.symm)
        · rw [if_neg c]
          exact (ih l (y :: r) (by rw [List.length_cons]; omega)).cons x
theorem mgL_srt : ∀ (k : Nat) (l r : List Int), l.length + r.length < k → srt l → srt r → srt (mgL k l r) := by
  intro k
  induction k with
  | zero => intros; omega
  | succ k ih =>
    intro l r hk hl hr
    cases l with
    | nil => exact hr
    | cons x l =>
      cases r with
      | nil => exact hl
      | cons y r =>
        rw [List.length_cons, List.length_cons] at hk
        show srt (if y < x then y :: mgL k (x :: l) r else x :: mgL k l (y :: r))
        by_cases c : y < x
        · rw [if_pos c]
          refine ⟨fun z hz => ?_, ih (x :: l) r (by rw [List.length_cons]; omega) hl hr.2⟩
          have := (mgL_perm k (x :: l) r (by rw [List.length_cons]; omega)).mem_iff.mp hz
          rcases List.mem_append.mp this with e | e
          · rcases List.mem_cons.mp e with e | e
            · omega
            · have := hl.1 z e
              omega
          · exact hr.1 z e
        · rw [if_neg c]
          refine ⟨fun z hz => ?_, ih l (y :: r) (by rw [List.length_cons]; omega) hl.2 hr⟩
          have := (mgL_perm k l (y :: r) (by rw [List.length_cons]; omega)).mem_iff.mp hz
          rcases List.mem_append.mp this with e | e
          · exact hl.1 z e
          · rcases List.mem_cons.mp e with e | e
            · omega
            · have := hr.1 z e
              omega
/-! the two scratch rows -/
def Wr (g : Int → Int) : Nat → Int32 := fun j => zI (g (j : Int))
def upI (g : Int → Int) (i x : Int) : Int → Int := fun j => if j = i then x else g j
theorem upI_eq (g : Int → Int) (i x : Int) : upI g i x i = x := if_pos rfl
theorem upI_ne (g : Int → Int) {i j : Int} (x : Int) (h : j ≠ i) : upI g i x j = g j := if_neg h
theorem Wr_upd {g : Int → Int} {i x : Int} (hi : 0 ≤ i) : upd (Wr g) i.toNat (zI x) = Wr (upI g i x) := by
  funext j
  unfold upd Wr upI
  by_cases c : j = i.toNat
  · rw [if_pos c, if_pos (by omega)]
  · rw [if_neg c, if_neg (by omega)]
theorem Wr_at {g : Int → Int} {i : Int} (hi : 0 ≤ i) : Wr g i.toNat = zI (g i) := by
  unfold Wr
  rw [show ((i.toNat : Nat) : Int) = i by omega]
theorem Wr_all (f : Nat → Int32) : Wr (fun i => (f i.toNat).toInt) = f := by
  funext j
  unfold Wr
  show Int32.ofInt (f ((j : Int)).toNat).toInt = f j
  rw [Int32.ofInt_toInt]
  rfl
def S2 (M : Mm) (g h : Int → Int) : Mm := mrow (mrow M 24 (Wr g)) 25 (Wr h)
theorem S2_24 (M : Mm) (g h : Int → Int) : S2 M g h 24 = Wr g := by
  unfold S2
  rw [mrow_ne _ _ (by decide), mrow_eq]
theorem S2_25 (M : Mm) (g h : Int → Int) : S2 M g h 25 = Wr h := by
  unfold S2
  rw [mrow_eq]
theorem S2_rd24 {M : Mm} {g h : Int → Int} {i : Int} (hi : 0 ≤ i ∧ i < 20) : fn_SA_read 24 (zI i) (S2 M g h) = some (.inl (zI (g i)), S2 M g h) := by
  rw [rd (L := 20) (by decide) (by decide) (by omega), S2_24, Wr_at hi.1]
theorem S2_rd25 {M : Mm} {g h : Int → Int} {i : Int} (hi : 0 ≤ i ∧ i < 20) : fn_SA_read 25 (zI i) (S2 M g h) = some (.inl (zI (h i)), S2 M g h) := by
  rw [rd (L := 20) (by decide) (by decide) (by omega), S2_25, Wr_at hi.1]
theorem S2_wr25 {M : Mm} {g h : Int → Int} {i x : Int} (hi : 0 ≤ i ∧ i < 20) : fn_SA_write 25 (zI i) (zI x) (S2 M g h) = some (.inl (), S2 M g (upI h i x)) := by
  rw [wr (L := 20) (by decide) (by decide) (by omega), mset_row, S2_25, Wr_upd hi.1]
  unfold S2
  rw [mrow_mrow]
theorem mrow_comm (M : Mm) {k j : Nat} (f g : Nat → Int32) (h : k ≠ j) : mrow (mrow M k f) j g = mrow (mrow M j g) k f := by
  funext a
  unfold mrow
  by_cases c : a = j
  · rw [if_pos c, if_neg (by omega), if_pos c]
  · rw [if_neg c]
    by_cases c2 : a = k
    · rw [if_pos c2, if_pos c2]
    · rw [if_neg c2, if_neg c2, if_neg c]
theorem S2_wr24 {M : Mm} {g h : Int → Int} {i x : Int} (hi : 0 ≤ i ∧ i < 20) : fn_SA_write 24 (zI i) (zI x) (S2 M g h) = some (.inl (), S2 M (upI g i x) h) := by
  rw [wr (L := 20) (by decide) (by decide) (by omega), mset_row, S2_24, Wr_upd hi.1]
  unfold S2
  rw [mrow_comm _ _ _ (by decide), mrow_mrow, mrow_comm _ _ _ (by decide)]
theorem S2_self (M : Mm) : S2 M (fun i => (M 24 i.toNat).toInt) (fun i => (M 25 i.toNat).toInt) = M := by
  unfold S2
  rw [Wr_all, Wr_all, mrow_self, mrow_self]
theorem S2_off (M : Mm) (g h : Int → Int) : Off M (S2 M g h) := (Off.sc M 24 _ (by omega)).tr (Off.sc _ 25 _ (by omega))
theorem Ser.s2 {M : Mm} {v : Nat} {n : Int} {a : Int → Int} (h : Ser M v n a) (g k : Int → Int) : Ser (S2 M g k) v n a := by
  have hv := h.v
  exact (h.row (k := 24) (by omega) _).row (k := 25) (by omega) _
theorem c_merge_12 {M : Mm} {g : Int → Int} {f m e : Int} (hb : ∀ i, -2147483648 ≤ g i ∧ g i < 2147483648) (hf : 0 ≤ f ∧ f ≤ m ∧ m ≤ e ∧ e ≤ 20) : ∀ (k : Nat) (pr l r i : Int) (h : Int → Int), f ≤ l → l ≤ m → m ≤ r → r ≤ e → i = l + r - m → e - i < k → ∃ h', fn_Ra_merge_12 24 25 (zI f) (zI m) (zI e) k (zI pr) (zI l) (zI r) (zI i) (S2 M g h) = fn_Ra_merge_107 24 25 (zI f) (zI e) (zI (pr + mgC k (seg g l m) (seg g r e))) (S2 M g h') ∧ seg h' i e = mgL k (seg g l m) (seg g r e) ∧ ∀ x, x < i → h' x = h x := by
  intro k
  induction k with
  | zero => intros; omega
  | succ k ih =>
    intro pr l r i h h1 h2 h3 h4 h5 h6
    have b1 := hb l
    have b2 := hb r
    rw [fn_Ra_merge_12]
    by_cases c0 : e ≤ i
    · refine ⟨h, ?_, ?_, fun _ _ => rfl⟩
      · rw [seg_nil (g := g) (i := l) (by omega)]
        simp (disch := omega) only [zlit, zI_add, zI_sub, zI_mul, zI_neg, zI_lt, zI_le, zI_eq, zI_cl, zI_max, zI_min, zI_abs, bnd_ok, bnd_ex, lm_eq, li_eq, grd_inb, grd_ser, grd_z, grd_lt, if_true, if_false, if_pos, if_neg]
        show _ = fn_Ra_merge_107 24 25 (zI f) (zI e) (zI (pr + 0)) _
        rw [Int.add_zero]
      · rw [seg_nil (g := h) (by omega), seg_nil (g := g) (i := l) (by omega), seg_nil (g := g) (i := r) (by omega)]
        rfl
    · by_cases c1 : m ≤ l
      · -- the left half is used up
        obtain ⟨h', e1, e2, e3⟩ := ih (pr + (m - l)) l (r + 1) (i + 1) (upI h i (g r)) (by omega) (by omega) (by omega) (by omega) (by omega) (by omega)
        have el : seg g l m = [] := seg_nil c1
        have ek : ∀ L : List Int, mgC k [] L = 0 := fun L => by cases k <;> rfl
        rw [el, ek] at e1
        refine ⟨h', ?_, ?_, fun x hx => by rw [e3 x (by omega), upI_ne _ _ (by omega)]⟩
        · rw [el]
          simp (disch := omega) only [zlit, zI_add, zI_sub, zI_mul, zI_neg, zI_lt, zI_le, zI_eq, zI_cl, zI_max, zI_min, zI_abs, bnd_ok, bnd_ex, lm_eq, li_eq, grd_inb, grd_ser, grd_z, grd_lt, if_true, if_false, if_pos, if_neg, fn_Ra_merge_47, fn_Ra_merge_52, S2_rd24, S2_wr25, fn_Ra_merge_101]
          rw [e1, show pr + (m - l) + 0 = pr by omega]
          show _ = fn_Ra_merge_107 24 25 (zI f) (zI e) (zI (pr + 0)) _
          rw [Int.add_zero]
        · rw [seg_cons (g := h') (by omega), e2, e3 i (by omega), upI_eq, el, seg_cons (g := g) (i := r) (by omega)]
          show g r :: mgL k [] (seg g (r + 1) e) = g r :: seg g (r + 1) e
          have hk1 : 1 ≤ k := by omega
          obtain ⟨k', rfl⟩ : ∃ k', k = k' + 1 := ⟨k - 1, by omega⟩
          rfl
      · by_cases c2 : e ≤ r
        · obtain ⟨h', e1, e2, e3⟩ := ih pr (l + 1) r (i + 1) (upI h i (g l)) (by omega) (by omega) (by omega) (by omega) (by omega) (by omega)
          have er : seg g r e = [] := seg_nil c2
          have ek : ∀ L : List Int, mgC k L [] = 0 := fun L => by
            cases k with
            | zero => rfl
            | succ k => cases L <;> rfl
          rw [er, ek] at e1
          refine ⟨h', ?_, ?_, fun x hx => by rw [e3 x (by omega), upI_ne _ _ (by omega)]⟩
          · rw [er, seg_cons (g := g) (i := l) (by omega)]
            simp (disch := omega) only [zlit, zI_add, zI_sub, zI_mul, zI_neg, zI_lt, zI_le, zI_eq, zI_cl, zI_max, zI_min, zI_abs, bnd_ok, bnd_ex, lm_eq, li_eq, grd_inb, grd_ser, grd_z, grd_lt, if_true, if_false, if_pos, if_neg, fn_Ra_merge_51, fn_Ra_merge_52, S2_rd24, S2_wr25, fn_Ra_merge_101]
            rw [e1]
            rfl
          · rw [seg_cons (g := h') (by omega), e2, e3 i (by omega), upI_eq, er, seg_cons (g := g) (i := l) (by omega)]
            show g l :: mgL k (seg g (l + 1) m) [] = g l :: seg g (l + 1) m
            obtain ⟨k', rfl⟩ : ∃ k', k = k' + 1 := ⟨k - 1, by omega⟩
            cases seg g (l + 1) m <;> rfl
        · by_cases c3 : g r < g l
          · obtain ⟨h', e1, e2, e3⟩ := ih (pr + (m - l)) l (r + 1) (i + 1) (upI h i (g r)) (by omega) (by omega) (by omega) (by omega) (by omega) (by omega)
            have el := seg_cons (g := g) (i := l) (j := m) (by omega)
            have er := seg_cons (g := g) (i := r) (j := e) (by omega)
            have ec : mgC (k + 1) (seg g l m) (seg g r e) = (m - l) + mgC k (seg g l m) (seg g (r + 1) e) := by
              rw [el, er]
              show (if g r < g l then (((seg g (l + 1) m).length : Int) + 1) + mgC k (g l :: seg g (l + 1) m) (seg g (r + 1) e) else _) = _
              rw [if_pos c3, seg_len (by omega)]
              omega
            have eL : mgL (k + 1) (seg g l m) (seg g r e) = g r :: mgL k (seg g l m) (seg g (r + 1) e) := by
              rw [el, er]
              show (if g r < g l then g r :: mgL k (g l :: seg g (l + 1) m) (seg g (r + 1) e) else _) = _
              rw [if_pos c3]
            refine ⟨h', ?_, ?_, fun x hx => by rw [e3 x (by omega), upI_ne _ _ (by omega)]⟩
            · rw [ec]
              simp (disch := omega) only [zlit, zI_add, zI_sub, zI_mul, zI_neg, zI_lt, zI_le, zI_eq, zI_cl, zI_max, zI_min, zI_abs, bnd_ok, bnd_ex, lm_eq, li_eq, grd_inb, grd_ser, grd_z, grd_lt, if_true, if_false, if_pos, if_neg, fn_Ra_merge_47, fn_Ra_merge_52, S2_rd24, S2_wr25, fn_Ra_merge_101]
              rw [e1, Int.add_assoc]
            · rw [seg_cons (g := h') (by omega), e2, e3 i (by omega), upI_eq, eL]
          · obtain ⟨h', e1, e2, e3⟩ := ih pr (l + 1) r (i + 1) (upI h i (g l)) (by omega) (by omega) (by omega) (by omega) (by omega) (by omega)
            have el := seg_cons (g := g) (i := l) (j := m) (by omega)
            have er := seg_cons (g := g) (i := r) (j := e) (by omega)
            have ec : mgC (k + 1) (seg g l m) (seg g r e) = mgC k (seg g (l + 1) m) (seg g r e) := by
              rw [el, er]
              show (if g r < g l then _ else mgC k (seg g (l + 1) m) (g r :: seg g (r + 1) e)) = _
              rw [if_neg c3]
            have eL : mgL (k + 1) (seg g l m) (seg g r e) = g l :: mgL k (seg g (l + 1) m) (seg g r e) := by
              rw [el, er]
              show (if g r < g l then _ else g l :: mgL k (seg g (l + 1) m) (g r :: seg g (r + 1) e)) = _
              rw [if_neg c3]
            refine ⟨h', ?_, ?_, fun x hx => by rw [e3 x (by omega), upI_ne _ _ (by omega)]⟩
            · rw [ec]
              simp (disch := omega) only [zlit, zI_add, zI_sub, zI_mul, zI_neg, zI_lt, zI_le, zI_eq, zI_cl, zI_max, zI_min, zI_abs, bnd_ok, bnd_ex, lm_eq, li_eq, grd_inb, grd_ser, grd_z, grd_lt, if_true, if_false, if_pos, if_neg, fn_Ra_merge_51, fn_Ra_merge_52, S2_rd24, S2_wr25, fn_Ra_merge_101]
              rw [e1]
            · rw [seg_cons (g := h') (by omega), e2, e3 i (by omega), upI_eq, eL]
def cpy (g h : Int → Int) (i e : Int) : Int → Int := fun x => if i ≤ x ∧ x < e then h x else g x
theorem c_merge_110 {M : Mm} {h : Int → Int} {e : Int} {p : Int32} (he : e ≤ 20) : ∀ (k : Nat) (i : Int) (g : Int → Int), 0 ≤ i → i ≤ e → e - i < k → fn_Ra_merge_110 24 25 (zI e) p k (zI i) (S2 M g h) = some (.inl p, S2 M (cpy g h i e) h) := by
  intro k
  induction k with
  | zero => intros; omega
  | succ k ih =>
    intro i g h0 h1 h2
    rw [fn_Ra_merge_110]
    by_cases c : e ≤ i
    · have e9 : cpy g h i e = g := by
        funext x
        exact if_neg (by omega)
      rw [e9]
      simp (disch := omega) only [zlit, zI_add, zI_sub, zI_mul, zI_neg, zI_lt, zI_le, zI_eq, zI_cl, zI_max, zI_min, zI_abs, bnd_ok, bnd_ex, lm_eq, li_eq, grd_inb, grd_ser, grd_z, grd_lt, if_true, if_false, if_pos, if_neg]
    · have e9 : cpy (upI g i (h i)) h (i + 1) e = cpy g h i e := by
        funext x
        unfold cpy upI
        by_cases c1 : x = i
        · rw [if_neg (by omega), if_pos c1, if_pos (by omega), c1]
        · by_cases c2 : i ≤ x ∧ x < e
          · rw [if_pos (by omega), if_pos c2]
          · rw [if_neg (by omega), if_neg c1, if_neg c2]
      simp (disch := omega) only [zlit, zI_add, zI_sub, zI_mul, zI_neg, zI_lt, zI_le, zI_eq, zI_cl, zI_max, zI_min, zI_abs, bnd_ok, bnd_ex, lm_eq, li_eq, grd_inb, grd_ser, grd_z, grd_lt, if_true, if_false, if_pos, if_neg, S2_rd25, S2_wr24]
      rw [ih (i + 1) _ (by omega) (by omega) (by omega), e9]
theorem c_merge {M : Mm} {g h : Int → Int} {f m e : Int} (hb : ∀ i, -2147483648 ≤ g i ∧ g i < 2147483648) (hf : 0 ≤ f ∧ f ≤ m ∧ m ≤ e ∧ e ≤ 20) (hl : srt (seg g f m)) (hr : srt (seg g m e)) : ∃ g' h', fn_Ra_merge 24 25 (zI f) (zI m) (zI e) (S2 M g h) = some (.inl (zI (lcr (seg g f m) (seg g m e))), S2 M g' h') ∧ srt (seg g' f e) ∧ (seg g' f e).Perm (seg g f e) ∧ ∀ x, x < f ∨ e ≤ x → g' x = g x := by
  obtain ⟨h', e1, e2, -⟩ := c_merge_12 (M := M) hb hf 2000 0 f m f h (by omega) (by omega) (by omega) (by omega) (by omega) (by omega)
  have hlen : (seg g f m).length + (seg g m e).length < 2000 := by
    have := seg_len (g := g) (i := f) (j := m) (by omega)
    have := seg_len (g := g) (i := m) (j := e) (by omega)
    omega
  have e3 : seg (cpy g h' f e) f e = mgL 2000 (seg g f m) (seg g m e) := by
    rw [← e2]
    exact seg_congr (fun x h1 h2 => if_pos ⟨h1, h2⟩)
  refine ⟨cpy g h' f e, h', ?_, ?_, ?_, fun x hx => if_neg (by omega)⟩
  · unfold fn_Ra_merge fuel0
    rw [grd_t (by decide), grd_t (by decide)]
    rw [show (0 : Int32) = zI 0 from rfl, e1]
    unfold fn_Ra_merge_107 fuel0
    rw [c_merge_110 hf.2.2.2 2000 f g (by omega) (by omega) (by omega), mgC_is _ _ _ hlen hl hr, Int.zero_add]
  · rw [e3]
    exact mgL_srt _ _ _ hlen hl hr
  · rw [e3, seg_app (g := g) (i := f) (m := m) (j := e) (by omega) (by omega)]
    exact mgL_perm _ _ _ hlen
theorem perm_bound {g g' : Int → Int} {f e : Int} (hb : ∀ i, -2147483648 ≤ g i ∧ g i < 2147483648) (hp : (seg g' f e).Perm (seg g f e)) (ho : ∀ x, x < f ∨ e ≤ x → g' x = g x) : ∀ i, -2147483648 ≤ g' i ∧ g' i < 2147483648 := by
  have hm : ∀ (g : Int → Int) (k : Nat) (i : Int), k = (e - i).toNat → ∀ y, y ∈ seg g i e ↔ ∃ x, i ≤ x ∧ x < e ∧ g x = y := by
    intro g k
    induction k with
    | zero => intro i hk y; rw [seg_nil (by omega)]; exact ⟨fun h => absurd h List.not_mem_nil, fun ⟨x, h1, h2, _⟩ => by omega⟩
    | succ k ih =>
      intro i hk y
      rw [seg_cons (by omega), List.mem_cons, ih (i + 1) (by omega) y]
      refine ⟨fun h => ?_, fun ⟨x, h1, h2, h3⟩ => ?_⟩
      · rcases h with h | ⟨x, h1, h2, h3⟩
        · exact ⟨i, by omega, by omega, h.symm⟩
        · exact ⟨x, by omega, h2, h3⟩
      · by_cases c : x = i
        · rw [c] at h3
          exact .inl h3.symm
        · exact .inr ⟨x, by omega, h2, h3⟩
  intro i
  by_cases c : f ≤ i ∧ i < e
  · have h1 : g' i ∈ seg g' f e := (hm g' _ f rfl _).mpr ⟨i, c.1, c.2, rfl⟩
    obtain ⟨x, -, -, h3⟩ := (hm g _ f rfl _).mp (hp.mem_iff.mp h1)
    rw [← h3]
    exact hb x
  · rw [ho i (by omega)]
    exact hb i
theorem c_sort {M : Mm} : ∀ (k : Nat) (f e d : Int) (g h : Int → Int), (∀ i, -2147483648 ≤ g i ∧ g i < 2147483648) → 0 ≤ f → f ≤ e → e ≤ 20 → 0 ≤ d → d + (e - f) ≤ 21 → e - f < k → ∃ g' h', fn_Ra_sortHalves k 24 25 (zI f) (zI e) (zI d) (S2 M g h) = some (.inl (zI (linv (seg g f e))), S2 M g' h') ∧ srt (seg g' f e) ∧ (seg g' f e).Perm (seg g f e) ∧ ∀ x, x < f ∨ e ≤ x → g' x = g x := by
  intro k
  induction k with
  | zero => intros; omega
  | succ k ih =>
    intro f e d g h hb h0 h1 h2 h3 h4 h5
    rw [fn_Ra_sortHalves, grd_t (by decide), grd_t (by decide)]
    by_cases c : e - f < 2
    · refine ⟨g, h, ?_, ?_, List.Perm.refl _, fun _ _ => rfl⟩
      · simp (disch := omega) only [zlit, zI_add, zI_sub, zI_mul, zI_neg, zI_lt, zI_le, zI_eq, zI_cl, zI_max, zI_min, zI_abs, bnd_ok, bnd_ex, lm_eq, li_eq, grd_inb, grd_ser, grd_z, grd_lt, if_true, if_false, if_pos, if_neg]
        by_cases c2 : e ≤ f
        · rw [seg_nil c2]
          rfl
        · rw [seg_cons (by omega), seg_nil (by omega)]
          rfl
      · by_cases c2 : e ≤ f
        · rw [seg_nil c2]
          trivial
        · rw [seg_cons (by omega), seg_nil (by omega)]
          exact ⟨fun y hy => absurd hy List.not_mem_nil, trivial⟩
    · have hm : f + (e - f) / 2 < e ∧ f < f + (e - f) / 2 := by omega
      obtain ⟨g1, h1', e1, s1, p1, o1⟩ := ih f (f + (e - f) / 2) (d + 1) g h hb (by omega) (by omega) (by omega) (by omega) (by omega) (by omega)
      have hb1 := perm_bound hb p1 o1
      obtain ⟨g2, h2', e2, s2, p2, o2⟩ := ih (f + (e - f) / 2) e (d + 1) g1 h1' hb1 (by omega) (by omega) (by omega) (by omega) (by omega) (by omega)
      have hb2 := perm_bound hb1 p2 o2
      have el : seg g2 f (f + (e - f) / 2) = seg g1 f (f + (e - f) / 2) := seg_congr (fun x x1 x2 => o2 x (.inl x2))
      have er : seg g1 (f + (e - f) / 2) e = seg g (f + (e - f) / 2) e := seg_congr (fun x x1 x2 => o1 x (.inr x1))
      obtain ⟨g3, h3', e3, s3, p3, o3⟩ := c_merge (M := M) (g := g2) (h := h2') (f := f) (m := f + (e - f) / 2) (e := e) hb2 ⟨h0, by omega, by omega, h2⟩ (by rw [el]; exact s1) s2
      have pl : (seg g2 f (f + (e - f) / 2)).Perm (seg g f (f + (e - f) / 2)) := by rw [el]; exact p1
      have pr : (seg g2 (f + (e - f) / 2) e).Perm (seg g (f + (e - f) / 2) e) := by rw [← er]; exact p2
      refine ⟨g3, h3', ?_, s3, ?_, fun x hx => ?_⟩
      · simp (disch := omega) only [zlit, zI_add, zI_sub, zI_mul, zI_neg, zI_lt, zI_le, zI_eq, zI_cl, zI_max, zI_min, zI_abs, bnd_ok, bnd_ex, lm_eq, li_eq, grd_inb, grd_ser, grd_z, grd_lt, if_true, if_false, if_pos, if_neg, zI_div, e1, e2, e3]
        rw [er, seg_app (g := g) (i := f) (m := f + (e - f) / 2) (j := e) (by omega) (by omega), linv_app, lcr_permL pl, lcr_permR pr]
      · refine p3.trans ?_
        rw [seg_app (g := g2) (i := f) (m := f + (e - f) / 2) (j := e) (by omega) (by omega), seg_app (g := g) (i := f) (m := f + (e - f) / 2) (j := e) (by omega) (by omega)]
        exact pl.append pr
      · rw [o3 x hx, o2 x (by omega), o1 x (by omega)]
theorem c_falling_2 {M : Mm} {v : Nat} {n : Int} {a : Int → Int} (h : Ser M v n a) : ∀ (k : Nat) (i : Int) (g p : Int → Int), (∀ i, -2147483648 ≤ g i ∧ g i < 2147483648) → (∀ x, 0 ≤ x → x < i → g x = a x) → 0 ≤ i → i ≤ n → n - i < k → ∃ g2, (∀ i, -2147483648 ≤ g2 i ∧ g2 i < 2147483648) ∧ (∀ x, 0 ≤ x → x < n → g2 x = a x) ∧ fn_Ra_fallingPairs_2 v k (zI i) (S2 M g p) = fn_Ra_fallingPairs_29 v (S2 M g2 p) := by
  have hv := h.v
  have hn := h.n
  intro k
  induction k with
  | zero => intros; omega
  | succ k ih =>
    intro i g p hb hg h0 h1 h2
    have hs := h.s2 g p
    rw [fn_Ra_fallingPairs_2]
    by_cases c : n ≤ i
    · refine ⟨g, hb, fun x x1 x2 => hg x x1 (by omega), ?_⟩
      simp (disch := omega) only [zlit, zI_add, zI_sub, zI_mul, zI_neg, zI_lt, zI_le, zI_eq, zI_cl, zI_max, zI_min, zI_abs, bnd_ok, bnd_ex, lm_eq, li_eq, grd_inb, grd_ser, grd_z, grd_lt, if_true, if_false, if_pos, if_neg, hs.size]
    · obtain ⟨g2, e0, e1, e2⟩ := ih (i + 1) (upI g i (a i)) p (fun x => by
        have := h.b i
        have := hb x
        unfold upI
        by_cases c2 : x = i
        · rw [if_pos c2]
          omega
        · rw [if_neg c2]
          omega) (fun x x1 x2 => by
        by_cases c2 : x = i
        · rw [c2, upI_eq]
        · rw [upI_ne _ _ c2]
          exact hg x x1 (by omega)) (by omega) (by omega) (by omega)
      refine ⟨g2, e0, e1, ?_⟩
      simp (disch := omega) only [zlit, zI_add, zI_sub, zI_mul, zI_neg, zI_lt, zI_le, zI_eq, zI_cl, zI_max, zI_min, zI_abs, bnd_ok, bnd_ex, lm_eq, li_eq, grd_inb, grd_ser, grd_z, grd_lt, if_true, if_false, if_pos, if_neg, hs.size, hs.at, S2_wr24, e2]
theorem Ser.falling {M : Mm} {v : Nat} {n : Int} {a : Int → Int} (h : Ser M v n a) : ∃ M1, fn_Ra_fallingPairs v M = some (.inl (zI (linv (seg a 0 n))), M1) ∧ Off M M1 := by
  have hv := h.v
  have hn := h.n
  obtain ⟨g2, e0, e1, e2⟩ := c_falling_2 h 2000 0 (fun i => (M 24 i.toNat).toInt) (fun i => (M 25 i.toNat).toInt) (fun i => ⟨Int32.le_toInt _, Int32.toInt_lt _⟩) (fun x x1 x2 => by omega) (by omega) (by omega) (by omega)
  rw [S2_self] at e2
  have hs := h.s2 g2 (fun i => (M 25 i.toNat).toInt)
  obtain ⟨g3, p3, e3, -⟩ := c_sort (M := M) 45 0 n 0 g2 (fun i => (M 25 i.toNat).toInt) e0 (by omega) (by omega) (by omega) (by omega) (by omega) (by omega)
  refine ⟨_, ?_, S2_off M g3 p3⟩
  unfold fn_Ra_fallingPairs fuel0
  simp (disch := omega) only [zlit, zI_add, zI_sub, zI_mul, zI_neg, zI_lt, zI_le, zI_eq, zI_cl, zI_max, zI_min, zI_abs, bnd_ok, bnd_ex, lm_eq, li_eq, grd_inb, grd_ser, grd_z, grd_lt, if_true, if_false, if_pos, if_neg, e2, fn_Ra_fallingPairs_29, hs.size, e3]
  rw [seg_congr (fun x x1 x2 => e1 x x1 x2)]
/-! by pairs, and the model's count -/
theorem lct_seg {a : Int → Int} {t j : Int} : ∀ (k : Nat) (i s : Int), k = (j - i).toNat → cntF (fun x => decide (a x < t)) i j s = s + lct t (seg a i j) := by
  intro k
  induction k with
  | zero => intro i s hk; rw [cd_stop (by omega), seg_nil (by omega)]; show s = s + 0; omega
  | succ k ih =>
    intro i s hk
    rw [seg_cons (by omega)]
    show _ = s + ((if a i < t then 1 else 0) + lct t (seg a (i + 1) j))
    by_cases c : a i < t
    · rw [cd_y (q := fun x => a x < t) (i := i) (by omega) c, ih (i + 1) _ (by omega), if_pos c]
      omega
    · rw [cd_n (q := fun x => a x < t) (i := i) (by omega) c, ih (i + 1) _ (by omega), if_neg c]
      omega
theorem lgt_seg {a : Int → Int} {t j : Int} : ∀ (k : Nat) (i s : Int), k = (j - i).toNat → cntF (fun x => decide (t < a x)) i j s = s + lgt t (seg a i j) := by
  intro k
  induction k with
  | zero => intro i s hk; rw [cd_stop (by omega), seg_nil (by omega)]; show s = s + 0; omega
  | succ k ih =>
    intro i s hk
    rw [seg_cons (by omega)]
    show _ = s + ((if t < a i then 1 else 0) + lgt t (seg a (i + 1) j))
    by_cases c : t < a i
    · rw [cd_y (q := fun x => t < a x) (i := i) (by omega) c, ih (i + 1) _ (by omega), if_pos c]
      omega
    · rw [cd_n (q := fun x => t < a x) (i := i) (by omega) c, ih (i + 1) _ (by omega), if_neg c]
      omega
theorem c_pairs_16 {M : Mm} {v : Nat} {n : Int} {a : Int → Int} (h : Ser M v n a) (k4 : Int32 → Int32 → Mm → Rs Int32) {i : Int} (hi : 0 ≤ i ∧ i < n) : ∀ (k : Nat) (s l : Int), i ≤ l → l ≤ n → n - l < k → fn_Ra_fallingPairsByPairs_16 k4 v (zI i) k (zI s) (zI l) M = k4 (zI (cntF (fun x => decide (a x < a i)) l n s)) (zI (i + 1)) M := by
  have hv := h.v
  have hn := h.n
  have b1 := h.b i
  intro k
  induction k with
  | zero => intros; omega
  | succ k ih =>
    intro s l h0 h1 h2
    have b2 := h.b l
    rw [fn_Ra_fallingPairsByPairs_16]
    by_cases c : n ≤ l
    · simp (disch := omega) only [zlit, zI_add, zI_sub, zI_mul, zI_neg, zI_lt, zI_le, zI_eq, zI_cl, zI_max, zI_min, zI_abs, bnd_ok, bnd_ex, lm_eq, li_eq, grd_inb, grd_ser, grd_z, grd_lt, if_true, if_false, if_pos, if_neg, h.size, fn_Ra_fallingPairsByPairs_51, cd_stop]
    · by_cases c2 : a l < a i
      · simp (disch := omega) only [zlit, zI_add, zI_sub, zI_mul, zI_neg, zI_lt, zI_le, zI_eq, zI_cl, zI_max, zI_min, zI_abs, bnd_ok, bnd_ex, lm_eq, li_eq, grd_inb, grd_ser, grd_z, grd_lt, if_true, if_false, if_pos, if_neg, h.size, h.at, fn_Ra_fallingPairsByPairs_43]
        simp (disch := omega) only [ih, cd_y, cd_n]
      · simp (disch := omega) only [zlit, zI_add, zI_sub, zI_mul, zI_neg, zI_lt, zI_le, zI_eq, zI_cl, zI_max, zI_min, zI_abs, bnd_ok, bnd_ex, lm_eq, li_eq, grd_inb, grd_ser, grd_z, grd_lt, if_true, if_false, if_pos, if_neg, h.size, h.at, fn_Ra_fallingPairsByPairs_43]
        simp (disch := omega) only [ih, cd_y, cd_n]
theorem c_pairs_4 {M : Mm} {v : Nat} {n : Int} {a : Int → Int} (h : Ser M v n a) : ∀ (k : Nat) (s i : Int), 0 ≤ i → i ≤ n → n - i < k → fn_Ra_fallingPairsByPairs_4 v k (zI s) (zI i) M = some (.inl (zI (s + linv (seg a i n))), M) := by
  have hv := h.v
  have hn := h.n
  intro k
  induction k with
  | zero => intros; omega
  | succ k ih =>
    intro s i h0 h1 h2
    rw [fn_Ra_fallingPairsByPairs_4]
    unfold fuel0
    by_cases c : n ≤ i
    · rw [seg_nil c]
      simp (disch := omega) only [zlit, zI_add, zI_sub, zI_mul, zI_neg, zI_lt, zI_le, zI_eq, zI_cl, zI_max, zI_min, zI_abs, bnd_ok, bnd_ex, lm_eq, li_eq, grd_inb, grd_ser, grd_z, grd_lt, if_true, if_false, if_pos, if_neg, h.size]
      show _ = some (Sum.inl (zI (s + 0)), M)
      rw [Int.add_zero]
    · simp (disch := omega) only [zlit, zI_add, zI_sub, zI_mul, zI_neg, zI_lt, zI_le, zI_eq, zI_cl, zI_max, zI_min, zI_abs, bnd_ok, bnd_ex, lm_eq, li_eq, grd_inb, grd_ser, grd_z, grd_lt, if_true, if_false, if_pos, if_neg, h.size, c_pairs_16 h]
      rw [ih _ (i + 1) (by omega) (by omega) (by omega), lct_seg _ _ _ rfl, seg_cons (g := a) (i := i) (by omega)]
      show _ = some (Sum.inl (zI (s + (lct (a i) (seg a (i + 1) n) + linv (seg a (i + 1) n)))), M)
      rw [Int.add_assoc]
theorem Ser.pairs {M : Mm} {v : Nat} {n : Int} {a : Int → Int} (h : Ser M v n a) : fn_Ra_fallingPairsByPairs v M = some (.inl (zI (linv (seg a 0 n))), M) := by
  have hv := h.v
  have hn := h.n
  unfold fn_Ra_fallingPairsByPairs fuel0
  simp (disch := omega) only [zlit, zI_add, zI_sub, zI_mul, zI_neg, zI_lt, zI_le, zI_eq, zI_cl, zI_max, zI_min, zI_abs, bnd_ok, bnd_ex, lm_eq, li_eq, grd_inb, grd_ser, grd_z, grd_lt, if_true, if_false, if_pos, if_neg]
  rw [c_pairs_4 h 2000 0 0 (by omega) (by omega) (by omega), Int.zero_add]
theorem m_falling_29 {M : Mm} {v n : Int} {a : Int → Int} (h : Mse M v n a) (k17 : Int32 → Int32 → Mm → Rs Int32) {i : Int} (hi : 0 ≤ i ∧ i < n) : ∀ (k : Nat) (s o : Int), 0 ≤ o → o ≤ i → i - o < k → fn_Mo_falling_29 k17 (zI v) (zI i) k (zI s) (zI o) M = k17 (zI (cntF (fun x => decide (a i < a x)) o i s)) (zI (i + 1)) M := by
  have hv := h.s
  have hn := h.n
  have b1 := h.b i
  intro k
  induction k with
  | zero => intros; omega
  | succ k ih =>
    intro s o h0 h1 h2
    have b2 := h.b o
    rw [fn_Mo_falling_29]
    by_cases c : i ≤ o
    · simp (disch := omega) only [zlit, zI_add, zI_sub, zI_mul, zI_neg, zI_lt, zI_le, zI_eq, zI_cl, zI_max, zI_min, zI_abs, bnd_ok, bnd_ex, lm_eq, li_eq, grd_inb, grd_ser, grd_z, grd_lt, if_true, if_false, if_pos, if_neg, fn_Mo_falling_65, cd_stop]
    · by_cases c2 : a i < a o
      · simp (disch := omega) only [zlit, zI_add, zI_sub, zI_mul, zI_neg, zI_lt, zI_le, zI_eq, zI_cl, zI_max, zI_min, zI_abs, bnd_ok, bnd_ex, lm_eq, li_eq, grd_inb, grd_ser, grd_z, grd_lt, if_true, if_false, if_pos, if_neg, h.at, fn_Mo_falling_57]
        simp (disch := omega) only [ih, cd_y, cd_n]
      · simp (disch := omega) only [zlit, zI_add, zI_sub, zI_mul, zI_neg, zI_lt, zI_le, zI_eq, zI_cl, zI_max, zI_min, zI_abs, bnd_ok, bnd_ex, lm_eq, li_eq, grd_inb, grd_ser, grd_z, grd_lt, if_true, if_false, if_pos, if_neg, h.at, fn_Mo_falling_57]
        simp (disch := omega) only [ih, cd_y, cd_n]
theorem m_falling_17 {M : Mm} {v n : Int} {a : Int → Int} (h : Mse M v n a) : ∀ (k : Nat) (s i : Int), s = linv (seg a 0 i) → 0 ≤ i → i ≤ n → n - i < k → fn_Mo_falling_17 (zI v) k (zI s) (zI i) M = some (.inl (zI (linv (seg a 0 n))), M) := by
  have hv := h.s
  have hn := h.n
  intro k
  induction k with
  | zero => intros; omega
  | succ k ih =>
    intro s i hs h0 h1 h2
    rw [fn_Mo_falling_17]
    unfold fuel0
    by_cases c : n ≤ i
    · rw [show n = i by omega, ← hs]
      have e : i = n := by omega
      rw [e]
      simp (disch := omega) only [zlit, zI_add, zI_sub, zI_mul, zI_neg, zI_lt, zI_le, zI_eq, zI_cl, zI_max, zI_min, zI_abs, bnd_ok, bnd_ex, lm_eq, li_eq, grd_inb, grd_ser, grd_z, grd_lt, if_true, if_false, if_pos, if_neg, h.many]
    · simp (disch := omega) only [zlit, zI_add, zI_sub, zI_mul, zI_neg, zI_lt, zI_le, zI_eq, zI_cl, zI_max, zI_min, zI_abs, bnd_ok, bnd_ex, lm_eq, li_eq, grd_inb, grd_ser, grd_z, grd_lt, if_true, if_false, if_pos, if_neg, h.many, m_falling_29 h]
      refine ih _ (i + 1) ?_ (by omega) (by omega) (by omega)
      rw [lgt_seg _ _ _ rfl, hs, seg_app (g := a) (i := 0) (m := i) (j := i + 1) (by omega) (by omega), linv_app, seg_cons (g := a) (i := i) (j := i + 1) (by omega), seg_nil (g := a) (i := i + 1) (by omega), lcr_consR, lcr_nil]
      show _ = linv (seg a 0 i) + (0 + 0) + _
      omega
theorem mo_falling {N : Int → Int} {A : Int → Int → Int} {p : Int} (c : 0 ≤ p ∧ p < 4) {M : Mm} (K : Ms N A M) : fn_Mo_falling (zI p) M = some (.inl (zI (linv (seg (A p) 0 (N p)))), mset M 32 6 0) := by
  have k := (K p c.1 c.2).set (k := 32) (by decide) 6 (zI 0)
  have hn := k.n
  unfold fn_Mo_falling fuel0
  simp (disch := omega) only [zlit, zI_add, zI_sub, zI_mul, zI_neg, zI_lt, zI_le, zI_eq, zI_cl, zI_max, zI_min, zI_abs, bnd_ok, bnd_ex, lm_eq, li_eq, grd_inb, grd_ser, grd_z, grd_lt, if_true, if_false, if_pos, if_neg, mo_slot, mo_checked, Int.sub_self]
  exact m_falling_17 k 2000 0 0 rfl (by omega) (by omega) (by omega)
theorem mo_falling_no {p : Int} (hp : -2147483648 ≤ p ∧ p < 2147483648) (c : ¬ (0 ≤ p ∧ p < 4)) {M : Mm} : fn_Mo_falling (zI p) M = some (.inl 0, mset M 32 6 1) := by
  unfold fn_Mo_falling
  simp (disch := omega) only [zlit, zI_add, zI_sub, zI_mul, zI_neg, zI_lt, zI_le, zI_eq, zI_cl, zI_max, zI_min, zI_abs, bnd_ok, bnd_ex, lm_eq, li_eq, grd_inb, grd_ser, grd_z, grd_lt, if_true, if_false, if_pos, if_neg, mo_slot, mo_checked, Int.sub_zero]
theorem Q_inversions {p : Int} (hp : -2147483648 ≤ p ∧ p < 2147483648) : AgR (fn_SA_inversions (zI p)) [(0, 1)] (fn_Mo_inversions (zI p)) := by
  intro M N A H K
  by_cases c : 0 ≤ p ∧ p < 4
  · have h := H p c.1 c.2
    have hn := h.n
    obtain ⟨M1, e1, o1⟩ := h.falling
    refine .inl ⟨zI (linv (seg (A p) 0 (N p))), ⟨M1, ?_, o1⟩, MR.of (fun M' K' => ?_)⟩
    · unfold fn_SA_inversions
      simp (disch := omega) only [zlit, zI_add, zI_sub, zI_mul, zI_neg, zI_lt, zI_le, zI_eq, zI_cl, zI_max, zI_min, zI_abs, bnd_ok, bnd_ex, lm_eq, li_eq, grd_inb, grd_ser, grd_z, grd_lt, if_true, if_false, if_pos, if_neg, SA_in, e1]
    · unfold fn_Mo_inversions
      rw [mo_falling c K']
      rfl
  · refine .inr ⟨0, 0, 1, CR.of ?_, rfl, by decide, MR.of (fun M' K' => ?_)⟩
    · unfold fn_SA_inversions
      simp (disch := omega) only [zlit, zI_add, zI_sub, zI_mul, zI_neg, zI_lt, zI_le, zI_eq, zI_cl, zI_max, zI_min, zI_abs, bnd_ok, bnd_ex, lm_eq, li_eq, grd_inb, grd_ser, grd_z, grd_lt, if_true, if_false, if_pos, if_neg, SA_in_no]
    · unfold fn_Mo_inversions
      rw [mo_falling_no hp c]
      rfl
theorem Q_inversionsByPairs {p : Int} (hp : -2147483648 ≤ p ∧ p < 2147483648) : AgR (fn_SA_inversionsByPairs (zI p)) [(0, 1)] (fn_Mo_inversionsByPairs (zI p)) := by
  intro M N A H K
  by_cases c : 0 ≤ p ∧ p < 4
  · have h := H p c.1 c.2
    have hn := h.n
    refine .inl ⟨zI (linv (seg (A p) 0 (N p))), CR.of ?_, MR.of (fun M' K' => ?_)⟩
    · unfold fn_SA_inversionsByPairs
      simp (disch := omega) only [zlit, zI_add, zI_sub, zI_mul, zI_neg, zI_lt, zI_le, zI_eq, zI_cl, zI_max, zI_min, zI_abs, bnd_ok, bnd_ex, lm_eq, li_eq, grd_inb, grd_ser, grd_z, grd_lt, if_true, if_false, if_pos, if_neg, SA_in, h.pairs]
    · unfold fn_Mo_inversionsByPairs
      rw [mo_falling c K']
      rfl
  · refine .inr ⟨0, 0, 1, CR.of ?_, rfl, by decide, MR.of (fun M' K' => ?_)⟩
    · unfold fn_SA_inversionsByPairs
      simp (disch := omega) only [zlit, zI_add, zI_sub, zI_mul, zI_neg, zI_lt, zI_le, zI_eq, zI_cl, zI_max, zI_min, zI_abs, bnd_ok, bnd_ex, lm_eq, li_eq, grd_inb, grd_ser, grd_z, grd_lt, if_true, if_false, if_pos, if_neg, SA_in_no]
    · unfold fn_Mo_inversionsByPairs
      rw [mo_falling_no hp c]
      rfl
