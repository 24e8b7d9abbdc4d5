/-! NUMBERS: every Int32 is zI of an integer -/
def zI (z : Int) : Int32 := Int32.ofInt z
theorem zI_add (a b : Int) : zI a + zI b = zI (a + b) := (Int32.ofInt_add a b).symm
theorem zI_sub (a b : Int) : zI a - zI b = zI (a - b) := (Int32.ofInt_sub a b).symm
theorem zI_mul (a b : Int) : zI a * zI b = zI (a * b) := (Int32.ofInt_mul a b).symm
theorem zI_neg (a : Int) : -zI a = zI (-a) := (Int32.ofInt_neg a).symm
theorem zI_toInt {a : Int} (h : -2147483648 ≤ a ∧ a < 2147483648) : (zI a).toInt = a := Int32.toInt_ofInt_of_le (by omega) (by omega)
theorem zI_lt {a b : Int} (ha : -2147483648 ≤ a ∧ a < 2147483648) (hb : -2147483648 ≤ b ∧ b < 2147483648) : (zI a < zI b) = (a < b) := by
  rw [Int32.lt_iff_toInt_lt, zI_toInt ha, zI_toInt hb]
theorem zI_le {a b : Int} (ha : -2147483648 ≤ a ∧ a < 2147483648) (hb : -2147483648 ≤ b ∧ b < 2147483648) : (zI a ≤ zI b) = (a ≤ b) := by
  rw [Int32.le_iff_toInt_le, zI_toInt ha, zI_toInt hb]
theorem zI_eq {a b : Int} (ha : -2147483648 ≤ a ∧ a < 2147483648) (hb : -2147483648 ≤ b ∧ b < 2147483648) : (zI a = zI b) = (a = b) := by
  rw [← Int32.toInt_inj, zI_toInt ha, zI_toInt hb]
theorem zI_cl {a : Int} (h0 : 0 ≤ a) (h1 : a < 2147483648) : (zI a).toNatClampNeg = a.toNat := by
  show (zI a).toInt.toNat = a.toNat
  rw [zI_toInt ⟨by omega, h1⟩]
theorem zI_nI (n : Nat) : nI n = zI (n : Int) := Int32.ofInt_eq_ofNat.symm
theorem zI_ex (x : Int32) : ∃ z : Int, x = zI z ∧ -2147483648 ≤ z ∧ z < 2147483648 :=
  ⟨x.toInt, (Int32.ofInt_toInt x).symm, x.le_toInt, x.toInt_lt⟩
theorem zI_max {a b : Int} (ha : -2147483648 ≤ a ∧ a < 2147483648) (hb : -2147483648 ≤ b ∧ b < 2147483648) : imax (zI a) (zI b) = zI (max a b) := by
  unfold imax
  simp only [zI_lt ha hb]
  by_cases h : a < b
  · rw [if_pos h, show max a b = b by omega]
  · rw [if_neg h, show max a b = a by omega]
theorem zI_min {a b : Int} (ha : -2147483648 ≤ a ∧ a < 2147483648) (hb : -2147483648 ≤ b ∧ b < 2147483648) : imin (zI a) (zI b) = zI (min a b) := by
  unfold imin
  simp only [zI_lt hb ha]
  by_cases h : b < a
  · rw [if_pos h, show min a b = b by omega]
  · rw [if_neg h, show min a b = a by omega]
theorem zI_zero : (0 : Int32) = zI 0 := rfl
theorem zI_abs {a : Int} (ha : -2147483648 ≤ a ∧ a < 2147483648) : iabs (zI a) = zI (if 0 ≤ a then a else -a) := by
  unfold iabs
  simp only [zI_zero, zI_le (a := 0) (by omega) ha, zI_sub]
  by_cases h : 0 ≤ a
  · rw [if_pos h, if_pos h]
  · rw [if_neg h, if_neg h, Int.zero_sub]
theorem zlit : (0 : Int32) = zI 0 ∧ (1 : Int32) = zI 1 ∧ (2 : Int32) = zI 2 ∧ (3 : Int32) = zI 3 ∧ (4 : Int32) = zI 4 ∧ (5 : Int32) = zI 5 ∧ (6 : Int32) = zI 6 ∧ (7 : Int32) = zI 7 ∧ (8 : Int32) = zI 8 ∧ (9 : Int32) = zI 9 ∧ (10 : Int32) = zI 10 ∧ (12 : Int32) = zI 12 ∧ (13 : Int32) = zI 13 ∧ (16 : Int32) = zI 16 ∧ (18 : Int32) = zI 18 ∧ (19 : Int32) = zI 19 ∧ (20 : Int32) = zI 20 ∧ (21 : Int32) = zI 21 ∧ (32 : Int32) = zI 32 ∧ (39 : Int32) = zI 39 ∧ (40 : Int32) = zI 40 ∧ (45 : Int32) = zI 45 ∧ (48 : Int32) = zI 48 ∧ (57 : Int32) = zI 57 ∧ (59 : Int32) = zI 59 ∧ (60 : Int32) = zI 60 ∧ (61 : Int32) = zI 61 ∧ (63 : Int32) = zI 63 ∧ (68 : Int32) = zI 68 ∧ (73 : Int32) = zI 73 ∧ (78 : Int32) = zI 78 ∧ (84 : Int32) = zI 84 ∧ (85 : Int32) = zI 85 ∧ (99 : Int32) = zI 99 ∧ (101 : Int32) = zI 101 ∧ (102 : Int32) = zI 102 ∧ (104 : Int32) = zI 104 ∧ (105 : Int32) = zI 105 ∧ (108 : Int32) = zI 108 ∧ (109 : Int32) = zI 109 ∧ (110 : Int32) = zI 110 ∧ (111 : Int32) = zI 111 ∧ (112 : Int32) = zI 112 ∧ (114 : Int32) = zI 114 ∧ (115 : Int32) = zI 115 ∧ (116 : Int32) = zI 116 ∧ (117 : Int32) = zI 117 ∧ (120 : Int32) = zI 120 ∧ (121 : Int32) = zI 121 ∧ (126 : Int32) = zI 126 ∧ (128 : Int32) = zI 128 ∧ (140 : Int32) = zI 140 ∧ (142 : Int32) = zI 142 ∧ (400 : Int32) = zI 400 ∧ (65536 : Int32) = zI 65536 ∧ (1000000 : Int32) = zI 1000000 ∧ (1000000000 : Int32) = zI 1000000000 := by
  refine ⟨rfl, rfl, rfl, rfl, rfl, rfl, rfl, rfl, rfl, rfl, rfl, rfl, rfl, rfl, rfl, rfl, rfl, rfl, rfl, rfl, rfl, rfl, rfl, rfl, rfl, rfl, rfl, rfl, rfl, rfl, rfl, rfl, rfl, rfl, rfl, rfl, rfl, rfl, rfl, rfl, rfl, rfl, rfl, rfl, rfl, rfl, rfl, rfl, rfl, rfl, rfl, rfl, rfl, rfl, rfl, rfl, rfl⟩
theorem bnd_ok {α β : Type} (a : β) (M : Mm) (k : β → Mm → Rs α) : bnd (some (.inl a, M)) k = k a M := Eq.trans rfl rfl
theorem bnd_ex {α β : Type} (q : Nat) (M : Mm) (k : β → Mm → Rs α) : bnd (some (.inr q, M)) k = some (.inr q, M) := Eq.trans rfl rfl
theorem lm_eq {α : Type} (M : Mm) (k : Mm → Rs α) : lm M k = k M := Eq.trans rfl rfl
theorem li_eq {α : Type} (x : Int32) (k : Int32 → Rs α) : li x k = k x := Eq.trans rfl rfl
theorem grd_t {α : Type} {g : Prop} {d : Decidable g} {t : Option α} (h : g) : @grd α g d t = t := if_pos h
theorem inb_z {z : Int} {n : Nat} (h0 : 0 ≤ z) (h1 : z < n) (h2 : z < 2147483648) : inb (zI z) n := by
  intro h
  rcases h with h | h
  · rw [zI_zero, zI_lt (by omega) (by omega)] at h
    omega
  · rw [zI_cl h0 h2] at h
    omega
theorem grd_inb {α : Type} {z : Int} {n : Nat} {d : Decidable (inb (zI z) n)} {t : Option α} (h0 : 0 ≤ z) (h1 : z < n) (h2 : z < 2147483648) : @grd α (inb (zI z) n) d t = t := grd_t (inb_z h0 h1 h2)
theorem grd_ser {α : Type} {v : Nat} {d : Decidable (isSer v)} {t : Option α} (h : 2 ≤ v ∧ v ≤ 6) : @grd α (isSer v) d t = t := grd_t h
theorem grd_lt {α : Type} {a b : Nat} {d : Decidable (a < b)} {t : Option α} (h : a < b) : @grd α (a < b) d t = t := grd_t h
theorem grd_z {α : Type} {z : Int} {d : Decidable (isZ (zI z))} {t : Option α} (h : z = 0 ∨ z = 1) : @grd α (isZ (zI z)) d t = t := by
  refine grd_t ?_
  rcases h with rfl | rfl
  · exact .inl rfl
  · exact .inr rfl
theorem mrow_mrow (M : Mm) (k : Nat) (g h : Nat → Int32) : mrow (mrow M k g) k h = mrow M k h := by
  funext a
  unfold mrow
  by_cases e : a = k
  · rw [if_pos e, if_pos e]
  · rw [if_neg e, if_neg e, if_neg e]
theorem mrow_self (M : Mm) (k : Nat) : mrow M k (M k) = M := by
  funext a
  unfold mrow
  by_cases e : a = k
  · rw [if_pos e, e]
  · rw [if_neg e]
theorem mset_row (M : Mm) (k j : Nat) (x : Int32) : mset M k j x = mrow M k (upd (M k) j x) := rfl
theorem upd_eq (f : Nat → Int32) (k : Nat) (x : Int32) : upd f k x k = x := if_pos rfl
theorem upd_ne (f : Nat → Int32) {k j : Nat} (x : Int32) (h : j ≠ k) : upd f k x j = f j := if_neg h
/-! rows of ints read and written by index -/
theorem rd {k L : Nat} (hk : alen k = L) (h0 : L < 2147483648) {i : Int} (hi : 0 ≤ i ∧ i < L) (M : Mm) : fn_SA_read k (zI i) M = some (.inl (M k i.toNat), M) := by
  unfold fn_SA_read isIA
  rw [hk]
  simp only [zI_nI, zI_zero, zI_lt (a := i) (b := 0) (by omega) (by omega), zI_le (a := (L : Int)) (b := i) (by omega) (by omega), zI_cl hi.1 (by omega)]
  rw [grd_t (by omega), if_neg (by omega), if_neg (by omega), grd_inb (by omega) (by omega) (by omega)]
theorem rd_out {k L : Nat} (hk : alen k = L) (h0 : L < 2147483648) (hL : 0 < L) {i : Int} (hr : -2147483648 ≤ i ∧ i < 2147483648) (hi : i < 0 ∨ L ≤ i) (M : Mm) : fn_SA_read k (zI i) M = some (.inl (zI 0), M) := by
  unfold fn_SA_read isIA
  rw [hk]
  simp only [zI_nI, zI_zero, zI_lt (a := i) (b := 0) (by omega) (by omega), zI_le (a := (L : Int)) (b := i) (by omega) (by omega)]
  rw [grd_t (by omega)]
  by_cases h : i < 0
  · rw [if_pos h]
  · rw [if_neg h, if_pos (by omega)]
theorem wr {k L : Nat} (hk : alen k = L) (h0 : L < 2147483648) {i : Int} (hi : 0 ≤ i ∧ i < L) (x : Int32) (M : Mm) : fn_SA_write k (zI i) x M = some (.inl (), mset M k i.toNat x) := by
  unfold fn_SA_write isIA
  rw [hk]
  simp only [zI_nI, zI_zero, zI_lt (a := i) (b := 0) (by omega) (by omega), zI_le (a := (L : Int)) (b := i) (by omega) (by omega), zI_cl hi.1 (by omega)]
  rw [grd_t (by omega), if_neg (by omega), if_neg (by omega), grd_inb (by omega) (by omega) (by omega)]
  rfl
/-! a loop that counts up -/
def itr {β : Type} (f : Int → β → β) : Nat → Int → β → β
  | 0, _, b => b
  | k + 1, i, b => itr f k (i + 1) (f i b)
def lp {β : Type} (f : Int → β → β) (i j : Int) (b : β) : β := itr f (j - i).toNat i b
theorem lp_stop {β : Type} {f : Int → β → β} {i j : Int} {b : β} (h : j ≤ i) : lp f i j b = b := by
  unfold lp
  rw [show (j - i).toNat = 0 by omega]
  rfl
theorem lp_step {β : Type} {f : Int → β → β} {i j : Int} {b : β} (h : i < j) : lp f i j b = lp f (i + 1) j (f i b) := by
  unfold lp
  rw [show (j - i).toNat = (j - (i + 1)).toNat + 1 by omega]
  rfl
theorem lp_ind {β : Type} {f : Int → β → β} (P : Int → β → Prop) {j : Int} : ∀ (k : Nat) (i : Int) (b : β), k = (j - i).toNat → i ≤ j → P i b → (∀ x b, i ≤ x → x < j → P x b → P (x + 1) (f x b)) → P j (lp f i j b) := by
  intro k
  induction k with
  | zero =>
    intro i b hk hij h0 hs
    have e : i = j := by omega
    subst e
    rw [lp_stop (by omega)]
    exact h0
  | succ k ih =>
    intro i b hk hij h0 hs
    rw [lp_step (by omega)]
    exact ih (i + 1) (f i b) (by omega) (by omega) (hs i b (by omega) (by omega) h0) (fun x b hx hj hp => hs x b (by omega) hj hp)
theorem lp_inv {β : Type} {f : Int → β → β} (P : Int → β → Prop) {i j : Int} {b : β} (hij : i ≤ j) (h0 : P i b) (hs : ∀ x b, i ≤ x → x < j → P x b → P (x + 1) (f x b)) : P j (lp f i j b) := lp_ind P _ i b rfl hij h0 hs
theorem lp_last {β : Type} {f : Int → β → β} : ∀ (k : Nat) (i j : Int) (b : β), k = (j - i).toNat → i ≤ j → lp f i (j + 1) b = f j (lp f i j b) := by
  intro k
  induction k with
  | zero =>
    intro i j b hk hij
    have e : i = j := by omega
    subst e
    rw [lp_step (by omega), lp_stop (by omega), lp_stop (by omega)]
  | succ k ih =>
    intro i j b hk hij
    rw [lp_step (by omega), ih (i + 1) j _ (by omega) (by omega), lp_step (i := i) (j := j) (by omega)]
theorem lp_end {β : Type} {f : Int → β → β} {i j : Int} {b : β} (h : i ≤ j) : lp f i (j + 1) b = f j (lp f i j b) := lp_last _ i j b rfl h
theorem lp_congr {β : Type} {f g : Int → β → β} {j : Int} : ∀ (k : Nat) (i : Int) (b : β), k = (j - i).toNat → (∀ x b, i ≤ x → x < j → f x b = g x b) → lp f i j b = lp g i j b := by
  intro k
  induction k with
  | zero =>
    intro i b hk h
    rw [lp_stop (by omega), lp_stop (by omega)]
  | succ k ih =>
    intro i b hk h
    rw [lp_step (f := f) (i := i) (by omega), lp_step (f := g) (i := i) (by omega), h i b (by omega) (by omega)]
    exact ih (i + 1) _ (by omega) (fun x b hx hj => h x b (by omega) hj)
theorem lp_cong {β : Type} {f g : Int → β → β} {i j : Int} {b : β} (h : ∀ x b, i ≤ x → x < j → f x b = g x b) : lp f i j b = lp g i j b := lp_congr _ i b rfl h
/-! the first place where p holds; -1 if there is none -/
def fsN (p : Int → Bool) : Nat → Int → Int
  | 0, _ => -1
  | k + 1, i => if p i = true then i else fsN p k (i + 1)
def fs (p : Int → Bool) (i j : Int) : Int := fsN p (j - i).toNat i
theorem fs_stop {p : Int → Bool} {i j : Int} (h : j ≤ i) : fs p i j = -1 := by
  unfold fs
  rw [show (j - i).toNat = 0 by omega]
  rfl
theorem fs_hit {p : Int → Bool} {i j : Int} (h : i < j) (hp : p i = true) : fs p i j = i := by
  unfold fs
  rw [show (j - i).toNat = (j - (i + 1)).toNat + 1 by omega]
  exact if_pos hp
theorem fs_miss {p : Int → Bool} {i j : Int} (h : i < j) (hp : ¬ p i = true) : fs p i j = fs p (i + 1) j := by
  unfold fs
  rw [show (j - i).toNat = (j - (i + 1)).toNat + 1 by omega]
  exact if_neg hp
theorem fs_spec {p : Int → Bool} {j : Int} : ∀ (k : Nat) (i : Int), k = (j - i).toNat → (fs p i j = -1 ∧ ∀ x, i ≤ x → x < j → p x = false) ∨ (i ≤ fs p i j ∧ fs p i j < j ∧ p (fs p i j) = true ∧ ∀ x, i ≤ x → x < fs p i j → p x = false) := by
  intro k
  induction k with
  | zero =>
    intro i hk
    exact .inl ⟨fs_stop (by omega), fun x h1 h2 => by omega⟩
  | succ k ih =>
    intro i hk
    by_cases hp : p i = true
    · rw [fs_hit (by omega) hp]
      exact .inr ⟨by omega, by omega, hp, fun x h1 h2 => by omega⟩
    · rw [fs_miss (by omega) hp]
      rcases ih (i + 1) (by omega) with ⟨h1, h2⟩ | ⟨h1, h2, h3, h4⟩
      · refine .inl ⟨h1, fun x hx hj => ?_⟩
        by_cases e : x = i
        · rw [e]
          exact Bool.eq_false_iff.mpr hp
        · exact h2 x (by omega) hj
      · refine .inr ⟨by omega, h2, h3, fun x hx hj => ?_⟩
        by_cases e : x = i
        · rw [e]
          exact Bool.eq_false_iff.mpr hp
        · exact h4 x (by omega) hj
theorem fs_is {p : Int → Bool} (i j : Int) : (fs p i j = -1 ∧ ∀ x, i ≤ x → x < j → p x = false) ∨ (i ≤ fs p i j ∧ fs p i j < j ∧ p (fs p i j) = true ∧ ∀ x, i ≤ x → x < fs p i j → p x = false) := fs_spec _ i rfl
/-- what fs is, by its properties -/
theorem fs_uniq {p : Int → Bool} {i j r : Int} (h0 : i ≤ r) (h1 : r < j) (hp : p r = true) (hb : ∀ x, i ≤ x → x < r → p x = false) : fs p i j = r := by
  rcases fs_is (p := p) i j with ⟨h1', h2⟩ | ⟨h1', h2, h3, h4⟩
  · have := h2 r h0 h1
    rw [hp] at this
    cases this
  · by_cases e : fs p i j < r
    · have := hb _ h1' e
      rw [h3] at this
      cases this
    · by_cases e2 : r < fs p i j
      · have := h4 r h0 e2
        rw [hp] at this
        cases this
      · omega
theorem fs_none {p : Int → Bool} {i j : Int} (hb : ∀ x, i ≤ x → x < j → p x = false) : fs p i j = -1 := by
  rcases fs_is (p := p) i j with ⟨h1', h2⟩ | ⟨h1', h2, h3, h4⟩
  · exact h1'
  · have := hb _ h1' h2
    rw [h3] at this
    cases this
/-- all of them -/
def al (p : Int → Bool) (i j : Int) : Bool := lp (fun x b => b && p x) i j true
theorem lp_false {p : Int → Bool} {j : Int} : ∀ (k : Nat) (i : Int), k = (j - i).toNat → lp (fun x b => b && p x) i j false = false := by
  intro k
  induction k with
  | zero => intro i hk; exact lp_stop (by omega)
  | succ k ih => intro i hk; rw [lp_step (by omega)]; exact ih (i + 1) (by omega)
theorem al_stop {p : Int → Bool} {i j : Int} (h : j ≤ i) : al p i j = true := lp_stop h
theorem al_go {p : Int → Bool} {i j : Int} (h : i < j) (hp : p i = true) : al p i j = al p (i + 1) j := by
  unfold al
  rw [lp_step h, hp]
  rfl
theorem al_no {p : Int → Bool} {i j : Int} (h : i < j) (hp : ¬ p i = true) : al p i j = false := by
  unfold al
  rw [lp_step h, Bool.eq_false_iff.mpr hp]
  exact lp_false _ _ rfl
theorem al_all {p : Int → Bool} {j : Int} : ∀ (k : Nat) (i : Int), k = (j - i).toNat → (al p i j = true ↔ ∀ x, i ≤ x → x < j → p x = true) := by
  intro k
  induction k with
  | zero => intro i hk; exact ⟨fun _ x h1 h2 => by omega, fun _ => al_stop (by omega)⟩
  | succ k ih =>
    intro i hk
    by_cases hp : p i = true
    · rw [al_go (by omega) hp, ih (i + 1) (by omega)]
      refine ⟨fun h x h1 h2 => ?_, fun h x h1 h2 => h x (by omega) h2⟩
      by_cases e : x = i
      · rw [e]; exact hp
      · exact h x (by omega) h2
    · rw [al_no (by omega) hp]
      exact ⟨fun h => Bool.noConfusion h, fun h => absurd (h i (by omega) (by omega)) hp⟩
theorem al_iff {p : Int → Bool} {i j : Int} : al p i j = true ↔ ∀ x, i ≤ x → x < j → p x = true := al_all _ i rfl
def b01 (b : Bool) : Int := if b = true then 1 else 0
theorem b01_t {b : Bool} (h : b = true) : b01 b = 1 := if_pos h
theorem b01_f {b : Bool} (h : ¬ b = true) : b01 b = 0 := if_neg h
theorem b01_b (b : Bool) : b01 b = 0 ∨ b01 b = 1 := by
  cases b
  · exact .inl rfl
  · exact .inr rfl
theorem b01_y {q : Prop} {d : Decidable q} (h : q) : b01 (@decide q d) = 1 := b01_t (decide_eq_true h)
theorem b01_n {q : Prop} {d : Decidable q} (h : ¬ q) : b01 (@decide q d) = 0 := b01_f (by rw [decide_eq_true_eq]; exact h)
theorem fd_stop {q : Int → Prop} {d : ∀ x, Decidable (q x)} {i j : Int} (h : j ≤ i) : fs (fun x => @decide (q x) (d x)) i j = -1 := fs_stop h
theorem fd_hit {q : Int → Prop} {d : ∀ x, Decidable (q x)} {i j : Int} (h : i < j) (hq : q i) : fs (fun x => @decide (q x) (d x)) i j = i := fs_hit h (decide_eq_true hq)
theorem fd_miss {q : Int → Prop} {d : ∀ x, Decidable (q x)} {i j : Int} (h : i < j) (hq : ¬ q i) : fs (fun x => @decide (q x) (d x)) i j = fs (fun x => @decide (q x) (d x)) (i + 1) j := fs_miss h (by rw [decide_eq_true_eq]; exact hq)
theorem ad_stop {q : Int → Prop} {d : ∀ x, Decidable (q x)} {i j : Int} (h : j ≤ i) : al (fun x => @decide (q x) (d x)) i j = true := al_stop h
theorem ad_go {q : Int → Prop} {d : ∀ x, Decidable (q x)} {i j : Int} (h : i < j) (hq : q i) : al (fun x => @decide (q x) (d x)) i j = al (fun x => @decide (q x) (d x)) (i + 1) j := al_go h (decide_eq_true hq)
theorem ad_no {q : Int → Prop} {d : ∀ x, Decidable (q x)} {i j : Int} (h : i < j) (hq : ¬ q i) : al (fun x => @decide (q x) (d x)) i j = false := al_no h (by rw [decide_eq_true_eq]; exact hq)
def cntF (p : Int → Bool) (i j s : Int) : Int := lp (fun x s => s + b01 (p x)) i j s
theorem cd_stop {p : Int → Bool} {i j s : Int} (h : j ≤ i) : cntF p i j s = s := lp_stop h
theorem cd_y {q : Int → Prop} {d : ∀ x, Decidable (q x)} {i j s : Int} (h : i < j) (hq : q i) : cntF (fun x => @decide (q x) (d x)) i j s = cntF (fun x => @decide (q x) (d x)) (i + 1) j (s + 1) := by
  unfold cntF
  rw [lp_step h, b01_y hq]
theorem cd_n {q : Int → Prop} {d : ∀ x, Decidable (q x)} {i j s : Int} (h : i < j) (hq : ¬ q i) : cntF (fun x => @decide (q x) (d x)) i j s = cntF (fun x => @decide (q x) (d x)) (i + 1) j (s + 0) := by
  unfold cntF
  rw [lp_step h, b01_n hq]
theorem b01_true : b01 true = 1 := rfl
theorem b01_false : b01 false = 0 := rfl
