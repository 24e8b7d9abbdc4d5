/-! THE FIRST WORLD: the cells that the law made, as the memory M00 -/
def pmL : List Nat := [0, 1, 2, 4, 6, 8, 10, 3, 5, 7, 9, 11, 12, 13, 14, 15, 16, 17, 18, 19, 20, 21, 22, 23, 24, 25, 26, 27, 28, 29, 30, 31, 32, 33, 34, 35, 36, 37, 38, 39, 40, 41, 42, 43, 44, 45, 46]
def K1 (K : KT) (g : Nat → Nat) : KT := (kD K, fun k => (pmL[k]?).elim (kA K k) g, kC K, kz K)
theorem K1_hi (K : KT) (g : Nat → Nat) {k : Nat} (h : 1000 ≤ k) : kA (K1 K g) k = kA K k := by
  show (pmL[k]?).elim (kA K k) g = kA K k
  rw [List.getElem?_eq_none (show pmL.length ≤ k from Nat.le_trans (by decide) h)]
  rfl
theorem Kon_re {K : KT} {g : Nat → Nat} {s : State} {H : Heap} (h : Kon K s H) : Kon (K1 K g) s H := by
  obtain ⟨h1, h2, h3, h4, h5, h6, h7, h8, h9, h10, h11, h12, h13, h14, h15, h16, h17, h18, h19, h20, h21⟩ := h
  refine ⟨En_c h1 (fun i _ => K1_hi K g (by omega)), En_c h2 (fun i _ => K1_hi K g (by omega)), Ef_c h3 (fun i _ => ⟨K1_hi K g (by omega), congrArg Value.ref (K1_hi K g (by omega))⟩), ?_, ?_, ?_, ?_, S_c h8 (fun i _ => ⟨K1_hi K g (by omega), K1_hi K g (by omega)⟩), h9, h10, h11, h12, h13, h14, ?_, ?_, ?_, ?_, h19, h20, h21⟩
  · rw [K1_hi K g (by decide)]; exact h4
  · rw [K1_hi K g (by decide)]; exact T_c h5 (fun j _ => congrArg Value.ref (K1_hi K g (by omega)))
  · rw [K1_hi K g (by decide)]; exact h6
  · rw [K1_hi K g (by decide)]; exact h7
  · rw [K1_hi K g (by decide)]; exact h15
  · rw [K1_hi K g (by decide)]; exact h16
  · rw [K1_hi K g (by decide)]; exact h17
  · rw [K1_hi K g (by decide)]; exact h18
theorem m00_z {k : Nat} (h : k ≠ 0) (h2 : k ≠ 32) : M00 k = fun _ => 0 := funext fun j => M00_0 (fun h3 => h3.elim (fun h4 => h h4.1) (fun h4 => h2 h4.1))
theorem fw_0 (K : KT) (g : Nat → Nat) : ent (K1 K g) 0 (M00 0) = .inr (0, [.ref (g 1), .ref (g 12), .ref (g 14), .int 0, .ref (g 15), .ref (g 16), .int (-1), .int (-1), .ref (g 19), .ref (g 21), .ref (g 26), .ref (g 28), .ref (g 30)]) := rfl
theorem fw_1 (K : KT) (g : Nat → Nat) : ent (K1 K g) 1 (M00 1) = .inr (1, [.ref (g 2), .ref (g 4), .ref (g 6), .ref (g 8), .ref (g 10), .int 0]) := by
  rw [m00_z (by decide) (by decide)]
  rfl
theorem fw_2 (K : KT) (g : Nat → Nat) : ent (K1 K g) 2 (M00 2) = .inr (2, [.ref (g 3), .int 0]) := by
  rw [m00_z (by decide) (by decide)]
  rfl
theorem fw_3 (K : KT) (g : Nat → Nat) : ent (K1 K g) 3 (M00 3) = .inr (2, [.ref (g 5), .int 0]) := by
  rw [m00_z (by decide) (by decide)]
  rfl
theorem fw_4 (K : KT) (g : Nat → Nat) : ent (K1 K g) 4 (M00 4) = .inr (2, [.ref (g 7), .int 0]) := by
  rw [m00_z (by decide) (by decide)]
  rfl
theorem fw_5 (K : KT) (g : Nat → Nat) : ent (K1 K g) 5 (M00 5) = .inr (2, [.ref (g 9), .int 0]) := by
  rw [m00_z (by decide) (by decide)]
  rfl
theorem fw_6 (K : KT) (g : Nat → Nat) : ent (K1 K g) 6 (M00 6) = .inr (2, [.ref (g 11), .int 0]) := by
  rw [m00_z (by decide) (by decide)]
  rfl
theorem fw_7 (K : KT) (g : Nat → Nat) : ent (K1 K g) 7 (M00 7) = .inl (kC K 0, 20, .inl (fun _ => 0)) := by
  rw [m00_z (by decide) (by decide)]
  rfl
theorem fw_8 (K : KT) (g : Nat → Nat) : ent (K1 K g) 8 (M00 8) = .inl (kC K 0, 20, .inl (fun _ => 0)) := by
  rw [m00_z (by decide) (by decide)]
  rfl
theorem fw_9 (K : KT) (g : Nat → Nat) : ent (K1 K g) 9 (M00 9) = .inl (kC K 0, 20, .inl (fun _ => 0)) := by
  rw [m00_z (by decide) (by decide)]
  rfl
theorem fw_10 (K : KT) (g : Nat → Nat) : ent (K1 K g) 10 (M00 10) = .inl (kC K 0, 20, .inl (fun _ => 0)) := by
  rw [m00_z (by decide) (by decide)]
  rfl
theorem fw_11 (K : KT) (g : Nat → Nat) : ent (K1 K g) 11 (M00 11) = .inl (kC K 0, 20, .inl (fun _ => 0)) := by
  rw [m00_z (by decide) (by decide)]
  rfl
theorem fw_12 (K : KT) (g : Nat → Nat) : ent (K1 K g) 12 (M00 12) = .inr (3, [.ref (g 13), .int 0, .int 0]) := by
  rw [m00_z (by decide) (by decide)]
  rfl
theorem fw_13 (K : KT) (g : Nat → Nat) : ent (K1 K g) 13 (M00 13) = .inl (kC K 0, 680, .inl (fun _ => 0)) := by
  rw [m00_z (by decide) (by decide)]
  rfl
theorem fw_14 (K : KT) (g : Nat → Nat) : ent (K1 K g) 14 (M00 14) = .inl (kC K 0, 85, .inl (fun _ => 0)) := by
  rw [m00_z (by decide) (by decide)]
  rfl
theorem fw_15 (K : KT) (g : Nat → Nat) : ent (K1 K g) 15 (M00 15) = .inl (kC K 0, 85, .inl (fun _ => 0)) := by
  rw [m00_z (by decide) (by decide)]
  rfl
theorem fw_16 (K : KT) (g : Nat → Nat) : ent (K1 K g) 16 (M00 16) = .inr (4, [.ref (g 17), .int 0, .ref (g 18), .int 0, .ref (kA K (1000 + 0)), .int 0]) := by
  rw [m00_z (by decide) (by decide)]
  rfl
theorem fw_17 (K : KT) (g : Nat → Nat) : ent (K1 K g) 17 (M00 17) = .inl (kC K 1, 60, .inl (fun _ => 0)) := by
  rw [m00_z (by decide) (by decide)]
  rfl
theorem fw_18 (K : KT) (g : Nat → Nat) : ent (K1 K g) 18 (M00 18) = .inl (kC K 0, 3, .inl (fun _ => 0)) := by
  rw [m00_z (by decide) (by decide)]
  rfl
theorem fw_21 (K : KT) (g : Nat → Nat) : ent (K1 K g) 21 (M00 21) = .inr (5, [.ref (g 22), .ref (g 23), .ref (g 24), .ref (g 25)]) := by
  rw [m00_z (by decide) (by decide)]
  rfl
theorem fw_22 (K : KT) (g : Nat → Nat) : ent (K1 K g) 22 (M00 22) = .inl (kC K 0, 21, .inl (fun _ => 0)) := by
  rw [m00_z (by decide) (by decide)]
  rfl
theorem fw_23 (K : KT) (g : Nat → Nat) : ent (K1 K g) 23 (M00 23) = .inl (kC K 0, 20, .inl (fun _ => 0)) := by
  rw [m00_z (by decide) (by decide)]
  rfl
theorem fw_24 (K : KT) (g : Nat → Nat) : ent (K1 K g) 24 (M00 24) = .inl (kC K 0, 20, .inl (fun _ => 0)) := by
  rw [m00_z (by decide) (by decide)]
  rfl
theorem fw_25 (K : KT) (g : Nat → Nat) : ent (K1 K g) 25 (M00 25) = .inl (kC K 0, 20, .inl (fun _ => 0)) := by
  rw [m00_z (by decide) (by decide)]
  rfl
theorem fw_26 (K : KT) (g : Nat → Nat) : ent (K1 K g) 26 (M00 26) = .inr (6, [.ref (g 27)]) := by
  rw [m00_z (by decide) (by decide)]
  rfl
theorem fw_27 (K : KT) (g : Nat → Nat) : ent (K1 K g) 27 (M00 27) = .inl (kC K 0, 20, .inl (fun _ => 0)) := by
  rw [m00_z (by decide) (by decide)]
  rfl
theorem fw_28 (K : KT) (g : Nat → Nat) : ent (K1 K g) 28 (M00 28) = .inr (7, [.ref (g 29)]) := by
  rw [m00_z (by decide) (by decide)]
  rfl
theorem fw_29 (K : KT) (g : Nat → Nat) : ent (K1 K g) 29 (M00 29) = .inl (kC K 0, 105, .inl (fun _ => 0)) := by
  rw [m00_z (by decide) (by decide)]
  rfl
theorem fw_30 (K : KT) (g : Nat → Nat) : ent (K1 K g) 30 (M00 30) = .inr (8, [.ref (g 31)]) := by
  rw [m00_z (by decide) (by decide)]
  rfl
theorem fw_31 (K : KT) (g : Nat → Nat) : ent (K1 K g) 31 (M00 31) = .inl (kC K 0, 400, .inl (fun _ => 0)) := by
  rw [m00_z (by decide) (by decide)]
  rfl
theorem fw_32 (K : KT) (g : Nat → Nat) : ent (K1 K g) 32 (M00 32) = .inr (9, [.ref (g 33), .ref (g 34), .ref (g 35), .ref (g 36), .ref (g 37), .ref (g 38), .int 0, .int 0, .int (-1), .int (-1), .int 0, .ref (g 39), .int 0, .ref (g 40), .ref (g 41), .ref (g 42), .ref (g 43), .ref (g 44), .int 0, .int 0, .int 0, .int 0, .int 0]) := rfl
theorem fw_33 (K : KT) (g : Nat → Nat) : ent (K1 K g) 33 (M00 33) = .inl (kC K 0, 85, .inl (fun _ => 0)) := by
  rw [m00_z (by decide) (by decide)]
  rfl
theorem fw_34 (K : KT) (g : Nat → Nat) : ent (K1 K g) 34 (M00 34) = .inl (kC K 0, 85, .inl (fun _ => 0)) := by
  rw [m00_z (by decide) (by decide)]
  rfl
theorem fw_35 (K : KT) (g : Nat → Nat) : ent (K1 K g) 35 (M00 35) = .inl (kC K 0, 85, .inl (fun _ => 0)) := by
  rw [m00_z (by decide) (by decide)]
  rfl
theorem fw_36 (K : KT) (g : Nat → Nat) : ent (K1 K g) 36 (M00 36) = .inl (kC K 0, 680, .inl (fun _ => 0)) := by
  rw [m00_z (by decide) (by decide)]
  rfl
theorem fw_37 (K : KT) (g : Nat → Nat) : ent (K1 K g) 37 (M00 37) = .inl (kC K 0, 105, .inl (fun _ => 0)) := by
  rw [m00_z (by decide) (by decide)]
  rfl
theorem fw_38 (K : KT) (g : Nat → Nat) : ent (K1 K g) 38 (M00 38) = .inl (kC K 0, 20, .inl (fun _ => 0)) := by
  rw [m00_z (by decide) (by decide)]
  rfl
theorem fw_39 (K : KT) (g : Nat → Nat) : ent (K1 K g) 39 (M00 39) = .inl (kC K 0, 140, .inl (fun _ => 0)) := by
  rw [m00_z (by decide) (by decide)]
  rfl
theorem fw_40 (K : KT) (g : Nat → Nat) : ent (K1 K g) 40 (M00 40) = .inl (kC K 0, 60, .inl (fun _ => 0)) := by
  rw [m00_z (by decide) (by decide)]
  rfl
theorem fw_41 (K : KT) (g : Nat → Nat) : ent (K1 K g) 41 (M00 41) = .inl (kC K 0, 32, .inl (fun _ => 0)) := by
  rw [m00_z (by decide) (by decide)]
  rfl
theorem fw_42 (K : KT) (g : Nat → Nat) : ent (K1 K g) 42 (M00 42) = .inl (kC K 0, 32, .inl (fun _ => 0)) := by
  rw [m00_z (by decide) (by decide)]
  rfl
theorem fw_43 (K : KT) (g : Nat → Nat) : ent (K1 K g) 43 (M00 43) = .inl (kC K 0, 32, .inl (fun _ => 0)) := by
  rw [m00_z (by decide) (by decide)]
  rfl
theorem fw_44 (K : KT) (g : Nat → Nat) : ent (K1 K g) 44 (M00 44) = .inl (kC K 0, 32, .inl (fun _ => 0)) := by
  rw [m00_z (by decide) (by decide)]
  rfl
theorem fw_45 (K : KT) (g : Nat → Nat) : ent (K1 K g) 45 (M00 45) = .inl (kC K 2, 1, .inr (.inl (fun _ => 0))) := by
  rw [m00_z (by decide) (by decide)]
  show (.inl (kC K 2, 1, .inr (.inl (fun j => (0 : Int32).toInt64))) : va_E) = _
  rw [show (0 : Int32).toInt64 = 0 from by decide]
theorem fw_46 (K : KT) (g : Nat → Nat) : ent (K1 K g) 46 (M00 46) = .inl (kC K 3, 1, .inr (.inr (.inr (.inl (fun _ => 0))))) := by
  rw [m00_z (by decide) (by decide)]
  show (.inl (kC K 3, 1, .inr (.inr (.inr (.inl (fun _ => dbl 0 0))))) : va_E) = _
  rw [show dbl 0 0 = 0 from by decide]
def FV (K : KT) (g : Nat → Nat) : va_W := [(g 0, .inr (0, [.ref (g 1), .ref (g 12), .ref (g 14), .int 0, .ref (g 15), .ref (g 16), .int (-1), .int (-1), .ref (g 19), .ref (g 21), .ref (g 26), .ref (g 28), .ref (g 30)])), (g 1, .inr (1, [.ref (g 2), .ref (g 4), .ref (g 6), .ref (g 8), .ref (g 10), .int 0])), (g 2, .inr (2, [.ref (g 3), .int 0])), (g 4, .inr (2, [.ref (g 5), .int 0])), (g 6, .inr (2, [.ref (g 7), .int 0])), (g 8, .inr (2, [.ref (g 9), .int 0])), (g 10, .inr (2, [.ref (g 11), .int 0])), (g 3, .inl (kC K 0, 20, .inl (fun _ => 0))), (g 5, .inl (kC K 0, 20, .inl (fun _ => 0))), (g 7, .inl (kC K 0, 20, .inl (fun _ => 0))), (g 9, .inl (kC K 0, 20, .inl (fun _ => 0))), (g 11, .inl (kC K 0, 20, .inl (fun _ => 0))), (g 12, .inr (3, [.ref (g 13), .int 0, .int 0])), (g 13, .inl (kC K 0, 680, .inl (fun _ => 0))), (g 14, .inl (kC K 0, 85, .inl (fun _ => 0))), (g 15, .inl (kC K 0, 85, .inl (fun _ => 0))), (g 16, .inr (4, [.ref (g 17), .int 0, .ref (g 18), .int 0, .ref (kA K (1000 + 0)), .int 0])), (g 17, .inl (kC K 1, 60, .inl (fun _ => 0))), (g 18, .inl (kC K 0, 3, .inl (fun _ => 0))), (g 21, .inr (5, [.ref (g 22), .ref (g 23), .ref (g 24), .ref (g 25)])), (g 22, .inl (kC K 0, 21, .inl (fun _ => 0))), (g 23, .inl (kC K 0, 20, .inl (fun _ => 0))), (g 24, .inl (kC K 0, 20, .inl (fun _ => 0))), (g 25, .inl (kC K 0, 20, .inl (fun _ => 0))), (g 26, .inr (6, [.ref (g 27)])), (g 27, .inl (kC K 0, 20, .inl (fun _ => 0))), (g 28, .inr (7, [.ref (g 29)])), (g 29, .inl (kC K 0, 105, .inl (fun _ => 0))), (g 30, .inr (8, [.ref (g 31)])), (g 31, .inl (kC K 0, 400, .inl (fun _ => 0))), (g 32, .inr (9, [.ref (g 33), .ref (g 34), .ref (g 35), .ref (g 36), .ref (g 37), .ref (g 38), .int 0, .int 0, .int (-1), .int (-1), .int 0, .ref (g 39), .int 0, .ref (g 40), .ref (g 41), .ref (g 42), .ref (g 43), .ref (g 44), .int 0, .int 0, .int 0, .int 0, .int 0])), (g 33, .inl (kC K 0, 85, .inl (fun _ => 0))), (g 34, .inl (kC K 0, 85, .inl (fun _ => 0))), (g 35, .inl (kC K 0, 85, .inl (fun _ => 0))), (g 36, .inl (kC K 0, 680, .inl (fun _ => 0))), (g 37, .inl (kC K 0, 105, .inl (fun _ => 0))), (g 38, .inl (kC K 0, 20, .inl (fun _ => 0))), (g 39, .inl (kC K 0, 140, .inl (fun _ => 0))), (g 40, .inl (kC K 0, 60, .inl (fun _ => 0))), (g 41, .inl (kC K 0, 32, .inl (fun _ => 0))), (g 42, .inl (kC K 0, 32, .inl (fun _ => 0))), (g 43, .inl (kC K 0, 32, .inl (fun _ => 0))), (g 44, .inl (kC K 0, 32, .inl (fun _ => 0))), (g 45, .inl (kC K 2, 1, .inr (.inl (fun _ => 0)))), (g 46, .inl (kC K 3, 1, .inr (.inr (.inr (.inl (fun _ => 0)))))), (g 19, .inr (10, [.ref (g 20), .int 0, .int 0, .int 0])), (g 20, .inl (kC K 4, 16, .inl (fun _ => 0)))]
theorem FV_fw (K : KT) (g : Nat → Nat) : [0, 1, 2, 4, 6, 8, 10, 3, 5, 7, 9, 11, 12, 13, 14, 15, 16, 17, 18, 21, 22, 23, 24, 25, 26, 27, 28, 29, 30, 31, 32, 33, 34, 35, 36, 37, 38, 39, 40, 41, 42, 43, 44, 45, 46, 19, 20].map (fun i => (FW K g)[i]?) = (FV K g).map some := rfl
theorem FV_fm (K : KT) (g : Nat → Nat) : [0, 1, 2, 4, 6, 8, 10, 3, 5, 7, 9, 11, 12, 13, 14, 15, 16, 17, 18, 21, 22, 23, 24, 25, 26, 27, 28, 29, 30, 31, 32, 33, 34, 35, 36, 37, 38, 39, 40, 41, 42, 43, 44, 45, 46, 19, 20].filterMap (fun i => (FW K g)[i]?) = FV K g := rfl
theorem FV_ws (K : KT) (g : Nat → Nat) : wsx (K1 K g) M00 [(kA (K1 K g) 19, .inr (10, [.ref (g 20), .int 0, .int 0, .int (nI 0)])), (g 20, .inl (kC (K1 K g) 4, 16, .inl (fun _ => 0)))] = FV K g := by
  unfold wsx zz_locs
  simp only [List.map_cons, List.map_nil, fw_0, fw_1, fw_2, fw_3, fw_4, fw_5, fw_6, fw_7, fw_8, fw_9, fw_10, fw_11, fw_12, fw_13, fw_14, fw_15, fw_16, fw_17, fw_18, fw_21, fw_22, fw_23, fw_24, fw_25, fw_26, fw_27, fw_28, fw_29, fw_30, fw_31, fw_32, fw_33, fw_34, fw_35, fw_36, fw_37, fw_38, fw_39, fw_40, fw_41, fw_42, fw_43, fw_44, fw_45, fw_46]
  rfl
theorem first_inv {K : KT} {g : Nat → Nat} {H : Heap} (h : GI K (FW K g) H) : InvH (K1 K g) M00 H := by
  refine ⟨_, ⟨g 20, 16, 0, 0, fun _ => 0, fun _ => 0, rfl, M00_0 (by decide), Nat.zero_le _, Or.inl rfl, fun j hj => absurd hj (Nat.not_lt_zero _), fun _ => rfl, fun j hj => absurd hj (Nat.not_lt_zero _)⟩, ?_, ?_⟩
  · rw [FV_ws]
    exact h.1.sub [0, 1, 2, 4, 6, 8, 10, 3, 5, 7, 9, 11, 12, 13, 14, 15, 16, 17, 18, 21, 22, 23, 24, 25, 26, 27, 28, 29, 30, 31, 32, 33, 34, 35, 36, 37, 38, 39, 40, 41, 42, 43, 44, 45, 46, 19, 20] (FV_fm K g)
  · rw [FV_ws]
    exact h.2.sub [0, 1, 2, 4, 6, 8, 10, 3, 5, 7, 9, 11, 12, 13, 14, 15, 16, 17, 18, 21, 22, 23, 24, 25, 26, 27, 28, 29, 30, 31, 32, 33, 34, 35, 36, 37, 38, 39, 40, 41, 42, 43, 44, 45, 46, 19, 20] (by decide) (FV_fw K g)
