/-! the JDK's methods, walked -/
theorem jx_max {x p : Nat} (h : x ≤ p) (hp : p < 2 ^ 31) : imax (nI x) (nI p) = nI p := by
  unfold imax
  by_cases c : nI x < nI p
  · exact if_pos c
  · have h1 := mt (nI_ltI (a := x) (b := p) (by omega) hp).2 c
    have e : x = p := by omega
    subst e
    exact if_neg c
theorem jx_min {x p : Nat} (h : x ≤ p) (hp : p < 2 ^ 31) : imin (nI x) (nI p) = nI x := if_neg (nI_nlt h hp)
theorem jx_nar : ∀ c, c < 256 → vp_nar .byte (sb_b c) = sb_b c := by decide +kernel
theorem jx_a2 (n : Nat) : nI n + 2 = nI (n + 2) := by rw [← nI_add]; rfl
theorem jx_a1 (n : Nat) : nI n + 1 = nI (n + 1) := by rw [← nI_add]; rfl
def jx_M (m : Nat) : Prop := m = 16 ∨ m = 34 ∨ m = 70 ∨ m = 142
theorem jx_Mle {m : Nat} (h : jx_M m) : 16 ≤ m ∧ m ≤ 142 := by unfold jx_M at h; omega
/-- a number's letters -/
def dgN (g : Bool) (w : Nat) : List Nat := (if g then [45] else []) ++ (if 10 ≤ w then [48 + w / 10, 48 + w % 10] else [48 + w % 10])
def sgN (g : Bool) (w : Nat) : Int32 := if g then -nI w else nI w
theorem dg_len : ∀ g, ∀ w, w < 100 → 1 ≤ (dgN g w).length ∧ (dgN g w).length ≤ 3 := by decide +kernel
theorem dg_f1 {w : Nat} (h : ¬ 10 ≤ w) : dgN false w = [48 + w % 10] := by
  unfold dgN
  rw [if_neg h]
  rfl
theorem dg_f2 {w : Nat} (h : 10 ≤ w) : dgN false w = [48 + w / 10, 48 + w % 10] := by
  unfold dgN
  rw [if_pos h]
  rfl
theorem dg_t1 {w : Nat} (h : ¬ 10 ≤ w) : dgN true w = [45, 48 + w % 10] := by
  unfold dgN
  rw [if_neg h]
  rfl
theorem dg_t2 {w : Nat} (h : 10 ≤ w) : dgN true w = [45, 48 + w / 10, 48 + w % 10] := by
  unfold dgN
  rw [if_pos h]
  rfl
theorem sb_vc : ∀ {c : Nat}, c < 256 → vp_nar .char (nI c) = nI c := by
  intro c h
  exact (by decide +kernel : ∀ c, c < 256 → vp_nar .char (nI c) = nI c) c h
theorem dg_lt : ∀ g, ∀ w, w < 100 → ∀ i, i < (dgN g w).length → (dgN g w).getD i 0 < 128 := by decide +kernel
theorem jx_neg (w : Nat) : - - nI w = nI w := Int32.neg_neg
theorem jx_n10 : (-10 : Int32) = -nI 10 := by decide
theorem jx_n100 : (-100 : Int32) = -nI 100 := by decide
theorem jx_n9 : (-9 : Int32) = -nI 9 := by decide
theorem jx_m1 {p : Nat} (h : 0 < p) : nI p + Int32.ofInt (-1) = nI (p - 1) := sb_m1 h
section JM
variable {l : Launch}
def y_A_length : MethodName := ⟨"java/lang/AbstractStringBuilder", "length", "()I"⟩
theorem my_A_length : MY y_A_length prog_17_method_6_code 1 (some .int) 0 := ⟨zz_c6 234 (by decide +kernel) rfl, zz_c1 8 (by decide +kernel) rfl, by decide +kernel, by decide +kernel, by decide +kernel⟩
theorem mi_A_length : Cond.instanceMethod y_A_length ∈ zz_good := zz_c6 228 (by decide +kernel) rfl
theorem mq_A_length : Cond.sameMethod y_A_length.cls y_A_length.cls y_A_length.name y_A_length.desc ∈ zz_good := zz_c6 229 (by decide +kernel) rfl
noncomputable def L_A_length : zz_L := [(0, .aload_n 0, 1), (1, .getfield 79, 3), (4, .ireturn, 1)]
theorem dec_A_length : zz_decAll prog_17_method_6_code L_A_length = true := by decide +kernel
def y_A_isLatin1 : MethodName := ⟨"java/lang/AbstractStringBuilder", "isLatin1", "()Z"⟩
theorem my_A_isLatin1 : MY y_A_isLatin1 prog_17_method_68_code 1 (some .boolean) 0 := ⟨zz_c6 115 (by decide +kernel) rfl, zz_c1 8 (by decide +kernel) rfl, by decide +kernel, by decide +kernel, by decide +kernel⟩
theorem mi_A_isLatin1 : Cond.instanceMethod y_A_isLatin1 ∈ zz_good := zz_c6 112 (by decide +kernel) rfl
theorem ms_A_isLatin1 : Cond.selects "java/lang/StringBuilder" y_A_isLatin1 y_A_isLatin1 ∈ zz_good := zz_c6 114 (by decide +kernel) rfl
theorem mq_A_isLatin1 : Cond.sameMethod y_A_isLatin1.cls y_A_isLatin1.cls y_A_isLatin1.name y_A_isLatin1.desc ∈ zz_good := zz_c6 113 (by decide +kernel) rfl
noncomputable def L_A_isLatin1 : zz_L := [(0, .getstatic 18, 3), (3, .ifCond .eq 14, 3), (6, .aload_n 0, 1), (7, .getfield 22, 3), (10, .ifCond .ne 7, 3), (13, .iconst 1, 1), (14, .goto 4, 3), (17, .iconst 0, 1), (18, .ireturn, 1)]
theorem dec_A_isLatin1 : zz_decAll prog_17_method_68_code L_A_isLatin1 = true := by decide +kernel
def y_newLength : MethodName := ⟨"jdk/internal/util/ArraysSupport", "newLength", "(III)I"⟩
theorem my_newLength : MY y_newLength prog_44_method_27_code 4 (some .int) 3 := ⟨zz_c6 90 (by decide +kernel) rfl, zz_c1 31 (by decide +kernel) rfl, by decide +kernel, by decide +kernel, by decide +kernel⟩
theorem mt_newLength : Cond.static y_newLength ∈ zz_good := zz_c6 89 (by decide +kernel) rfl
noncomputable def L_newLength : zz_L := [(0, .iload_n 0, 1), (1, .iload_n 1, 1), (2, .iload_n 2, 1), (3, .invokestatic 194, 3), (6, .iadd, 1), (7, .istore_n 3, 1), (8, .iconst 0, 1), (9, .iload_n 3, 1), (10, .if_icmp .ge 11, 3), (13, .iload_n 3, 1), (14, .ldc 200, 2), (16, .if_icmp .gt 5, 3), (19, .iload_n 3, 1), (20, .ireturn, 1), (21, .iload_n 0, 1), (22, .iload_n 1, 1), (23, .invokestatic 201, 3), (26, .ireturn, 1)]
theorem dec_newLength : zz_decAll prog_44_method_27_code L_newLength = true := by decide +kernel
def y_A_newCapacity : MethodName := ⟨"java/lang/AbstractStringBuilder", "newCapacity", "(I)I"⟩
theorem my_A_newCapacity : MY y_A_newCapacity prog_17_method_10_code 6 (some .int) 1 := ⟨zz_c6 87 (by decide +kernel) rfl, zz_c1 8 (by decide +kernel) rfl, by decide +kernel, by decide +kernel, by decide +kernel⟩
theorem mi_A_newCapacity : Cond.instanceMethod y_A_newCapacity ∈ zz_good := zz_c6 86 (by decide +kernel) rfl
theorem mp_A_newCapacity : Cond.privateMethod y_A_newCapacity ∈ lw_tbl := tl_6 85 (by decide +kernel)
theorem mq_A_newCapacity : Cond.sameMethod y_A_newCapacity.cls y_A_newCapacity.cls y_A_newCapacity.name y_A_newCapacity.desc ∈ zz_good := zz_c10 190 (by decide +kernel) rfl
noncomputable def L_A_newCapacity : zz_L := [(0, .aload_n 0, 1), (1, .getfield 15, 3), (4, .arraylength, 1), (5, .istore_n 2, 1), (6, .iload_n 1, 1), (7, .aload_n 0, 1), (8, .getfield 22, 3), (11, .ishl, 1), (12, .istore_n 3, 1), (13, .iload_n 3, 1), (14, .iload_n 2, 1), (15, .isub, 1), (16, .istore 4, 2), (18, .iload_n 2, 1), (19, .iload 4, 2), (21, .iload_n 2, 1), (22, .iconst 2, 1), (23, .aload_n 0, 1), (24, .getfield 22, 3), (27, .ishl, 1), (28, .iadd, 1), (29, .invokestatic 114, 3), (32, .istore 5, 2), (34, .iload 5, 2), (36, .ldc 39, 2), (38, .if_icmp .ne 13, 3), (41, .new 120, 3), (44, .dup, 1), (45, .ldc 122, 2), (47, .invokespecial 124, 3), (50, .athrow, 1), (51, .iload 5, 2), (53, .aload_n 0, 1), (54, .getfield 22, 3), (57, .ishr, 1), (58, .ireturn, 1)]
theorem dec_A_newCapacity : zz_decAll prog_17_method_10_code L_A_newCapacity = true := by decide +kernel
def y_copyOf : MethodName := ⟨"java/util/Arrays", "copyOf", "([BI)[B"⟩
theorem my_copyOf : MY y_copyOf prog_42_method_121_code 3 (some (.array .byte)) 2 := ⟨zz_c6 99 (by decide +kernel) rfl, zz_c1 32 (by decide +kernel) rfl, by decide +kernel, by decide +kernel, by decide +kernel⟩
theorem mt_copyOf : Cond.static y_copyOf ∈ zz_good := zz_c6 98 (by decide +kernel) rfl
noncomputable def L_copyOf : zz_L := [(0, .iload_n 1, 1), (1, .aload_n 0, 1), (2, .arraylength, 1), (3, .if_icmp .ne 11, 3), (6, .aload_n 0, 1), (7, .invokevirtual 310, 3), (10, .checkcast 311, 3), (13, .areturn, 1), (14, .iload_n 1, 1), (15, .newarray .byte, 2), (17, .astore_n 2, 1), (18, .aload_n 0, 1), (19, .iconst 0, 1), (20, .aload_n 2, 1), (21, .iconst 0, 1), (22, .aload_n 0, 1), (23, .arraylength, 1), (24, .iload_n 1, 1), (25, .invokestatic 304, 3), (28, .invokestatic 150, 3), (31, .aload_n 2, 1), (32, .areturn, 1)]
theorem dec_copyOf : zz_decAll prog_42_method_121_code L_copyOf = true := by decide +kernel
def y_A_ensure : MethodName := ⟨"java/lang/AbstractStringBuilder", "ensureCapacityInternal", "(I)V"⟩
theorem my_A_ensure : MY y_A_ensure prog_17_method_9_code 3 none 1 := ⟨zz_c6 83 (by decide +kernel) rfl, zz_c1 8 (by decide +kernel) rfl, by decide +kernel, by decide +kernel, by decide +kernel⟩
theorem mi_A_ensure : Cond.instanceMethod y_A_ensure ∈ zz_good := zz_c6 82 (by decide +kernel) rfl
theorem mp_A_ensure : Cond.privateMethod y_A_ensure ∈ lw_tbl := tl_6 81 (by decide +kernel)
theorem mq_A_ensure : Cond.sameMethod y_A_ensure.cls y_A_ensure.cls y_A_ensure.name y_A_ensure.desc ∈ zz_good := zz_c10 189 (by decide +kernel) rfl
noncomputable def L_A_ensure : zz_L := [(0, .aload_n 0, 1), (1, .getfield 15, 3), (4, .arraylength, 1), (5, .aload_n 0, 1), (6, .getfield 22, 3), (9, .ishr, 1), (10, .istore_n 2, 1), (11, .iload_n 1, 1), (12, .iload_n 2, 1), (13, .isub, 1), (14, .ifCond .le 24, 3), (17, .aload_n 0, 1), (18, .aload_n 0, 1), (19, .getfield 15, 3), (22, .aload_n 0, 1), (23, .iload_n 1, 1), (24, .invokevirtual 104, 3), (27, .aload_n 0, 1), (28, .getfield 22, 3), (31, .ishl, 1), (32, .invokestatic 108, 3), (35, .putfield 15, 3), (38, .return_, 1)]
theorem dec_A_ensure : zz_decAll prog_17_method_9_code L_A_ensure = true := by decide +kernel
def y_canEncode : MethodName := ⟨"java/lang/StringLatin1", "canEncode", "(C)Z"⟩
theorem my_canEncode : MY y_canEncode prog_36_method_3_code 1 (some .boolean) 1 := ⟨zz_c7 81 (by decide +kernel) rfl, zz_c1 35 (by decide +kernel) rfl, by decide +kernel, by decide +kernel, by decide +kernel⟩
theorem mt_canEncode : Cond.static y_canEncode ∈ zz_good := zz_c7 80 (by decide +kernel) rfl
noncomputable def L_canEncode : zz_L := [(0, .iload_n 0, 1), (1, .sipush 255, 3), (4, .if_icmp .gt 7, 3), (7, .iconst 1, 1), (8, .goto 4, 3), (11, .iconst 0, 1), (12, .ireturn, 1)]
theorem dec_canEncode : zz_decAll prog_36_method_3_code L_canEncode = true := by decide +kernel
def y_A_appendC : MethodName := ⟨"java/lang/AbstractStringBuilder", "append", "(C)Ljava/lang/AbstractStringBuilder;"⟩
theorem my_A_appendC : MY y_A_appendC prog_17_method_31_code 2 (some (.object "java/lang/AbstractStringBuilder")) 1 := ⟨zz_c7 78 (by decide +kernel) rfl, zz_c1 8 (by decide +kernel) rfl, by decide +kernel, by decide +kernel, by decide +kernel⟩
theorem mi_A_appendC : Cond.instanceMethod y_A_appendC ∈ zz_good := zz_c7 77 (by decide +kernel) rfl
theorem mq_A_appendC : Cond.sameMethod y_A_appendC.cls y_A_appendC.cls y_A_appendC.name y_A_appendC.desc ∈ zz_good := zz_c10 196 (by decide +kernel) rfl
noncomputable def L_A_appendC : zz_L := [(0, .aload_n 0, 1), (1, .aload_n 0, 1), (2, .getfield 79, 3), (5, .iconst 1, 1), (6, .iadd, 1), (7, .invokevirtual 100, 3), (10, .aload_n 0, 1), (11, .invokevirtual 83, 3), (14, .ifCond .eq 31, 3), (17, .iload_n 1, 1), (18, .invokestatic 191, 3), (21, .ifCond .eq 24, 3), (24, .aload_n 0, 1), (25, .getfield 15, 3), (28, .aload_n 0, 1), (29, .dup, 1), (30, .getfield 79, 3), (33, .dup_x1, 1), (34, .iconst 1, 1), (35, .iadd, 1), (36, .putfield 79, 3), (39, .iload_n 1, 1), (40, .i2b, 1), (41, .bastore, 1), (42, .goto 33, 3), (45, .aload_n 0, 1), (46, .invokevirtual 83, 3), (49, .ifCond .eq 7, 3), (52, .aload_n 0, 1), (53, .invokevirtual 195, 3), (56, .aload_n 0, 1), (57, .getfield 15, 3), (60, .aload_n 0, 1), (61, .dup, 1), (62, .getfield 79, 3), (65, .dup_x1, 1), (66, .iconst 1, 1), (67, .iadd, 1), (68, .putfield 79, 3), (71, .iload_n 1, 1), (72, .invokestatic 197, 3), (75, .aload_n 0, 1), (76, .areturn, 1)]
theorem dec_A_appendC : zz_decAll prog_17_method_31_code L_A_appendC = true := by decide +kernel
def y_A_appendI : MethodName := ⟨"java/lang/AbstractStringBuilder", "append", "(I)Ljava/lang/AbstractStringBuilder;"⟩
theorem my_A_appendI : MY y_A_appendI prog_17_method_32_code 4 (some (.object "java/lang/AbstractStringBuilder")) 1 := ⟨zz_c6 191 (by decide +kernel) rfl, zz_c1 8 (by decide +kernel) rfl, by decide +kernel, by decide +kernel, by decide +kernel⟩
theorem mi_A_appendI : Cond.instanceMethod y_A_appendI ∈ zz_good := zz_c6 190 (by decide +kernel) rfl
theorem mq_A_appendI : Cond.sameMethod y_A_appendI.cls y_A_appendI.cls y_A_appendI.name y_A_appendI.desc ∈ zz_good := zz_c10 194 (by decide +kernel) rfl
noncomputable def L_A_appendI : zz_L := [(0, .aload_n 0, 1), (1, .getfield 79, 3), (4, .istore_n 2, 1), (5, .iload_n 2, 1), (6, .iload_n 1, 1), (7, .invokestatic 245, 3), (10, .iadd, 1), (11, .istore_n 3, 1), (12, .aload_n 0, 1), (13, .iload_n 3, 1), (14, .invokevirtual 100, 3), (17, .aload_n 0, 1), (18, .invokevirtual 83, 3), (21, .ifCond .eq 16, 3), (24, .iload_n 1, 1), (25, .iload_n 3, 1), (26, .aload_n 0, 1), (27, .getfield 15, 3), (30, .invokestatic 248, 3), (33, .pop, 1), (34, .goto 14, 3), (37, .iload_n 1, 1), (38, .iload_n 2, 1), (39, .iload_n 3, 1), (40, .aload_n 0, 1), (41, .getfield 15, 3), (44, .invokestatic 251, 3), (47, .pop, 1), (48, .aload_n 0, 1), (49, .iload_n 3, 1), (50, .putfield 79, 3), (53, .aload_n 0, 1), (54, .areturn, 1)]
theorem dec_A_appendI : zz_decAll prog_17_method_32_code L_A_appendI = true := by decide +kernel
def y_stringSize : MethodName := ⟨"java/lang/Integer", "stringSize", "(I)I"⟩
theorem my_stringSize : MY y_stringSize prog_29_method_13_code 4 (some .int) 1 := ⟨zz_c6 194 (by decide +kernel) rfl, zz_c1 37 (by decide +kernel) rfl, by decide +kernel, by decide +kernel, by decide +kernel⟩
theorem mt_stringSize : Cond.static y_stringSize ∈ zz_good := zz_c6 193 (by decide +kernel) rfl
noncomputable def L_stringSize : zz_L := [(0, .iconst 1, 1), (1, .istore_n 1, 1), (2, .iload_n 0, 1), (3, .ifCond .lt 8, 3), (6, .iconst 0, 1), (7, .istore_n 1, 1), (8, .iload_n 0, 1), (9, .ineg, 1), (10, .istore_n 0, 1), (11, .bipush (-10), 2), (13, .istore_n 2, 1), (14, .iconst 1, 1), (15, .istore_n 3, 1), (16, .iload_n 3, 1), (17, .bipush 10, 2), (19, .if_icmp .ge 23, 3), (22, .iload_n 0, 1), (23, .iload_n 2, 1), (24, .if_icmp .le 7, 3), (27, .iload_n 3, 1), (28, .iload_n 1, 1), (29, .iadd, 1), (30, .ireturn, 1), (31, .bipush 10, 2), (33, .iload_n 2, 1), (34, .imul, 1), (35, .istore_n 2, 1), (36, .iinc 3 1, 3), (39, .goto (-23), 3), (42, .bipush 10, 2), (44, .iload_n 1, 1), (45, .iadd, 1), (46, .ireturn, 1)]
theorem dec_stringSize : zz_decAll prog_29_method_13_code L_stringSize = true := by decide +kernel
def y_getChars : MethodName := ⟨"java/lang/Integer", "getChars", "(II[B)I"⟩
theorem my_getChars : MY y_getChars prog_29_method_12_code 7 (some .int) 3 := ⟨zz_c6 197 (by decide +kernel) rfl, zz_c1 37 (by decide +kernel) rfl, by decide +kernel, by decide +kernel, by decide +kernel⟩
theorem mt_getChars : Cond.static y_getChars ∈ zz_good := zz_c6 196 (by decide +kernel) rfl
noncomputable def L_getChars : zz_L := [(0, .iload_n 1, 1), (1, .istore 5, 2), (3, .iload_n 0, 1), (4, .ifCond .ge 7, 3), (7, .iconst 1, 1), (8, .goto 4, 3), (11, .iconst 0, 1), (12, .istore 6, 2), (14, .iload 6, 2), (16, .ifCond .ne 6, 3), (19, .iload_n 0, 1), (20, .ineg, 1), (21, .istore_n 0, 1), (22, .iload_n 0, 1), (23, .bipush (-100), 2), (25, .if_icmp .gt 47, 3), (28, .iload_n 0, 1), (29, .bipush 100, 2), (31, .idiv, 1), (32, .istore_n 3, 1), (33, .iload_n 3, 1), (34, .bipush 100, 2), (36, .imul, 1), (37, .iload_n 0, 1), (38, .isub, 1), (39, .istore 4, 2), (41, .iload_n 3, 1), (42, .istore_n 0, 1), (43, .aload_n 2, 1), (44, .iinc 5 (-1), 3), (47, .iload 5, 2), (49, .getstatic 83, 3), (52, .iload 4, 2), (54, .baload, 1), (55, .bastore, 1), (56, .aload_n 2, 1), (57, .iinc 5 (-1), 3), (60, .iload 5, 2), (62, .getstatic 87, 3), (65, .iload 4, 2), (67, .baload, 1), (68, .bastore, 1), (69, .goto (-47), 3), (72, .aload_n 2, 1), (73, .iinc 5 (-1), 3), (76, .iload 5, 2), (78, .getstatic 83, 3), (81, .iload_n 0, 1), (82, .ineg, 1), (83, .baload, 1), (84, .bastore, 1), (85, .iload_n 0, 1), (86, .bipush (-9), 2), (88, .if_icmp .ge 16, 3), (91, .aload_n 2, 1), (92, .iinc 5 (-1), 3), (95, .iload 5, 2), (97, .getstatic 87, 3), (100, .iload_n 0, 1), (101, .ineg, 1), (102, .baload, 1), (103, .bastore, 1), (104, .iload 6, 2), (106, .ifCond .eq 12, 3), (109, .aload_n 2, 1), (110, .iinc 5 (-1), 3), (113, .iload 5, 2), (115, .bipush 45, 2), (117, .bastore, 1), (118, .iload 5, 2), (120, .ireturn, 1)]
theorem dec_getChars : zz_decAll prog_29_method_12_code L_getChars = true := by decide +kernel
def y_A_setLength : MethodName := ⟨"java/lang/AbstractStringBuilder", "setLength", "(I)V"⟩
theorem my_A_setLength : MY y_A_setLength prog_17_method_13_code 2 none 1 := ⟨zz_c6 60 (by decide +kernel) rfl, zz_c1 8 (by decide +kernel) rfl, by decide +kernel, by decide +kernel, by decide +kernel⟩
theorem mi_A_setLength : Cond.instanceMethod y_A_setLength ∈ zz_good := zz_c6 59 (by decide +kernel) rfl
theorem mq_A_setLength : Cond.sameMethod y_A_setLength.cls y_A_setLength.cls y_A_setLength.name y_A_setLength.desc ∈ zz_good := zz_c10 186 (by decide +kernel) rfl
noncomputable def L_A_setLength : zz_L := [(0, .iload_n 1, 1), (1, .ifCond .ge 12, 3), (4, .new 129, 3), (7, .dup, 1), (8, .iload_n 1, 1), (9, .invokespecial 131, 3), (12, .athrow, 1), (13, .aload_n 0, 1), (14, .iload_n 1, 1), (15, .invokevirtual 100, 3), (18, .aload_n 0, 1), (19, .getfield 79, 3), (22, .iload_n 1, 1), (23, .if_icmp .ge 40, 3), (26, .aload_n 0, 1), (27, .invokevirtual 83, 3), (30, .ifCond .eq 18, 3), (33, .aload_n 0, 1), (34, .getfield 15, 3), (37, .aload_n 0, 1), (38, .getfield 79, 3), (41, .iload_n 1, 1), (42, .invokestatic 133, 3), (45, .goto 31, 3), (48, .aload_n 0, 1), (49, .getfield 15, 3), (52, .aload_n 0, 1), (53, .getfield 79, 3), (56, .iload_n 1, 1), (57, .invokestatic 137, 3), (60, .goto 16, 3), (63, .aload_n 0, 1), (64, .getfield 79, 3), (67, .iload_n 1, 1), (68, .if_icmp .le 8, 3), (71, .aload_n 0, 1), (72, .iconst 1, 1), (73, .putfield 73, 3), (76, .aload_n 0, 1), (77, .iload_n 1, 1), (78, .putfield 79, 3), (81, .return_, 1)]
theorem dec_A_setLength : zz_decAll prog_17_method_13_code L_A_setLength = true := by decide +kernel
def y_A_charAt : MethodName := ⟨"java/lang/AbstractStringBuilder", "charAt", "(I)C"⟩
theorem my_A_charAt : MY y_A_charAt prog_17_method_14_code 5 (some .char) 1 := ⟨zz_c7 116 (by decide +kernel) rfl, zz_c1 8 (by decide +kernel) rfl, by decide +kernel, by decide +kernel, by decide +kernel⟩
theorem mi_A_charAt : Cond.instanceMethod y_A_charAt ∈ zz_good := zz_c7 115 (by decide +kernel) rfl
theorem mq_A_charAt : Cond.sameMethod y_A_charAt.cls y_A_charAt.cls y_A_charAt.name y_A_charAt.desc ∈ zz_good := zz_c10 197 (by decide +kernel) rfl
noncomputable def L_A_charAt : zz_L := [(0, .aload_n 0, 1), (1, .getfield 22, 3), (4, .istore_n 2, 1), (5, .aload_n 0, 1), (6, .getfield 15, 3), (9, .astore_n 3, 1), (10, .aload_n 0, 1), (11, .getfield 79, 3), (14, .aload_n 3, 1), (15, .arraylength, 1), (16, .iload_n 2, 1), (17, .ishr, 1), (18, .invokestatic 138, 3), (21, .istore 4, 2), (23, .iload_n 1, 1), (24, .iload 4, 2), (26, .invokestatic 144, 3), (29, .iload_n 2, 1), (30, .ifCond .ne 12, 3), (33, .aload_n 3, 1), (34, .iload_n 1, 1), (35, .baload, 1), (36, .sipush 255, 3), (39, .iand, 1), (40, .i2c, 1), (41, .ireturn, 1), (42, .aload_n 3, 1), (43, .iload_n 1, 1), (44, .invokestatic 148, 3), (47, .ireturn, 1)]
theorem dec_A_charAt : zz_decAll prog_17_method_14_code L_A_charAt = true := by decide +kernel
def y_S_check : MethodName := ⟨"java/lang/String", "checkIndex", "(II)V"⟩
theorem my_S_check : MY y_S_check prog_33_method_155_code 2 none 2 := ⟨zz_c7 90 (by decide +kernel) rfl, zz_c1 10 (by decide +kernel) rfl, by decide +kernel, by decide +kernel, by decide +kernel⟩
theorem mt_S_check : Cond.static y_S_check ∈ zz_good := zz_c7 89 (by decide +kernel) rfl
noncomputable def L_S_check : zz_L := [(0, .iload_n 0, 1), (1, .iload_n 1, 1), (2, .getstatic 1053, 3), (5, .invokestatic 1059, 3), (8, .pop, 1), (9, .return_, 1)]
theorem dec_S_check : zz_decAll prog_33_method_155_code L_S_check = true := by decide +kernel
def y_P_check : MethodName := ⟨"jdk/internal/util/Preconditions", "checkIndex", "(IILjava/util/function/BiFunction;)I"⟩
theorem my_P_check : MY y_P_check prog_45_method_11_code 3 (some .int) 3 := ⟨zz_c7 93 (by decide +kernel) rfl, zz_c1 34 (by decide +kernel) rfl, by decide +kernel, by decide +kernel, by decide +kernel⟩
theorem mt_P_check : Cond.static y_P_check ∈ zz_good := zz_c7 92 (by decide +kernel) rfl
noncomputable def L_P_check : zz_L := [(0, .iload_n 0, 1), (1, .ifCond .lt 8, 3), (4, .iload_n 0, 1), (5, .iload_n 1, 1), (6, .if_icmp .lt 10, 3), (9, .aload_n 2, 1), (10, .iload_n 0, 1), (11, .iload_n 1, 1), (12, .invokestatic 95, 3), (15, .athrow, 1), (16, .iload_n 0, 1), (17, .ireturn, 1)]
theorem dec_P_check : zz_decAll prog_45_method_11_code L_P_check = true := by decide +kernel
def y_S_length : MethodName := ⟨"java/lang/String", "length", "()I"⟩
theorem my_S_length : MY y_S_length prog_33_method_54_code 1 (some .int) 0 := ⟨zz_c6 145 (by decide +kernel) rfl, zz_c1 10 (by decide +kernel) rfl, by decide +kernel, by decide +kernel, by decide +kernel⟩
theorem mi_S_length : Cond.instanceMethod y_S_length ∈ zz_good := zz_c6 143 (by decide +kernel) rfl
theorem ms_S_length : Cond.selects "java/lang/String" y_S_length y_S_length ∈ zz_good := zz_c6 144 (by decide +kernel) rfl
noncomputable def L_S_length : zz_L := [(0, .aload_n 0, 1), (1, .getfield 9, 3), (4, .arraylength, 1), (5, .aload_n 0, 1), (6, .invokevirtual 335, 3), (9, .ishr, 1), (10, .ireturn, 1)]
theorem dec_S_length : zz_decAll prog_33_method_54_code L_S_length = true := by decide +kernel
def y_S_coder : MethodName := ⟨"java/lang/String", "coder", "()B"⟩
theorem my_S_coder : MY y_S_coder prog_33_method_152_code 1 (some .byte) 0 := ⟨zz_c6 149 (by decide +kernel) rfl, zz_c1 10 (by decide +kernel) rfl, by decide +kernel, by decide +kernel, by decide +kernel⟩
theorem mi_S_coder : Cond.instanceMethod y_S_coder ∈ zz_good := zz_c6 147 (by decide +kernel) rfl
theorem ms_S_coder : Cond.selects "java/lang/String" y_S_coder y_S_coder ∈ zz_good := zz_c6 148 (by decide +kernel) rfl
noncomputable def L_S_coder : zz_L := [(0, .getstatic 38, 3), (3, .ifCond .eq 10, 3), (6, .aload_n 0, 1), (7, .getfield 15, 3), (10, .goto 4, 3), (13, .iconst 1, 1), (14, .ireturn, 1)]
theorem dec_S_coder : zz_decAll prog_33_method_152_code L_S_coder = true := by decide +kernel
def y_S_isLatin1 : MethodName := ⟨"java/lang/String", "isLatin1", "()Z"⟩
theorem my_S_isLatin1 : MY y_S_isLatin1 prog_33_method_154_code 1 (some .boolean) 0 := ⟨zz_c7 167 (by decide +kernel) rfl, zz_c1 10 (by decide +kernel) rfl, by decide +kernel, by decide +kernel, by decide +kernel⟩
theorem mi_S_isLatin1 : Cond.instanceMethod y_S_isLatin1 ∈ zz_good := zz_c7 165 (by decide +kernel) rfl
theorem ms_S_isLatin1 : Cond.selects "java/lang/String" y_S_isLatin1 y_S_isLatin1 ∈ zz_good := zz_c7 166 (by decide +kernel) rfl
noncomputable def L_S_isLatin1 : zz_L := [(0, .getstatic 38, 3), (3, .ifCond .eq 14, 3), (6, .aload_n 0, 1), (7, .getfield 15, 3), (10, .ifCond .ne 7, 3), (13, .iconst 1, 1), (14, .goto 4, 3), (17, .iconst 0, 1), (18, .ireturn, 1)]
theorem dec_S_isLatin1 : zz_decAll prog_33_method_154_code L_S_isLatin1 = true := by decide +kernel
def y_S_charAt : MethodName := ⟨"java/lang/String", "charAt", "(I)C"⟩
theorem my_S_charAt : MY y_S_charAt prog_33_method_56_code 2 (some .char) 1 := ⟨zz_c7 163 (by decide +kernel) rfl, zz_c1 10 (by decide +kernel) rfl, by decide +kernel, by decide +kernel, by decide +kernel⟩
theorem mi_S_charAt : Cond.instanceMethod y_S_charAt ∈ zz_good := zz_c7 161 (by decide +kernel) rfl
theorem ms_S_charAt : Cond.selects "java/lang/String" y_S_charAt y_S_charAt ∈ zz_good := zz_c7 162 (by decide +kernel) rfl
noncomputable def L_S_charAt : zz_L := [(0, .aload_n 0, 1), (1, .invokevirtual 492, 3), (4, .ifCond .eq 12, 3), (7, .aload_n 0, 1), (8, .getfield 9, 3), (11, .iload_n 1, 1), (12, .invokestatic 495, 3), (15, .ireturn, 1), (16, .aload_n 0, 1), (17, .getfield 9, 3), (20, .iload_n 1, 1), (21, .invokestatic 498, 3), (24, .ireturn, 1)]
theorem dec_S_charAt : zz_decAll prog_33_method_56_code L_S_charAt = true := by decide +kernel
def y_L_charAt : MethodName := ⟨"java/lang/StringLatin1", "charAt", "([BI)C"⟩
theorem my_L_charAt : MY y_L_charAt prog_36_method_2_code 2 (some .char) 2 := ⟨zz_c7 170 (by decide +kernel) rfl, zz_c1 35 (by decide +kernel) rfl, by decide +kernel, by decide +kernel, by decide +kernel⟩
theorem mt_L_charAt : Cond.static y_L_charAt ∈ zz_good := zz_c7 169 (by decide +kernel) rfl
noncomputable def L_L_charAt : zz_L := [(0, .iload_n 1, 1), (1, .aload_n 0, 1), (2, .arraylength, 1), (3, .invokestatic 9, 3), (6, .aload_n 0, 1), (7, .iload_n 1, 1), (8, .baload, 1), (9, .sipush 255, 3), (12, .iand, 1), (13, .i2c, 1), (14, .ireturn, 1)]
theorem dec_L_charAt : zz_decAll prog_36_method_2_code L_L_charAt = true := by decide +kernel
def y_E_ordinal : MethodName := ⟨"java/lang/Enum", "ordinal", "()I"⟩
theorem my_E_ordinal : MY y_E_ordinal prog_24_method_2_code 1 (some .int) 0 := ⟨zz_c3 23 (by decide +kernel) rfl, zz_c1 6 (by decide +kernel) rfl, by decide +kernel, by decide +kernel, by decide +kernel⟩
theorem mi_E_ordinal : Cond.instanceMethod y_E_ordinal ∈ zz_good := zz_c3 22 (by decide +kernel) rfl
noncomputable def L_E_ordinal : zz_L := [(0, .aload_n 0, 1), (1, .getfield 7, 3), (4, .ireturn, 1)]
theorem dec_E_ordinal : zz_decAll prog_24_method_2_code L_E_ordinal = true := by decide +kernel
noncomputable def L_SB_length : zz_L := [(0, .aload_n 0, 1), (1, .invokespecial 343, 3), (4, .ireturn, 1)]
theorem dec_SB_length : zz_decAll prog_34_method_93_code L_SB_length = true := by decide +kernel
noncomputable def L_SB_setLength : zz_L := [(0, .aload_n 0, 1), (1, .iload_n 1, 1), (2, .invokespecial 333, 3), (5, .return_, 1)]
theorem dec_SB_setLength : zz_decAll prog_34_method_89_code L_SB_setLength = true := by decide +kernel
noncomputable def L_SB_charAt : zz_L := [(0, .aload_n 0, 1), (1, .iload_n 1, 1), (2, .invokespecial 329, 3), (5, .ireturn, 1)]
theorem dec_SB_charAt : zz_decAll prog_34_method_88_code L_SB_charAt = true := by decide +kernel
noncomputable def L_SB_appendC : zz_L := [(0, .aload_n 0, 1), (1, .iload_n 1, 1), (2, .invokespecial 50, 3), (5, .pop, 1), (6, .aload_n 0, 1), (7, .areturn, 1)]
theorem dec_SB_appendC : zz_decAll prog_34_method_14_code L_SB_appendC = true := by decide +kernel
noncomputable def L_SB_appendI : zz_L := [(0, .aload_n 0, 1), (1, .iload_n 1, 1), (2, .invokespecial 53, 3), (5, .pop, 1), (6, .aload_n 0, 1), (7, .areturn, 1)]
theorem dec_SB_appendI : zz_decAll prog_34_method_15_code L_SB_appendI = true := by decide +kernel
theorem ins_SB : Cond.instantiable "java/lang/StringBuilder" 4 ∈ zz_good := zz_c1 130 (by decide +kernel) rfl
theorem sup_SB : Cond.superclass "java/lang/StringBuilder" "java/lang/AbstractStringBuilder" ∈ zz_good := zz_c1 160 (by decide +kernel) rfl
theorem flj_AbstractStringBuilder_79 : FL "java/lang/AbstractStringBuilder" 79 10 3 := ⟨RJ4, TJ4, 4, rfl, uw_10, by decide, zz_c1 151 (by decide +kernel) rfl⟩
theorem cj_A_length (hl : l.stackTraces = false) (K : KT) (M : Mm) (q : Nat) (z : Int32) (n : Nat) (Lw : va_W) : CG l K y_A_length (Cond.code y_A_length prog_17_method_6_code 1 (some .int)) 0 0 0 [.ref (kA K 19)] (GI K (wsx K M (sbO K q z n :: Lw))) (fun v H => v = some (.int (nI n)) ∧ GI K (wsx K M (sbO K q z n :: Lw)) H) := by
  refine CG_of (lc := [(0, .ref (kA K 19))]) (by decide +kernel) dec_A_length hl rfl (Nat.le_of_ble_eq_true rfl) (fun X hX hin => ?_)
  refine G_aload_n hX (j := 0) (hj := rfl) 0 1 rfl rfl ?_
  refine sb_get hX 1 4 flj_AbstractStringBuilder_79 rfl rfl rfl ?_
  exact G_iret hX 2 rfl (Nat.le_of_ble_eq_true rfl) (Nat.le_of_ble_eq_true rfl) rfl (fun H h => ⟨rfl, h⟩)
theorem fkj_AbstractStringBuilder_18 : Cond.fieldLink "java/lang/AbstractStringBuilder" 18 "java/lang/String" "COMPACT_STRINGS" "Z" ∈ zz_good := zz_c1 138 (by decide +kernel) rfl
theorem flj_AbstractStringBuilder_22 : FL "java/lang/AbstractStringBuilder" 22 10 1 := ⟨RJ4, TJ4, 4, rfl, uw_10, by decide, zz_c1 148 (by decide +kernel) rfl⟩
theorem cj_A_isLatin1 (hl : l.stackTraces = false) (K : KT) (M : Mm) (q : Nat) (z : Int32) (n : Nat) (Lw : va_W) : CG l K y_A_isLatin1 (Cond.code y_A_isLatin1 prog_17_method_68_code 1 (some .boolean)) 0 0 0 [.ref (kA K 19)] (GI K (wsx K M (sbO K q z n :: Lw))) (fun v H => v = some (.int 1) ∧ GI K (wsx K M (sbO K q z n :: Lw)) H) := by
  refine CG_of (lc := [(0, .ref (kA K 19))]) (by decide +kernel) dec_A_isLatin1 hl rfl (Nat.le_of_ble_eq_true rfl) (fun X hX hin => ?_)
  refine G_cs hX 0 3 fkj_AbstractStringBuilder_18 rfl rfl ?_
  refine G_if_eq hX 1 6 17 rfl rfl (by decide) (fun c9 => False.elim (absurd c9 (by decide))) (fun c9 => ?_)
  refine G_aload_n hX (j := 0) (hj := rfl) 2 7 rfl rfl ?_
  refine sb_get hX 3 10 flj_AbstractStringBuilder_22 rfl rfl rfl ?_
  refine G_if_ne hX 4 13 17 rfl rfl (by decide) (fun c9 => False.elim (c9 rfl)) (fun c9 => ?_)
  refine G_iconst hX (v := 1) (hv := by decide) 5 14 rfl rfl ?_
  refine G_goto hX 6 18 rfl (by decide) ?_
  exact G_zret hX 8 rfl rfl (Nat.le_of_ble_eq_true rfl) (Nat.le_of_ble_eq_true rfl) rfl (fun H h => ⟨rfl, h⟩)
theorem mmj_ArraysSupport_194 : MM "jdk/internal/util/ArraysSupport" 194 Lib.Math.max.name Lib.Math.max.code 2 := ⟨zz_c6 91 (by decide +kernel) rfl, zz_c2 100 (by decide +kernel) rfl, zz_c1 26 (by decide +kernel) rfl, zz_c2 101 (by decide +kernel) rfl⟩
theorem wd_200 : Cond.constant "jdk/internal/util/ArraysSupport" 200 (2147483639) ∈ zz_good := zz_c6 92 (by decide +kernel) rfl
theorem cj_newLength (hl : l.stackTraces = false) (K : KT) {m x p : Nat} (hx : x ≤ p) (h0 : 0 < p) (hb : m + p ≤ 65536) (I : Heap → Prop) : CG l K y_newLength (Cond.code y_newLength prog_44_method_27_code 4 (some .int)) 1 0 0 [.int (nI m), .int (nI x), .int (nI p)] (I) (fun v H => v = some (.int (nI (m + p))) ∧ I H) := by
  refine CG_of (lc := [(0, .int (nI m)), (1, .int (nI x)), (2, .int (nI p))]) (by decide +kernel) dec_newLength hl rfl (Nat.le_of_ble_eq_true rfl) (fun X hX hin => ?_)
  refine G_iload_n hX (j := 0) (hj := rfl) 0 1 rfl rfl ?_
  refine G_iload_n hX (j := 1) (hj := rfl) 1 2 rfl rfl ?_
  refine G_iload_n hX (j := 2) (hj := rfl) 2 3 rfl rfl ?_
  refine G_max hX 3 6 mmj_ArraysSupport_194 (Nat.le_of_ble_eq_true rfl) (Nat.le_of_ble_eq_true rfl) (Nat.le_of_ble_eq_true rfl) (Nat.le_of_ble_eq_true rfl) rfl rfl ?_
  refine G_top (w := nI p) (jx_max hx (by omega)) ?_
  refine G_iadd hX 4 7 rfl rfl ?_
  refine G_top (w := nI (m + p)) (nI_add m p) ?_
  refine G_istore_n hX 5 8 [(3, .int (nI (m + p))), (0, .int (nI m)), (1, .int (nI x)), (2, .int (nI p))] rfl rfl (Nat.le_of_ble_eq_true rfl) rfl ?_
  refine G_iconst hX (v := 0) (hv := by decide) 6 9 rfl rfl ?_
  refine G_iload_n hX (j := 0) (hj := rfl) 7 10 rfl rfl ?_
  refine G_icmp_ge hX 8 13 21 rfl rfl (by decide) (fun c9 => False.elim (absurd c9 (nI_nle (by omega) (by omega)))) (fun c9 => ?_)
  refine G_iload_n hX (j := 0) (hj := rfl) 9 14 rfl rfl ?_
  refine G_ldcI2 hX 10 16 wd_200 rfl rfl ?_
  refine G_icmp_gt hX 11 19 21 rfl rfl (by decide) (fun c9 => False.elim (absurd c9 (by rw [show (2147483639 : Int32) = nI 2147483639 from by decide]; exact nI_nlt (by omega) (by decide)))) (fun c9 => ?_)
  refine G_iload_n hX (j := 0) (hj := rfl) 12 20 rfl rfl ?_
  exact G_iret hX 13 rfl (Nat.le_of_ble_eq_true rfl) (Nat.le_of_ble_eq_true rfl) rfl (fun H h => ⟨rfl, h⟩)
theorem flj_AbstractStringBuilder_15 : FL "java/lang/AbstractStringBuilder" 15 10 0 := ⟨RJ4, TJ4, 4, rfl, uw_10, by decide, zz_c1 147 (by decide +kernel) rfl⟩
theorem mlj_AbstractStringBuilder_114 : Cond.methodLink "java/lang/AbstractStringBuilder" 114 y_newLength ∈ zz_good := zz_c6 88 (by decide +kernel) rfl
theorem wd_39 : Cond.constant "java/lang/AbstractStringBuilder" 39 (2147483647) ∈ zz_good := zz_c6 96 (by decide +kernel) rfl
theorem cj_A_newCapacity (hl : l.stackTraces = false) (K : KT) (M : Mm) {q m n w : Nat} {z : Int32} {a : Nat → Int32} (Lw : va_W) (h1 : m < w) (h2 : w ≤ m + (m + 2)) (h3 : m ≤ 142) : CG l K y_A_newCapacity (Cond.code y_A_newCapacity prog_17_method_10_code 6 (some .int)) 2 0 0 [.ref (kA K 19), .int (nI w)] (GI K (wsx K M (sbO K q z n :: sbB K q m a :: Lw))) (fun v H => v = some (.int (nI (m + (m + 2)))) ∧ GI K (wsx K M (sbO K q z n :: sbB K q m a :: Lw)) H) := by
  refine CG_of (lc := [(0, .ref (kA K 19)), (1, .int (nI w))]) (by decide +kernel) dec_A_newCapacity hl rfl (Nat.le_of_ble_eq_true rfl) (fun X hX hin => ?_)
  refine G_aload_n hX (j := 0) (hj := rfl) 0 1 rfl rfl ?_
  refine sb_get hX 1 4 flj_AbstractStringBuilder_15 rfl rfl rfl ?_
  refine G_alen hX (t0 := 4) 2 5 46 (nI m) rfl rfl rfl rfl rfl ?_
  refine G_istore_n hX 3 6 [(2, .int (nI m)), (0, .ref (kA K 19)), (1, .int (nI w))] rfl rfl (Nat.le_of_ble_eq_true rfl) rfl ?_
  refine G_iload_n hX (j := 2) (hj := rfl) 4 7 rfl rfl ?_
  refine G_aload_n hX (j := 1) (hj := rfl) 5 8 rfl rfl ?_
  refine sb_get hX 6 11 flj_AbstractStringBuilder_22 rfl rfl rfl ?_
  refine G_ishl hX 7 12 rfl rfl ?_
  refine G_top (w := nI w) (sb_shl0 _) ?_
  refine G_istore_n hX 8 13 [(3, .int (nI w)), (2, .int (nI m)), (0, .ref (kA K 19)), (1, .int (nI w))] rfl rfl (Nat.le_of_ble_eq_true rfl) rfl ?_
  refine G_iload_n hX (j := 0) (hj := rfl) 9 14 rfl rfl ?_
  refine G_iload_n hX (j := 1) (hj := rfl) 10 15 rfl rfl ?_
  refine G_isub hX 11 16 rfl rfl ?_
  refine G_top (w := nI (w - m)) (pk_sub (by omega)) ?_
  refine G_istore hX 12 18 [(4, .int (nI (w - m))), (3, .int (nI w)), (2, .int (nI m)), (0, .ref (kA K 19)), (1, .int (nI w))] rfl rfl (Nat.le_of_ble_eq_true rfl) rfl ?_
  refine G_iload_n hX (j := 2) (hj := rfl) 13 19 rfl rfl ?_
  refine G_iload hX (j := 0) (hj := rfl) 14 21 rfl rfl ?_
  refine G_iload_n hX (j := 2) (hj := rfl) 15 22 rfl rfl ?_
  refine G_iconst hX (v := 2) (hv := by decide) 16 23 rfl rfl ?_
  refine G_aload_n hX (j := 3) (hj := rfl) 17 24 rfl rfl ?_
  refine sb_get hX 18 27 flj_AbstractStringBuilder_22 rfl rfl rfl ?_
  refine G_ishl hX 19 28 rfl rfl ?_
  refine G_top (w := 2) (sb_shl0 _) ?_
  refine G_iadd hX 20 29 rfl rfl ?_
  refine G_top (w := nI (m + 2)) (jx_a2 m) ?_
  refine G_callS hX 21 (cj_newLength hl K (m := m) (x := w - m) (p := m + 2) (by omega) (by omega) (by omega) (GI K (wsx K M (sbO K q z n :: sbB K q m a :: Lw)))) my_newLength mt_newLength mlj_AbstractStringBuilder_114 (Nat.le_of_ble_eq_true rfl) (Nat.le_of_ble_eq_true rfl) rfl rfl (Nat.le_of_ble_eq_true rfl) rfl (Nat.le_of_ble_eq_true rfl) (Nat.le_of_ble_eq_true rfl) (fun v => ?_)
  refine VG_and (fun e => ?_)
  subst e
  refine G_istore hX 22 34 [(5, .int (nI (m + (m + 2)))), (4, .int (nI (w - m))), (3, .int (nI w)), (2, .int (nI m)), (0, .ref (kA K 19)), (1, .int (nI w))] rfl rfl (Nat.le_of_ble_eq_true rfl) rfl ?_
  refine G_iload hX (j := 0) (hj := rfl) 23 36 rfl rfl ?_
  refine G_ldcI2 hX 24 38 wd_39 rfl rfl ?_
  refine G_icmp_ne hX 25 41 51 rfl rfl (by decide) (fun c9 => ?_) (fun c9 => False.elim (by rw [show (2147483647 : Int32) = nI 2147483647 from by decide] at c9; have := (nI_eq (by omega) (by decide)).1 c9; omega))
  refine G_iload hX (j := 0) (hj := rfl) 31 53 rfl rfl ?_
  refine G_aload_n hX (j := 4) (hj := rfl) 32 54 rfl rfl ?_
  refine sb_get hX 33 57 flj_AbstractStringBuilder_22 rfl rfl rfl ?_
  refine G_ishr hX 34 58 rfl rfl ?_
  refine G_top (w := nI (m + (m + 2))) (sb_shr0 _) ?_
  exact G_iret hX 35 rfl (Nat.le_of_ble_eq_true rfl) (Nat.le_of_ble_eq_true rfl) rfl (fun H h => ⟨rfl, h⟩)
theorem wd_aB : Cond.arrayClass .byte ∈ zz_good := zz_c1 161 (by decide +kernel) rfl
theorem mmj_Arrays_304 : MM "java/util/Arrays" 304 Lib.Math.min.name Lib.Math.min.code 2 := ⟨zz_c6 107 (by decide +kernel) rfl, zz_c3 117 (by decide +kernel) rfl, zz_c1 26 (by decide +kernel) rfl, zz_c3 118 (by decide +kernel) rfl⟩
theorem wd_ac : Cond.methodLink "java/util/Arrays" 150 arraycopyName ∈ zz_good := zz_c6 108 (by decide +kernel) rfl
theorem wd_acn : Cond.native arraycopyName ∈ zz_good := zz_c6 110 (by decide +kernel) rfl
theorem wd_acs : Cond.static arraycopyName ∈ zz_good := zz_c6 109 (by decide +kernel) rfl
theorem wd_aci : Cond.initialized "java/lang/System" ∈ zz_good := zz_c1 33 (by decide +kernel) rfl
theorem cj_copyOf (hl : l.stackTraces = false) (K : KT) (M : Mm) {q m w : Nat} {a : Nat → Int32} (x : Nat × va_E) (h1 : m < w) (h2 : w ≤ 65536) (hf : sb_Fit a) : CG l K y_copyOf (Cond.code y_copyOf prog_42_method_121_code 3 (some (.array .byte))) 3 1 w [.ref q, .int (nI w)] (GI K (wsx K M [x, sbB K q m a])) (fun v H => ∃ q', v = some (.ref q') ∧ GI K (wsx K M [x, sbB K q m a, sbB K q' w (va_cpy a (fun _ => 0) 0 0 m)]) H) := by
  refine CG_of (lc := [(0, .ref q), (1, .int (nI w))]) (by decide +kernel) dec_copyOf hl rfl (Nat.le_of_ble_eq_true rfl) (fun X hX hin => ?_)
  refine G_iload_n hX (j := 1) (hj := rfl) 0 1 rfl rfl ?_
  refine G_aload_n hX (j := 0) (hj := rfl) 1 2 rfl rfl ?_
  refine G_alen hX (t0 := 4) 2 3 46 (nI m) rfl rfl rfl rfl rfl ?_
  refine G_icmp_ne hX 3 6 14 rfl rfl (by decide) (fun c9 => ?_) (fun c9 => False.elim (by have := (nI_eq (by omega) (by omega)).1 c9; omega))
  refine G_iload_n hX (j := 1) (hj := rfl) 8 15 rfl rfl ?_
  refine G_newB hX 9 17 wd_aB (by omega) (Nat.le_of_ble_eq_true rfl) (by omega) rfl rfl (fun q' => ?_)
  refine VG_I (I' := GI K (wsx K M [x, sbB K q m a, sbB K q' w (fun _ => 0)])) (fun H h => by rw [SW_app] at h; exact h) ?_
  refine G_astore_n hX 10 18 [(2, Value.ref q'), (0, .ref q), (1, .int (nI w))] rfl rfl (Nat.le_of_ble_eq_true rfl) rfl ?_
  refine G_aload_n hX (j := 1) (hj := rfl) 11 19 rfl rfl ?_
  refine G_iconst hX (v := 0) (hv := by decide) 12 20 rfl rfl ?_
  refine G_aload_n hX (j := 0) (hj := rfl) 13 21 rfl rfl ?_
  refine G_iconst hX (v := 0) (hv := by decide) 14 22 rfl rfl ?_
  refine G_aload_n hX (j := 1) (hj := rfl) 15 23 rfl rfl ?_
  refine G_alen hX (t0 := 4) 16 24 46 (nI m) rfl rfl rfl rfl rfl ?_
  refine G_iload_n hX (j := 2) (hj := rfl) 17 25 rfl rfl ?_
  refine G_min hX 18 28 mmj_Arrays_304 (Nat.le_of_ble_eq_true rfl) (Nat.le_of_ble_eq_true rfl) (Nat.le_of_ble_eq_true rfl) (by omega) rfl rfl ?_
  refine G_top (w := nI m) (jx_min (by omega) (by omega)) ?_
  refine G_copyB hX 19 31 46 47 wd_ac wd_acn wd_acs wd_aci rfl rfl hf (Nat.le_refl _) (by omega) (by omega) (Nat.le_of_ble_eq_true rfl) (by decide) rfl rfl ?_
  rw [SW_set2]
  refine G_aload_n hX (j := 0) (hj := rfl) 20 32 rfl rfl ?_
  exact G_aret hX 21 rfl (Or.inr ⟨_, rfl⟩) (Nat.le_of_ble_eq_true rfl) (by omega) rfl (fun H h => ⟨_, rfl, h⟩)
theorem jx_M2 {m : Nat} (h : jx_M m) (h2 : m < 142) : m + (m + 2) ≤ 142 := by unfold jx_M at h; omega
theorem jx_M3 {m : Nat} (h : jx_M m) (h2 : m < 142) : jx_M (m + (m + 2)) := by unfold jx_M at h ⊢; omega
theorem mlj_AbstractStringBuilder_104 : Cond.methodLink "java/lang/AbstractStringBuilder" 104 y_A_newCapacity ∈ zz_good := zz_c6 84 (by decide +kernel) rfl
theorem mlj_AbstractStringBuilder_108 : Cond.methodLink "java/lang/AbstractStringBuilder" 108 y_copyOf ∈ zz_good := zz_c6 97 (by decide +kernel) rfl
theorem fpj_AbstractStringBuilder_15 : FP "java/lang/AbstractStringBuilder" 15 10 0 (.array .byte) := ⟨RJ4, TJ4, 4, tyJ4, rfl, uw_10, by decide, zz_c1 147 (by decide +kernel) rfl, tyJ4_ok, nmJ4, by decide, by decide +kernel⟩
theorem cj_A_ensure (hl : l.stackTraces = false) (K : KT) (M : Mm) {q m n w : Nat} {z : Int32} {a : Nat → Int32} (hm : jx_M m) (hw : w ≤ 142) (hw2 : w ≤ m + (m + 2)) (hf : sb_Fit a) : CG l K y_A_ensure (Cond.code y_A_ensure prog_17_method_9_code 3 none) 4 1 142 [.ref (kA K 19), .int (nI w)] (GI K (wsx K M [sbO K q z n, sbB K q m a])) (fun v H => ∃ q' m' a', v = none ∧ jx_M m' ∧ w ≤ m' ∧ m ≤ m' ∧ sb_Fit a' ∧ (∀ i, i < m → a' i = a i) ∧ GI K (wsx K M [sbO K q' z n, sbB K q' m' a']) H) := by
  refine CG_of (lc := [(0, .ref (kA K 19)), (1, .int (nI w))]) (by decide +kernel) dec_A_ensure hl rfl (Nat.le_of_ble_eq_true rfl) (fun X hX hin => ?_)
  have hm9 := jx_Mle hm
  refine G_aload_n hX (j := 0) (hj := rfl) 0 1 rfl rfl ?_
  refine sb_get hX 1 4 flj_AbstractStringBuilder_15 rfl rfl rfl ?_
  refine G_alen hX (t0 := 4) 2 5 46 (nI m) rfl rfl rfl rfl rfl ?_
  refine G_aload_n hX (j := 0) (hj := rfl) 3 6 rfl rfl ?_
  refine sb_get hX 4 9 flj_AbstractStringBuilder_22 rfl rfl rfl ?_
  refine G_ishr hX 5 10 rfl rfl ?_
  refine G_top (w := nI m) (sb_shr0 _) ?_
  refine G_istore_n hX 6 11 [(2, .int (nI m)), (0, .ref (kA K 19)), (1, .int (nI w))] rfl rfl (Nat.le_of_ble_eq_true rfl) rfl ?_
  refine G_iload_n hX (j := 2) (hj := rfl) 7 12 rfl rfl ?_
  refine G_iload_n hX (j := 0) (hj := rfl) 8 13 rfl rfl ?_
  refine G_isub hX 9 14 rfl rfl ?_
  refine G_if_le hX 10 17 38 rfl rfl (by decide) (fun c9 => ?_) (fun c9 => ?_)
  · have hw9 := (le0_iff (by omega) (by omega)).1 c9
    exact G_vret hX 22 rfl (Nat.le_of_ble_eq_true rfl) (Nat.le_of_ble_eq_true rfl) rfl (fun H h => ⟨q, m, a, rfl, hm, hw9, Nat.le_refl _, hf, fun i _ => rfl, h⟩)
  · have hw9 := mt (le0_iff (by omega) (by omega)).2 c9
    refine G_aload_n hX (j := 1) (hj := rfl) 11 18 rfl rfl ?_
    refine G_aload_n hX (j := 1) (hj := rfl) 12 19 rfl rfl ?_
    refine sb_get hX 13 22 flj_AbstractStringBuilder_15 rfl rfl rfl ?_
    refine G_aload_n hX (j := 1) (hj := rfl) 14 23 rfl rfl ?_
    refine G_iload_n hX (j := 2) (hj := rfl) 15 24 rfl rfl ?_
    refine G_callP hX 16 45 (cj_A_newCapacity hl K M [] (by omega) hw2 (by omega)) my_A_newCapacity mi_A_newCapacity mp_A_newCapacity mq_A_newCapacity ins_SB mlj_AbstractStringBuilder_104 rfl rfl (Nat.le_of_ble_eq_true rfl) (Nat.le_of_ble_eq_true rfl) rfl rfl (Nat.le_of_ble_eq_true rfl) rfl (Nat.le_of_ble_eq_true rfl) (Nat.le_of_ble_eq_true rfl) (fun v => ?_)
    refine VG_and (fun e => ?_)
    subst e
    refine G_aload_n hX (j := 1) (hj := rfl) 17 28 rfl rfl ?_
    refine sb_get hX 18 31 flj_AbstractStringBuilder_22 rfl rfl rfl ?_
    refine G_ishl hX 19 32 rfl rfl ?_
    refine G_top (w := nI (m + (m + 2))) (sb_shl0 _) ?_
    refine G_callS hX 20 (cj_copyOf hl K M (sbO K q z n) (m := m) (w := m + (m + 2)) (by omega) (by omega) hf) my_copyOf mt_copyOf mlj_AbstractStringBuilder_108 (Nat.le_of_ble_eq_true rfl) (Nat.le_of_ble_eq_true rfl) rfl rfl (Nat.le_of_ble_eq_true rfl) rfl (Nat.le_of_ble_eq_true rfl) (by have := jx_M2 hm (show m < 142 by omega); omega) (fun v => ?_)
    refine VG_ex (fun q' => ?_)
    refine VG_and (fun e => ?_)
    subst e
    refine sb_put hX 21 38 [.ref q', .int 0, .int z, .int (nI n)] fpj_AbstractStringBuilder_15 rfl rfl (Nat.le_of_ble_eq_true rfl) rfl rfl rfl ?_
    exact G_vret hX 22 rfl (by omega) (by have := jx_M2 hm (show m < 142 by omega); omega) rfl (fun H h => ⟨q', m + (m + 2), va_cpy a (fun _ => 0) 0 0 m, rfl, jx_M3 hm (show m < 142 by omega), hw2, by omega, sb_fitC hf sb_fit0, fun i hi => sb_cpy0 hi, GI_drop h⟩)
theorem cj_canEncode (hl : l.stackTraces = false) (K : KT) {c : Nat} (hc : c < 256) (I : Heap → Prop) : CG l K y_canEncode (Cond.code y_canEncode prog_36_method_3_code 1 (some .boolean)) 0 0 0 [.int (nI c)] (I) (fun v H => v = some (.int 1) ∧ I H) := by
  refine CG_of (lc := [(0, .int (nI c))]) (by decide +kernel) dec_canEncode hl rfl (Nat.le_of_ble_eq_true rfl) (fun X hX hin => ?_)
  refine G_iload_n hX (j := 0) (hj := rfl) 0 1 rfl rfl ?_
  refine G_sipush hX (v := 255) (hv := by decide) 1 4 rfl rfl ?_
  refine G_icmp_gt hX 2 7 11 rfl rfl (by decide) (fun c9 => False.elim (absurd c9 (by rw [show (255 : Int32) = nI 255 from by decide]; exact nI_nlt (by omega) (by decide)))) (fun c9 => ?_)
  refine G_iconst hX (v := 1) (hv := by decide) 3 8 rfl rfl ?_
  refine G_goto hX 4 12 rfl (by decide) ?_
  exact G_zret hX 6 rfl rfl (Nat.le_of_ble_eq_true rfl) (Nat.le_of_ble_eq_true rfl) rfl (fun H h => ⟨rfl, h⟩)
theorem mlj_AbstractStringBuilder_100 : Cond.methodLink "java/lang/AbstractStringBuilder" 100 y_A_ensure ∈ zz_good := zz_c6 80 (by decide +kernel) rfl
theorem mlj_AbstractStringBuilder_83 : Cond.methodLink "java/lang/AbstractStringBuilder" 83 y_A_isLatin1 ∈ zz_good := zz_c6 111 (by decide +kernel) rfl
theorem mlj_AbstractStringBuilder_191 : Cond.methodLink "java/lang/AbstractStringBuilder" 191 y_canEncode ∈ zz_good := zz_c7 79 (by decide +kernel) rfl
theorem fpj_AbstractStringBuilder_79 : FP "java/lang/AbstractStringBuilder" 79 10 3 .int := ⟨RJ4, TJ4, 4, tyJ4, rfl, uw_10, by decide, zz_c1 151 (by decide +kernel) rfl, tyJ4_ok, nmJ4, by decide, by decide +kernel⟩
theorem cj_A_appendC (hl : l.stackTraces = false) (K : KT) (M : Mm) {q m n c : Nat} {z : Int32} {a : Nat → Int32} (hc : c < 128) (hnm : n ≤ m) (hm : jx_M m) (hw : n + 1 ≤ 142) (hf : sb_Fit a) : CG l K y_A_appendC (Cond.code y_A_appendC prog_17_method_31_code 2 (some (.object "java/lang/AbstractStringBuilder"))) 5 1 142 [.ref (kA K 19), .int (nI c)] (GI K (wsx K M [sbO K q z n, sbB K q m a])) (fun v H => ∃ q' m' a', v = some (.ref (kA K 19)) ∧ jx_M m' ∧ n + 1 ≤ m' ∧ sb_Fit a' ∧ (∀ i, i < n → a' i = a i) ∧ a' n = sb_b c ∧ GI K (wsx K M [sbO K q' z (n + 1), sbB K q' m' a']) H) := by
  refine CG_of (lc := [(0, .ref (kA K 19)), (1, .int (nI c))]) (by decide +kernel) dec_A_appendC hl rfl (Nat.le_of_ble_eq_true rfl) (fun X hX hin => ?_)
  have hm9 := jx_Mle hm
  refine G_aload_n hX (j := 0) (hj := rfl) 0 1 rfl rfl ?_
  refine G_aload_n hX (j := 0) (hj := rfl) 1 2 rfl rfl ?_
  refine sb_get hX 2 5 flj_AbstractStringBuilder_79 rfl rfl rfl ?_
  refine G_iconst hX (v := 1) (hv := by decide) 3 6 rfl rfl ?_
  refine G_iadd hX 4 7 rfl rfl ?_
  refine G_top (w := nI (n + 1)) (jx_a1 n) ?_
  refine G_callP hX 5 45 (cj_A_ensure hl K M (w := n + 1) hm (by omega) (by omega) hf) my_A_ensure mi_A_ensure mp_A_ensure mq_A_ensure ins_SB mlj_AbstractStringBuilder_100 rfl rfl (Nat.le_of_ble_eq_true rfl) (Nat.le_of_ble_eq_true rfl) rfl rfl (Nat.le_of_ble_eq_true rfl) rfl (Nat.le_of_ble_eq_true rfl) (Nat.le_of_ble_eq_true rfl) (fun v => ?_)
  refine VG_ex (fun q' => VG_ex (fun m' => VG_ex (fun a' => VG_and (fun e => VG_and (fun hm' => VG_and (fun hw' => VG_and (fun hmm' => VG_and (fun hf' => VG_and (fun hk' => ?_)))))))))
  subst e
  have hm8 := jx_Mle hm'
  refine G_aload_n hX (j := 0) (hj := rfl) 6 11 rfl rfl ?_
  refine G_callV hX 7 45 (cj_A_isLatin1 hl K M q' z n [sbB K q' m' a']) my_A_isLatin1 mi_A_isLatin1 ms_A_isLatin1 mlj_AbstractStringBuilder_83 rfl rfl (Nat.le_of_ble_eq_true rfl) (Nat.le_of_ble_eq_true rfl) rfl rfl (Nat.le_of_ble_eq_true rfl) rfl (Nat.le_of_ble_eq_true rfl) (Nat.le_of_ble_eq_true rfl) (fun v => ?_)
  refine VG_and (fun e => ?_)
  subst e
  refine G_if_eq hX 8 17 45 rfl rfl (by decide) (fun c9 => False.elim (absurd c9 (by decide))) (fun c9 => ?_)
  refine G_iload_n hX (j := 1) (hj := rfl) 9 18 rfl rfl ?_
  refine G_callS hX 10 (cj_canEncode hl K (c := c) (by omega) (GI K (wsx K M [sbO K q' z n, sbB K q' m' a']))) my_canEncode mt_canEncode mlj_AbstractStringBuilder_191 (Nat.le_of_ble_eq_true rfl) (Nat.le_of_ble_eq_true rfl) rfl rfl (Nat.le_of_ble_eq_true rfl) rfl (Nat.le_of_ble_eq_true rfl) (Nat.le_of_ble_eq_true rfl) (fun v => ?_)
  refine VG_and (fun e => ?_)
  subst e
  refine G_if_eq hX 11 24 45 rfl rfl (by decide) (fun c9 => False.elim (absurd c9 (by decide))) (fun c9 => ?_)
  refine G_aload_n hX (j := 0) (hj := rfl) 12 25 rfl rfl ?_
  refine sb_get hX 13 28 flj_AbstractStringBuilder_15 rfl rfl rfl ?_
  refine G_aload_n hX (j := 0) (hj := rfl) 14 29 rfl rfl ?_
  refine G_dup hX 15 30 rfl rfl rfl ?_
  refine sb_get hX 16 33 flj_AbstractStringBuilder_79 rfl rfl rfl ?_
  refine G_dup_x1 hX 17 34 rfl rfl rfl rfl ?_
  refine G_iconst hX (v := 1) (hv := by decide) 18 35 rfl rfl ?_
  refine G_iadd hX 19 36 rfl rfl ?_
  refine G_top (w := nI (n + 1)) (jx_a1 n) ?_
  refine sb_put hX 20 39 [.ref q', .int 0, .int z, .int (nI (n + 1))] fpj_AbstractStringBuilder_79 rfl rfl (Nat.le_of_ble_eq_true rfl) rfl rfl rfl ?_
  refine G_iload_n hX (j := 1) (hj := rfl) 21 40 rfl rfl ?_
  refine G_i2b hX (v := sb_b c) 22 41 rfl rfl rfl ?_
  refine G_bast hX 23 42 46 rfl (vp_in_nI (by omega) (by omega)) rfl rfl ?_
  rw [SW_set1, nI_clamp (show n < 2 ^ 31 by omega), jx_nar c (by omega)]
  refine G_goto hX 24 75 rfl (by decide) ?_
  refine G_aload_n hX (j := 0) (hj := rfl) 41 76 rfl rfl ?_
  exact G_aret hX 42 rfl (Or.inl ⟨_, rfl⟩) (Nat.le_of_ble_eq_true rfl) (Nat.le_of_ble_eq_true rfl) rfl (fun H h => ⟨q', m', upd a' n (sb_b c), rfl, hm', hw', sb_fitU hf' (sb_fitB c), fun i hi => by rw [show upd a' n (sb_b c) i = a' i from if_neg (by omega)]; exact hk' i (by omega), if_pos rfl, h⟩)
theorem cj_stringSize_p (hl : l.stackTraces = false) (K : KT) {w : Nat} (hw : w < 100) (I : Heap → Prop) : CG l K y_stringSize (Cond.code y_stringSize prog_29_method_13_code 4 (some .int)) 0 0 0 [.int (nI w)] (I) (fun v H => v = some (.int (nI (dgN false w).length)) ∧ I H) := by
  refine CG_of (lc := [(0, .int (nI w))]) (by decide +kernel) dec_stringSize hl rfl (Nat.le_of_ble_eq_true rfl) (fun X hX hin => ?_)
  refine G_iconst hX (v := 1) (hv := by decide) 0 1 rfl rfl ?_
  refine G_istore_n hX 1 2 [(1, .int 1), (0, .int (nI w))] rfl rfl (Nat.le_of_ble_eq_true rfl) rfl ?_
  refine G_iload_n hX (j := 1) (hj := rfl) 2 3 rfl rfl ?_
  refine G_if_lt hX 3 6 11 rfl rfl (by decide) (fun c9 => False.elim (absurd c9 (nI_pos (by omega)))) (fun c9 => ?_)
  refine G_iconst hX (v := 0) (hv := by decide) 4 7 rfl rfl ?_
  refine G_istore_n hX 5 8 [(1, .int 0), (0, .int (nI w))] rfl rfl (Nat.le_of_ble_eq_true rfl) rfl ?_
  refine G_iload_n hX (j := 1) (hj := rfl) 6 9 rfl rfl ?_
  refine G_ineg hX 7 10 rfl rfl ?_
  refine G_istore_n hX 8 11 [(0, .int (-nI w)), (1, .int 0)] rfl rfl (Nat.le_of_ble_eq_true rfl) rfl ?_
  refine G_bipush hX (v := (-10)) (hv := by decide) 9 13 rfl rfl ?_
  refine G_istore_n hX 10 14 [(2, .int (-10)), (0, .int (-nI w)), (1, .int 0)] rfl rfl (Nat.le_of_ble_eq_true rfl) rfl ?_
  refine G_iconst hX (v := 1) (hv := by decide) 11 15 rfl rfl ?_
  refine G_istore_n hX 12 16 [(3, .int 1), (2, .int (-10)), (0, .int (-nI w)), (1, .int 0)] rfl rfl (Nat.le_of_ble_eq_true rfl) rfl ?_
  refine G_iload_n hX (j := 0) (hj := rfl) 13 17 rfl rfl ?_
  refine G_bipush hX (v := 10) (hv := by decide) 14 19 rfl rfl ?_
  refine G_icmp_ge hX 15 22 42 rfl rfl (by decide) (fun c9 => False.elim (absurd c9 (by decide))) (fun c9 => ?_)
  refine G_iload_n hX (j := 2) (hj := rfl) 16 23 rfl rfl ?_
  refine G_iload_n hX (j := 1) (hj := rfl) 17 24 rfl rfl ?_
  refine G_icmp_le hX 18 27 31 rfl rfl (by decide) (fun c9 => ?_) (fun c9 => ?_)
  · rw [jx_n10, sb_nle (by omega) (by decide)] at c9
    refine G_bipush hX (v := 10) (hv := by decide) 23 33 rfl rfl ?_
    refine G_iload_n hX (j := 1) (hj := rfl) 24 34 rfl rfl ?_
    refine G_imul hX 25 35 rfl rfl ?_
    refine G_istore_n hX 26 36 [(2, .int (10 * -10)), (3, .int 1), (0, .int (-nI w)), (1, .int 0)] rfl rfl (Nat.le_of_ble_eq_true rfl) rfl ?_
    refine G_iinc hX 27 39 1 2 [(3, .int 2), (2, .int (10 * -10)), (0, .int (-nI w)), (1, .int 0)] rfl rfl rfl rfl (Nat.le_of_ble_eq_true rfl) rfl ?_
    refine G_goto hX 28 16 rfl (by decide) ?_
    refine G_iload_n hX (j := 0) (hj := rfl) 13 17 rfl rfl ?_
    refine G_bipush hX (v := 10) (hv := by decide) 14 19 rfl rfl ?_
    refine G_icmp_ge hX 15 22 42 rfl rfl (by decide) (fun c9 => False.elim (absurd c9 (by decide))) (fun c9 => ?_)
    refine G_iload_n hX (j := 2) (hj := rfl) 16 23 rfl rfl ?_
    refine G_iload_n hX (j := 1) (hj := rfl) 17 24 rfl rfl ?_
    refine G_icmp_le hX 18 27 31 rfl rfl (by decide) (fun c9 => False.elim (by rw [show (10 * -10 : Int32) = -nI 100 from by decide, sb_nle (by omega) (by decide)] at c9; omega)) (fun c9 => ?_)
    refine G_iload_n hX (j := 0) (hj := rfl) 19 28 rfl rfl ?_
    refine G_iload_n hX (j := 3) (hj := rfl) 20 29 rfl rfl ?_
    refine G_iadd hX 21 30 rfl rfl ?_
    refine G_top (w := nI (dgN false w).length) (by rw [show (dgN false w).length = 2 from by unfold dgN; rw [if_pos (show 10 ≤ w by omega)]; rfl]; decide) ?_
    exact G_iret hX 22 rfl (Nat.le_of_ble_eq_true rfl) (Nat.le_of_ble_eq_true rfl) rfl (fun H h => ⟨rfl, h⟩)
  · rw [jx_n10, sb_nle (by omega) (by decide)] at c9
    refine G_iload_n hX (j := 0) (hj := rfl) 19 28 rfl rfl ?_
    refine G_iload_n hX (j := 3) (hj := rfl) 20 29 rfl rfl ?_
    refine G_iadd hX 21 30 rfl rfl ?_
    refine G_top (w := nI (dgN false w).length) (by rw [show (dgN false w).length = 1 from by unfold dgN; rw [if_neg (show ¬ 10 ≤ w by omega)]; rfl]; decide) ?_
    exact G_iret hX 22 rfl (Nat.le_of_ble_eq_true rfl) (Nat.le_of_ble_eq_true rfl) rfl (fun H h => ⟨rfl, h⟩)
theorem cj_stringSize_n (hl : l.stackTraces = false) (K : KT) {w : Nat} (hw : w < 100) (h0 : 0 < w) (I : Heap → Prop) : CG l K y_stringSize (Cond.code y_stringSize prog_29_method_13_code 4 (some .int)) 0 0 0 [.int (-nI w)] (I) (fun v H => v = some (.int (nI (dgN true w).length)) ∧ I H) := by
  refine CG_of (lc := [(0, .int (-nI w))]) (by decide +kernel) dec_stringSize hl rfl (Nat.le_of_ble_eq_true rfl) (fun X hX hin => ?_)
  refine G_iconst hX (v := 1) (hv := by decide) 0 1 rfl rfl ?_
  refine G_istore_n hX 1 2 [(1, .int 1), (0, .int (-nI w))] rfl rfl (Nat.le_of_ble_eq_true rfl) rfl ?_
  refine G_iload_n hX (j := 1) (hj := rfl) 2 3 rfl rfl ?_
  refine G_if_lt hX 3 6 11 rfl rfl (by decide) (fun c9 => ?_) (fun c9 => False.elim (c9 (by rw [show (0 : Int32) = -nI 0 from by decide, sb_nlt (by omega) (by decide)]; omega)))
  refine G_bipush hX (v := (-10)) (hv := by decide) 9 13 rfl rfl ?_
  refine G_istore_n hX 10 14 [(2, .int (-10)), (1, .int 1), (0, .int (-nI w))] rfl rfl (Nat.le_of_ble_eq_true rfl) rfl ?_
  refine G_iconst hX (v := 1) (hv := by decide) 11 15 rfl rfl ?_
  refine G_istore_n hX 12 16 [(3, .int 1), (2, .int (-10)), (1, .int 1), (0, .int (-nI w))] rfl rfl (Nat.le_of_ble_eq_true rfl) rfl ?_
  refine G_iload_n hX (j := 0) (hj := rfl) 13 17 rfl rfl ?_
  refine G_bipush hX (v := 10) (hv := by decide) 14 19 rfl rfl ?_
  refine G_icmp_ge hX 15 22 42 rfl rfl (by decide) (fun c9 => False.elim (absurd c9 (by decide))) (fun c9 => ?_)
  refine G_iload_n hX (j := 3) (hj := rfl) 16 23 rfl rfl ?_
  refine G_iload_n hX (j := 1) (hj := rfl) 17 24 rfl rfl ?_
  refine G_icmp_le hX 18 27 31 rfl rfl (by decide) (fun c9 => ?_) (fun c9 => ?_)
  · rw [jx_n10, sb_nle (by omega) (by decide)] at c9
    refine G_bipush hX (v := 10) (hv := by decide) 23 33 rfl rfl ?_
    refine G_iload_n hX (j := 1) (hj := rfl) 24 34 rfl rfl ?_
    refine G_imul hX 25 35 rfl rfl ?_
    refine G_istore_n hX 26 36 [(2, .int (10 * -10)), (3, .int 1), (1, .int 1), (0, .int (-nI w))] rfl rfl (Nat.le_of_ble_eq_true rfl) rfl ?_
    refine G_iinc hX 27 39 1 2 [(3, .int 2), (2, .int (10 * -10)), (1, .int 1), (0, .int (-nI w))] rfl rfl rfl rfl (Nat.le_of_ble_eq_true rfl) rfl ?_
    refine G_goto hX 28 16 rfl (by decide) ?_
    refine G_iload_n hX (j := 0) (hj := rfl) 13 17 rfl rfl ?_
    refine G_bipush hX (v := 10) (hv := by decide) 14 19 rfl rfl ?_
    refine G_icmp_ge hX 15 22 42 rfl rfl (by decide) (fun c9 => False.elim (absurd c9 (by decide))) (fun c9 => ?_)
    refine G_iload_n hX (j := 3) (hj := rfl) 16 23 rfl rfl ?_
    refine G_iload_n hX (j := 1) (hj := rfl) 17 24 rfl rfl ?_
    refine G_icmp_le hX 18 27 31 rfl rfl (by decide) (fun c9 => False.elim (by rw [show (10 * -10 : Int32) = -nI 100 from by decide, sb_nle (by omega) (by decide)] at c9; omega)) (fun c9 => ?_)
    refine G_iload_n hX (j := 0) (hj := rfl) 19 28 rfl rfl ?_
    refine G_iload_n hX (j := 2) (hj := rfl) 20 29 rfl rfl ?_
    refine G_iadd hX 21 30 rfl rfl ?_
    refine G_top (w := nI (dgN true w).length) (by rw [show (dgN true w).length = 3 from by unfold dgN; rw [if_pos (show 10 ≤ w by omega)]; rfl]; decide) ?_
    exact G_iret hX 22 rfl (Nat.le_of_ble_eq_true rfl) (Nat.le_of_ble_eq_true rfl) rfl (fun H h => ⟨rfl, h⟩)
  · rw [jx_n10, sb_nle (by omega) (by decide)] at c9
    refine G_iload_n hX (j := 0) (hj := rfl) 19 28 rfl rfl ?_
    refine G_iload_n hX (j := 2) (hj := rfl) 20 29 rfl rfl ?_
    refine G_iadd hX 21 30 rfl rfl ?_
    refine G_top (w := nI (dgN true w).length) (by rw [show (dgN true w).length = 2 from by unfold dgN; rw [if_neg (show ¬ 10 ≤ w by omega)]; rfl]; decide) ?_
    exact G_iret hX 22 rfl (Nat.le_of_ble_eq_true rfl) (Nat.le_of_ble_eq_true rfl) rfl (fun H h => ⟨rfl, h⟩)
theorem fkj_Integer_83 : Cond.fieldLink "java/lang/Integer" 83 "java/lang/Integer" "DigitOnes" "[B" ∈ zz_good := zz_c6 198 (by decide +kernel) rfl
theorem fkj_Integer_87 : Cond.fieldLink "java/lang/Integer" 87 "java/lang/Integer" "DigitTens" "[B" ∈ zz_good := zz_c6 200 (by decide +kernel) rfl
theorem cj_getChars_p (hl : l.stackTraces = false) (K : KT) (M : Mm) {q m e w : Nat} {a : Nat → Int32} (x : Nat × va_E) (hw : w < 100) (he : (dgN false w).length ≤ e) (hem : e ≤ m) (hm9 : m ≤ 142) (hf : sb_Fit a) : CG l K y_getChars (Cond.code y_getChars prog_29_method_12_code 7 (some .int)) 0 0 0 [.int (nI w), .int (nI e), .ref q] (GI K (wsx K M [x, sbB K q m a])) (fun v H => ∃ (a' : Nat → Int32) (r : Int32), v = some (.int r) ∧ sb_Fit a' ∧ (∀ i, i < e - (dgN false w).length → a' i = a i) ∧ (∀ i, i < (dgN false w).length → a' (e - (dgN false w).length + i) = sb_b ((dgN false w).getD i 0)) ∧ GI K (wsx K M [x, sbB K q m a']) H) := by
  refine CG_of (lc := [(0, .int (nI w)), (1, .int (nI e)), (2, .ref q)]) (by decide +kernel) dec_getChars hl rfl (Nat.le_of_ble_eq_true rfl) (fun X hX hin => ?_)
  have hd9 := (dg_len false w hw).1
  refine G_iload_n hX (j := 1) (hj := rfl) 0 1 rfl rfl ?_
  refine G_istore hX 1 3 [(5, .int (nI e)), (0, .int (nI w)), (1, .int (nI e)), (2, .ref q)] rfl rfl (Nat.le_of_ble_eq_true rfl) rfl ?_
  refine G_iload_n hX (j := 1) (hj := rfl) 2 4 rfl rfl ?_
  refine G_if_ge hX 3 7 11 rfl rfl (by decide) (fun c9 => ?_) (fun c9 => False.elim (c9 (nI_pos' (by omega))))
  refine G_iconst hX (v := 0) (hv := by decide) 6 12 rfl rfl ?_
  refine G_istore hX 7 14 [(6, .int 0), (5, .int (nI e)), (0, .int (nI w)), (1, .int (nI e)), (2, .ref q)] rfl rfl (Nat.le_of_ble_eq_true rfl) rfl ?_
  refine G_iload hX (j := 0) (hj := rfl) 8 16 rfl rfl ?_
  refine G_if_ne hX 9 19 22 rfl rfl (by decide) (fun c9 => False.elim (c9 rfl)) (fun c9 => ?_)
  refine G_iload_n hX (j := 2) (hj := rfl) 10 20 rfl rfl ?_
  refine G_ineg hX 11 21 rfl rfl ?_
  refine G_istore_n hX 12 22 [(0, .int (-nI w)), (6, .int 0), (5, .int (nI e)), (1, .int (nI e)), (2, .ref q)] rfl rfl (Nat.le_of_ble_eq_true rfl) rfl ?_
  refine G_iload_n hX (j := 0) (hj := rfl) 13 23 rfl rfl ?_
  refine G_bipush hX (v := (-100)) (hv := by decide) 14 25 rfl rfl ?_
  refine G_icmp_gt hX 15 28 72 rfl rfl (by decide) (fun c9 => ?_) (fun c9 => False.elim (c9 (by rw [jx_n100, sb_nlt (by omega) (by omega)]; omega)))
  refine G_aload_n hX (j := 4) (hj := rfl) 43 73 rfl rfl ?_
  refine G_iinc hX 44 76 2 (nI (e - 1)) [(5, .int (nI (e - 1))), (0, .int (-nI w)), (6, .int 0), (1, .int (nI e)), (2, .ref q)] rfl rfl rfl (jx_m1 (by omega)) (Nat.le_of_ble_eq_true rfl) rfl ?_
  refine G_iload hX (j := 0) (hj := rfl) 45 78 rfl rfl ?_
  refine G_dO hX 46 81 fkj_Integer_83 rfl rfl ?_
  refine G_iload_n hX (j := 1) (hj := rfl) 47 82 rfl rfl ?_
  refine G_ineg hX 48 83 rfl rfl ?_
  refine G_top (w := nI w) (jx_neg w) ?_
  refine G_lO hX 49 84 hw rfl rfl ?_
  refine G_bast hX 50 85 46 rfl (vp_in_nI (by omega) (by omega)) rfl rfl ?_
  rw [SW_set1, nI_clamp (show e - 1 < 2 ^ 31 by omega), jx_nar _ (by omega)]
  refine G_iload_n hX (j := 1) (hj := rfl) 51 86 rfl rfl ?_
  refine G_bipush hX (v := (-9)) (hv := by decide) 52 88 rfl rfl ?_
  refine G_icmp_ge hX 53 91 104 rfl rfl (by decide) (fun c9 => ?_) (fun c9 => ?_)
  · rw [jx_n9, sb_nle (by decide) (by omega)] at c9
    have e9 : dgN false w = [48 + w % 10] := dg_f1 (by omega)
    rw [e9] at he
    have he9 : 1 ≤ e := he
    refine G_iload hX (j := 2) (hj := rfl) 62 106 rfl rfl ?_
    refine G_if_eq hX 63 109 118 rfl rfl (by decide) (fun c9 => ?_) (fun c9 => False.elim (c9 rfl))
    refine G_iload hX (j := 0) (hj := rfl) 69 120 rfl rfl ?_
    refine G_iret hX 70 rfl (Nat.le_of_ble_eq_true rfl) (Nat.le_of_ble_eq_true rfl) rfl (fun H h => ⟨_, _, rfl, ?_, ?_, ?_, h⟩)
    · exact sb_fitU hf (sb_fitB _)
    · rw [e9]
      intro i hi
      have hi9 : i < e - 1 := hi
      simp only [upd]
      repeat rw [if_neg (by omega)]
    · rw [e9]
      intro i hi
      have hi9 : i < 1 := hi
      simp only [List.length_cons, List.length_nil]
      have hc9 : i = 0 := by omega
      rcases hc9 with rfl
      · simp only [upd]
        repeat first | rw [if_pos (by omega)] | rw [if_neg (by omega)]
        try rfl
  · rw [jx_n9, sb_nle (by decide) (by omega)] at c9
    have e9 : dgN false w = [48 + w / 10, 48 + w % 10] := dg_f2 (by omega)
    rw [e9] at he
    have he9 : 2 ≤ e := he
    refine G_aload_n hX (j := 4) (hj := rfl) 54 92 rfl rfl ?_
    refine G_iinc hX 55 95 0 (nI (e - 1 - 1)) [(5, .int (nI (e - 1 - 1))), (0, .int (-nI w)), (6, .int 0), (1, .int (nI e)), (2, .ref q)] rfl rfl rfl (jx_m1 (by omega)) (Nat.le_of_ble_eq_true rfl) rfl ?_
    refine G_iload hX (j := 0) (hj := rfl) 56 97 rfl rfl ?_
    refine G_dT hX 57 100 fkj_Integer_87 rfl rfl ?_
    refine G_iload_n hX (j := 1) (hj := rfl) 58 101 rfl rfl ?_
    refine G_ineg hX 59 102 rfl rfl ?_
    refine G_top (w := nI w) (jx_neg w) ?_
    refine G_lT hX 60 103 hw rfl rfl ?_
    refine G_bast hX 61 104 46 rfl (vp_in_nI (by omega) (by omega)) rfl rfl ?_
    rw [SW_set1, nI_clamp (show e - 1 - 1 < 2 ^ 31 by omega), jx_nar _ (by omega)]
    refine G_iload hX (j := 2) (hj := rfl) 62 106 rfl rfl ?_
    refine G_if_eq hX 63 109 118 rfl rfl (by decide) (fun c9 => ?_) (fun c9 => False.elim (c9 rfl))
    refine G_iload hX (j := 0) (hj := rfl) 69 120 rfl rfl ?_
    refine G_iret hX 70 rfl (Nat.le_of_ble_eq_true rfl) (Nat.le_of_ble_eq_true rfl) rfl (fun H h => ⟨_, _, rfl, ?_, ?_, ?_, h⟩)
    · exact sb_fitU (sb_fitU hf (sb_fitB _)) (sb_fitB _)
    · rw [e9]
      intro i hi
      have hi9 : i < e - 2 := hi
      simp only [upd]
      repeat rw [if_neg (by omega)]
    · rw [e9]
      intro i hi
      have hi9 : i < 2 := hi
      simp only [List.length_cons, List.length_nil]
      skip
      have hc9 : i = 0 ∨ i = 1 := by omega
      rcases hc9 with rfl | rfl
      · simp only [upd]
        repeat first | rw [if_pos (by omega)] | rw [if_neg (by omega)]
        try rfl
      · simp only [upd]
        repeat first | rw [if_pos (by omega)] | rw [if_neg (by omega)]
        try rfl
theorem cj_getChars_n (hl : l.stackTraces = false) (K : KT) (M : Mm) {q m e w : Nat} {a : Nat → Int32} (x : Nat × va_E) (hw : w < 100) (h0 : 0 < w) (he : (dgN true w).length ≤ e) (hem : e ≤ m) (hm9 : m ≤ 142) (hf : sb_Fit a) : CG l K y_getChars (Cond.code y_getChars prog_29_method_12_code 7 (some .int)) 0 0 0 [.int (-nI w), .int (nI e), .ref q] (GI K (wsx K M [x, sbB K q m a])) (fun v H => ∃ (a' : Nat → Int32) (r : Int32), v = some (.int r) ∧ sb_Fit a' ∧ (∀ i, i < e - (dgN true w).length → a' i = a i) ∧ (∀ i, i < (dgN true w).length → a' (e - (dgN true w).length + i) = sb_b ((dgN true w).getD i 0)) ∧ GI K (wsx K M [x, sbB K q m a']) H) := by
  refine CG_of (lc := [(0, .int (-nI w)), (1, .int (nI e)), (2, .ref q)]) (by decide +kernel) dec_getChars hl rfl (Nat.le_of_ble_eq_true rfl) (fun X hX hin => ?_)
  have hd9 := (dg_len true w hw).1
  refine G_iload_n hX (j := 1) (hj := rfl) 0 1 rfl rfl ?_
  refine G_istore hX 1 3 [(5, .int (nI e)), (0, .int (-nI w)), (1, .int (nI e)), (2, .ref q)] rfl rfl (Nat.le_of_ble_eq_true rfl) rfl ?_
  refine G_iload_n hX (j := 1) (hj := rfl) 2 4 rfl rfl ?_
  refine G_if_ge hX 3 7 11 rfl rfl (by decide) (fun c9 => False.elim (by rw [show (0 : Int32) = -nI 0 from by decide, sb_nle (by decide) (by omega)] at c9; omega)) (fun c9 => ?_)
  refine G_iconst hX (v := 1) (hv := by decide) 4 8 rfl rfl ?_
  refine G_goto hX 5 12 rfl (by decide) ?_
  refine G_istore hX 7 14 [(6, .int 1), (5, .int (nI e)), (0, .int (-nI w)), (1, .int (nI e)), (2, .ref q)] rfl rfl (Nat.le_of_ble_eq_true rfl) rfl ?_
  refine G_iload hX (j := 0) (hj := rfl) 8 16 rfl rfl ?_
  refine G_if_ne hX 9 19 22 rfl rfl (by decide) (fun c9 => ?_) (fun c9 => False.elim (absurd c9 (by decide)))
  refine G_iload_n hX (j := 2) (hj := rfl) 13 23 rfl rfl ?_
  refine G_bipush hX (v := (-100)) (hv := by decide) 14 25 rfl rfl ?_
  refine G_icmp_gt hX 15 28 72 rfl rfl (by decide) (fun c9 => ?_) (fun c9 => False.elim (c9 (by rw [jx_n100, sb_nlt (by omega) (by omega)]; omega)))
  refine G_aload_n hX (j := 4) (hj := rfl) 43 73 rfl rfl ?_
  refine G_iinc hX 44 76 1 (nI (e - 1)) [(5, .int (nI (e - 1))), (6, .int 1), (0, .int (-nI w)), (1, .int (nI e)), (2, .ref q)] rfl rfl rfl (jx_m1 (by omega)) (Nat.le_of_ble_eq_true rfl) rfl ?_
  refine G_iload hX (j := 0) (hj := rfl) 45 78 rfl rfl ?_
  refine G_dO hX 46 81 fkj_Integer_83 rfl rfl ?_
  refine G_iload_n hX (j := 2) (hj := rfl) 47 82 rfl rfl ?_
  refine G_ineg hX 48 83 rfl rfl ?_
  refine G_top (w := nI w) (jx_neg w) ?_
  refine G_lO hX 49 84 hw rfl rfl ?_
  refine G_bast hX 50 85 46 rfl (vp_in_nI (by omega) (by omega)) rfl rfl ?_
  rw [SW_set1, nI_clamp (show e - 1 < 2 ^ 31 by omega), jx_nar _ (by omega)]
  refine G_iload_n hX (j := 2) (hj := rfl) 51 86 rfl rfl ?_
  refine G_bipush hX (v := (-9)) (hv := by decide) 52 88 rfl rfl ?_
  refine G_icmp_ge hX 53 91 104 rfl rfl (by decide) (fun c9 => ?_) (fun c9 => ?_)
  · rw [jx_n9, sb_nle (by decide) (by omega)] at c9
    have e9 : dgN true w = [45, 48 + w % 10] := dg_t1 (by omega)
    rw [e9] at he
    have he9 : 2 ≤ e := he
    refine G_iload hX (j := 1) (hj := rfl) 62 106 rfl rfl ?_
    refine G_if_eq hX 63 109 118 rfl rfl (by decide) (fun c9 => False.elim (absurd c9 (by decide))) (fun c9 => ?_)
    refine G_aload_n hX (j := 4) (hj := rfl) 64 110 rfl rfl ?_
    refine G_iinc hX 65 113 0 (nI (e - 1 - 1)) [(5, .int (nI (e - 1 - 1))), (6, .int 1), (0, .int (-nI w)), (1, .int (nI e)), (2, .ref q)] rfl rfl rfl (jx_m1 (by omega)) (Nat.le_of_ble_eq_true rfl) rfl ?_
    refine G_iload hX (j := 0) (hj := rfl) 66 115 rfl rfl ?_
    refine G_bipush hX (v := 45) (hv := by decide) 67 117 rfl rfl ?_
    refine G_top (w := sb_b 45) (by decide) ?_
    refine G_bast hX 68 118 46 rfl (vp_in_nI (by omega) (by omega)) rfl rfl ?_
    rw [SW_set1, nI_clamp (show e - 1 - 1 < 2 ^ 31 by omega), jx_nar _ (by omega)]
    refine G_iload hX (j := 0) (hj := rfl) 69 120 rfl rfl ?_
    refine G_iret hX 70 rfl (Nat.le_of_ble_eq_true rfl) (Nat.le_of_ble_eq_true rfl) rfl (fun H h => ⟨_, _, rfl, ?_, ?_, ?_, h⟩)
    · exact sb_fitU (sb_fitU hf (sb_fitB _)) (sb_fitB _)
    · rw [e9]
      intro i hi
      have hi9 : i < e - 2 := hi
      simp only [upd]
      repeat rw [if_neg (by omega)]
    · rw [e9]
      intro i hi
      have hi9 : i < 2 := hi
      simp only [List.length_cons, List.length_nil]
      skip
      have hc9 : i = 0 ∨ i = 1 := by omega
      rcases hc9 with rfl | rfl
      · simp only [upd]
        repeat first | rw [if_pos (by omega)] | rw [if_neg (by omega)]
        try rfl
      · simp only [upd]
        repeat first | rw [if_pos (by omega)] | rw [if_neg (by omega)]
        try rfl
  · rw [jx_n9, sb_nle (by decide) (by omega)] at c9
    have e9 : dgN true w = [45, 48 + w / 10, 48 + w % 10] := dg_t2 (by omega)
    rw [e9] at he
    have he9 : 3 ≤ e := he
    refine G_aload_n hX (j := 4) (hj := rfl) 54 92 rfl rfl ?_
    refine G_iinc hX 55 95 0 (nI (e - 1 - 1)) [(5, .int (nI (e - 1 - 1))), (6, .int 1), (0, .int (-nI w)), (1, .int (nI e)), (2, .ref q)] rfl rfl rfl (jx_m1 (by omega)) (Nat.le_of_ble_eq_true rfl) rfl ?_
    refine G_iload hX (j := 0) (hj := rfl) 56 97 rfl rfl ?_
    refine G_dT hX 57 100 fkj_Integer_87 rfl rfl ?_
    refine G_iload_n hX (j := 2) (hj := rfl) 58 101 rfl rfl ?_
    refine G_ineg hX 59 102 rfl rfl ?_
    refine G_top (w := nI w) (jx_neg w) ?_
    refine G_lT hX 60 103 hw rfl rfl ?_
    refine G_bast hX 61 104 46 rfl (vp_in_nI (by omega) (by omega)) rfl rfl ?_
    rw [SW_set1, nI_clamp (show e - 1 - 1 < 2 ^ 31 by omega), jx_nar _ (by omega)]
    refine G_iload hX (j := 1) (hj := rfl) 62 106 rfl rfl ?_
    refine G_if_eq hX 63 109 118 rfl rfl (by decide) (fun c9 => False.elim (absurd c9 (by decide))) (fun c9 => ?_)
    refine G_aload_n hX (j := 4) (hj := rfl) 64 110 rfl rfl ?_
    refine G_iinc hX 65 113 0 (nI (e - 1 - 1 - 1)) [(5, .int (nI (e - 1 - 1 - 1))), (6, .int 1), (0, .int (-nI w)), (1, .int (nI e)), (2, .ref q)] rfl rfl rfl (jx_m1 (by omega)) (Nat.le_of_ble_eq_true rfl) rfl ?_
    refine G_iload hX (j := 0) (hj := rfl) 66 115 rfl rfl ?_
    refine G_bipush hX (v := 45) (hv := by decide) 67 117 rfl rfl ?_
    refine G_top (w := sb_b 45) (by decide) ?_
    refine G_bast hX 68 118 46 rfl (vp_in_nI (by omega) (by omega)) rfl rfl ?_
    rw [SW_set1, nI_clamp (show e - 1 - 1 - 1 < 2 ^ 31 by omega), jx_nar _ (by omega)]
    refine G_iload hX (j := 0) (hj := rfl) 69 120 rfl rfl ?_
    refine G_iret hX 70 rfl (Nat.le_of_ble_eq_true rfl) (Nat.le_of_ble_eq_true rfl) rfl (fun H h => ⟨_, _, rfl, ?_, ?_, ?_, h⟩)
    · exact sb_fitU (sb_fitU (sb_fitU hf (sb_fitB _)) (sb_fitB _)) (sb_fitB _)
    · rw [e9]
      intro i hi
      have hi9 : i < e - 3 := hi
      simp only [upd]
      repeat rw [if_neg (by omega)]
    · rw [e9]
      intro i hi
      have hi9 : i < 3 := hi
      simp only [List.length_cons, List.length_nil]
      skip
      skip
      have hc9 : i = 0 ∨ i = 1 ∨ i = 2 := by omega
      rcases hc9 with rfl | rfl | rfl
      · simp only [upd]
        repeat first | rw [if_pos (by omega)] | rw [if_neg (by omega)]
        try rfl
      · simp only [upd]
        repeat first | rw [if_pos (by omega)] | rw [if_neg (by omega)]
        try rfl
      · simp only [upd]
        repeat first | rw [if_pos (by omega)] | rw [if_neg (by omega)]
        try rfl
theorem mlj_AbstractStringBuilder_245 : Cond.methodLink "java/lang/AbstractStringBuilder" 245 y_stringSize ∈ zz_good := zz_c6 192 (by decide +kernel) rfl
theorem mlj_AbstractStringBuilder_248 : Cond.methodLink "java/lang/AbstractStringBuilder" 248 y_getChars ∈ zz_good := zz_c6 195 (by decide +kernel) rfl
theorem cj_A_appendI_p (hl : l.stackTraces = false) (K : KT) (M : Mm) {q m n w : Nat} {z : Int32} {a : Nat → Int32} (hw : w < 100) (hnm : n ≤ m) (hm : jx_M m) (hn : n + 3 ≤ 142) (hf : sb_Fit a) : CG l K y_A_appendI (Cond.code y_A_appendI prog_17_method_32_code 4 (some (.object "java/lang/AbstractStringBuilder"))) 5 1 142 [.ref (kA K 19), .int (nI w)] (GI K (wsx K M [sbO K q z n, sbB K q m a])) (fun v H => ∃ q' m' a', v = some (.ref (kA K 19)) ∧ jx_M m' ∧ n + (dgN false w).length ≤ m' ∧ sb_Fit a' ∧ (∀ i, i < n → a' i = a i) ∧ (∀ i, i < (dgN false w).length → a' (n + i) = sb_b ((dgN false w).getD i 0)) ∧ GI K (wsx K M [sbO K q' z (n + (dgN false w).length), sbB K q' m' a']) H) := by
  refine CG_of (lc := [(0, .ref (kA K 19)), (1, .int (nI w))]) (by decide +kernel) dec_A_appendI hl rfl (Nat.le_of_ble_eq_true rfl) (fun X hX hin => ?_)
  have hm9 := jx_Mle hm
  have hd9 := (dg_len false w hw).2
  refine G_aload_n hX (j := 0) (hj := rfl) 0 1 rfl rfl ?_
  refine sb_get hX 1 4 flj_AbstractStringBuilder_79 rfl rfl rfl ?_
  refine G_istore_n hX 2 5 [(2, .int (nI n)), (0, .ref (kA K 19)), (1, .int (nI w))] rfl rfl (Nat.le_of_ble_eq_true rfl) rfl ?_
  refine G_iload_n hX (j := 0) (hj := rfl) 3 6 rfl rfl ?_
  refine G_iload_n hX (j := 2) (hj := rfl) 4 7 rfl rfl ?_
  refine G_callS hX 5 (cj_stringSize_p hl K hw (GI K (wsx K M [sbO K q z n, sbB K q m a]))) my_stringSize mt_stringSize mlj_AbstractStringBuilder_245 (Nat.le_of_ble_eq_true rfl) (Nat.le_of_ble_eq_true rfl) rfl rfl (Nat.le_of_ble_eq_true rfl) rfl (Nat.le_of_ble_eq_true rfl) (Nat.le_of_ble_eq_true rfl) (fun v => ?_)
  refine VG_and (fun e => ?_)
  subst e
  refine G_iadd hX 6 11 rfl rfl ?_
  refine G_top (w := nI (n + (dgN false w).length)) (nI_add _ _) ?_
  refine G_istore_n hX 7 12 [(3, .int (nI (n + (dgN false w).length))), (2, .int (nI n)), (0, .ref (kA K 19)), (1, .int (nI w))] rfl rfl (Nat.le_of_ble_eq_true rfl) rfl ?_
  refine G_aload_n hX (j := 2) (hj := rfl) 8 13 rfl rfl ?_
  refine G_iload_n hX (j := 0) (hj := rfl) 9 14 rfl rfl ?_
  refine G_callP hX 10 45 (cj_A_ensure hl K M (w := n + (dgN false w).length) hm (by omega) (by omega) hf) my_A_ensure mi_A_ensure mp_A_ensure mq_A_ensure ins_SB mlj_AbstractStringBuilder_100 rfl rfl (Nat.le_of_ble_eq_true rfl) (Nat.le_of_ble_eq_true rfl) rfl rfl (Nat.le_of_ble_eq_true rfl) rfl (Nat.le_of_ble_eq_true rfl) (Nat.le_of_ble_eq_true rfl) (fun v => ?_)
  refine VG_ex (fun q' => VG_ex (fun m' => VG_ex (fun a' => VG_and (fun e => VG_and (fun hm' => VG_and (fun hw' => VG_and (fun hmm' => VG_and (fun hf' => VG_and (fun hk' => ?_)))))))))
  subst e
  have hm8 := jx_Mle hm'
  refine G_aload_n hX (j := 2) (hj := rfl) 11 18 rfl rfl ?_
  refine G_callV hX 12 45 (cj_A_isLatin1 hl K M q' z n [sbB K q' m' a']) my_A_isLatin1 mi_A_isLatin1 ms_A_isLatin1 mlj_AbstractStringBuilder_83 rfl rfl (Nat.le_of_ble_eq_true rfl) (Nat.le_of_ble_eq_true rfl) rfl rfl (Nat.le_of_ble_eq_true rfl) rfl (Nat.le_of_ble_eq_true rfl) (Nat.le_of_ble_eq_true rfl) (fun v => ?_)
  refine VG_and (fun e => ?_)
  subst e
  refine G_if_eq hX 13 24 37 rfl rfl (by decide) (fun c9 => False.elim (absurd c9 (by decide))) (fun c9 => ?_)
  refine G_iload_n hX (j := 3) (hj := rfl) 14 25 rfl rfl ?_
  refine G_iload_n hX (j := 0) (hj := rfl) 15 26 rfl rfl ?_
  refine G_aload_n hX (j := 2) (hj := rfl) 16 27 rfl rfl ?_
  refine sb_get hX 17 30 flj_AbstractStringBuilder_15 rfl rfl rfl ?_
  refine G_callS hX 18 (cj_getChars_p hl K M (e := n + (dgN false w).length) (sbO K q' z n) hw (by omega) (by omega) (by omega) hf') my_getChars mt_getChars mlj_AbstractStringBuilder_248 (Nat.le_of_ble_eq_true rfl) (Nat.le_of_ble_eq_true rfl) rfl rfl (Nat.le_of_ble_eq_true rfl) rfl (Nat.le_of_ble_eq_true rfl) (Nat.le_of_ble_eq_true rfl) (fun v => ?_)
  refine VG_ex (fun b' => VG_ex (fun r => VG_and (fun e => VG_and (fun hb' => VG_and (fun hk2 => VG_and (fun hd' => ?_))))))
  subst e
  rw [Nat.add_sub_cancel] at hk2 hd'
  refine G_pop hX (hc := rfl) 19 34 rfl rfl ?_
  refine G_goto hX 20 48 rfl (by decide) ?_
  refine G_aload_n hX (j := 2) (hj := rfl) 28 49 rfl rfl ?_
  refine G_iload_n hX (j := 0) (hj := rfl) 29 50 rfl rfl ?_
  refine sb_put hX 30 53 [.ref q', .int 0, .int z, .int (nI (n + (dgN false w).length))] fpj_AbstractStringBuilder_79 rfl rfl (Nat.le_of_ble_eq_true rfl) rfl rfl rfl ?_
  refine G_aload_n hX (j := 2) (hj := rfl) 31 54 rfl rfl ?_
  exact G_aret hX 32 rfl (Or.inl ⟨_, rfl⟩) (Nat.le_of_ble_eq_true rfl) (Nat.le_of_ble_eq_true rfl) rfl (fun H h => ⟨q', m', b', rfl, hm', hw', hb', fun i hi => (hk2 i hi).trans (hk' i (by omega)), hd', h⟩)
theorem cj_A_appendI_n (hl : l.stackTraces = false) (K : KT) (M : Mm) {q m n w : Nat} {z : Int32} {a : Nat → Int32} (hw : w < 100) (h0 : 0 < w) (hnm : n ≤ m) (hm : jx_M m) (hn : n + 3 ≤ 142) (hf : sb_Fit a) : CG l K y_A_appendI (Cond.code y_A_appendI prog_17_method_32_code 4 (some (.object "java/lang/AbstractStringBuilder"))) 5 1 142 [.ref (kA K 19), .int (-nI w)] (GI K (wsx K M [sbO K q z n, sbB K q m a])) (fun v H => ∃ q' m' a', v = some (.ref (kA K 19)) ∧ jx_M m' ∧ n + (dgN true w).length ≤ m' ∧ sb_Fit a' ∧ (∀ i, i < n → a' i = a i) ∧ (∀ i, i < (dgN true w).length → a' (n + i) = sb_b ((dgN true w).getD i 0)) ∧ GI K (wsx K M [sbO K q' z (n + (dgN true w).length), sbB K q' m' a']) H) := by
  refine CG_of (lc := [(0, .ref (kA K 19)), (1, .int (-nI w))]) (by decide +kernel) dec_A_appendI hl rfl (Nat.le_of_ble_eq_true rfl) (fun X hX hin => ?_)
  have hm9 := jx_Mle hm
  have hd9 := (dg_len true w hw).2
  refine G_aload_n hX (j := 0) (hj := rfl) 0 1 rfl rfl ?_
  refine sb_get hX 1 4 flj_AbstractStringBuilder_79 rfl rfl rfl ?_
  refine G_istore_n hX 2 5 [(2, .int (nI n)), (0, .ref (kA K 19)), (1, .int (-nI w))] rfl rfl (Nat.le_of_ble_eq_true rfl) rfl ?_
  refine G_iload_n hX (j := 0) (hj := rfl) 3 6 rfl rfl ?_
  refine G_iload_n hX (j := 2) (hj := rfl) 4 7 rfl rfl ?_
  refine G_callS hX 5 (cj_stringSize_n hl K hw h0 (GI K (wsx K M [sbO K q z n, sbB K q m a]))) my_stringSize mt_stringSize mlj_AbstractStringBuilder_245 (Nat.le_of_ble_eq_true rfl) (Nat.le_of_ble_eq_true rfl) rfl rfl (Nat.le_of_ble_eq_true rfl) rfl (Nat.le_of_ble_eq_true rfl) (Nat.le_of_ble_eq_true rfl) (fun v => ?_)
  refine VG_and (fun e => ?_)
  subst e
  refine G_iadd hX 6 11 rfl rfl ?_
  refine G_top (w := nI (n + (dgN true w).length)) (nI_add _ _) ?_
  refine G_istore_n hX 7 12 [(3, .int (nI (n + (dgN true w).length))), (2, .int (nI n)), (0, .ref (kA K 19)), (1, .int (-nI w))] rfl rfl (Nat.le_of_ble_eq_true rfl) rfl ?_
  refine G_aload_n hX (j := 2) (hj := rfl) 8 13 rfl rfl ?_
  refine G_iload_n hX (j := 0) (hj := rfl) 9 14 rfl rfl ?_
  refine G_callP hX 10 45 (cj_A_ensure hl K M (w := n + (dgN true w).length) hm (by omega) (by omega) hf) my_A_ensure mi_A_ensure mp_A_ensure mq_A_ensure ins_SB mlj_AbstractStringBuilder_100 rfl rfl (Nat.le_of_ble_eq_true rfl) (Nat.le_of_ble_eq_true rfl) rfl rfl (Nat.le_of_ble_eq_true rfl) rfl (Nat.le_of_ble_eq_true rfl) (Nat.le_of_ble_eq_true rfl) (fun v => ?_)
  refine VG_ex (fun q' => VG_ex (fun m' => VG_ex (fun a' => VG_and (fun e => VG_and (fun hm' => VG_and (fun hw' => VG_and (fun hmm' => VG_and (fun hf' => VG_and (fun hk' => ?_)))))))))
  subst e
  have hm8 := jx_Mle hm'
  refine G_aload_n hX (j := 2) (hj := rfl) 11 18 rfl rfl ?_
  refine G_callV hX 12 45 (cj_A_isLatin1 hl K M q' z n [sbB K q' m' a']) my_A_isLatin1 mi_A_isLatin1 ms_A_isLatin1 mlj_AbstractStringBuilder_83 rfl rfl (Nat.le_of_ble_eq_true rfl) (Nat.le_of_ble_eq_true rfl) rfl rfl (Nat.le_of_ble_eq_true rfl) rfl (Nat.le_of_ble_eq_true rfl) (Nat.le_of_ble_eq_true rfl) (fun v => ?_)
  refine VG_and (fun e => ?_)
  subst e
  refine G_if_eq hX 13 24 37 rfl rfl (by decide) (fun c9 => False.elim (absurd c9 (by decide))) (fun c9 => ?_)
  refine G_iload_n hX (j := 3) (hj := rfl) 14 25 rfl rfl ?_
  refine G_iload_n hX (j := 0) (hj := rfl) 15 26 rfl rfl ?_
  refine G_aload_n hX (j := 2) (hj := rfl) 16 27 rfl rfl ?_
  refine sb_get hX 17 30 flj_AbstractStringBuilder_15 rfl rfl rfl ?_
  refine G_callS hX 18 (cj_getChars_n hl K M (e := n + (dgN true w).length) (sbO K q' z n) hw h0 (by omega) (by omega) (by omega) hf') my_getChars mt_getChars mlj_AbstractStringBuilder_248 (Nat.le_of_ble_eq_true rfl) (Nat.le_of_ble_eq_true rfl) rfl rfl (Nat.le_of_ble_eq_true rfl) rfl (Nat.le_of_ble_eq_true rfl) (Nat.le_of_ble_eq_true rfl) (fun v => ?_)
  refine VG_ex (fun b' => VG_ex (fun r => VG_and (fun e => VG_and (fun hb' => VG_and (fun hk2 => VG_and (fun hd' => ?_))))))
  subst e
  rw [Nat.add_sub_cancel] at hk2 hd'
  refine G_pop hX (hc := rfl) 19 34 rfl rfl ?_
  refine G_goto hX 20 48 rfl (by decide) ?_
  refine G_aload_n hX (j := 2) (hj := rfl) 28 49 rfl rfl ?_
  refine G_iload_n hX (j := 0) (hj := rfl) 29 50 rfl rfl ?_
  refine sb_put hX 30 53 [.ref q', .int 0, .int z, .int (nI (n + (dgN true w).length))] fpj_AbstractStringBuilder_79 rfl rfl (Nat.le_of_ble_eq_true rfl) rfl rfl rfl ?_
  refine G_aload_n hX (j := 2) (hj := rfl) 31 54 rfl rfl ?_
  exact G_aret hX 32 rfl (Or.inl ⟨_, rfl⟩) (Nat.le_of_ble_eq_true rfl) (Nat.le_of_ble_eq_true rfl) rfl (fun H h => ⟨q', m', b', rfl, hm', hw', hb', fun i hi => (hk2 i hi).trans (hk' i (by omega)), hd', h⟩)
theorem cj_A_ensure0 (hl : l.stackTraces = false) (K : KT) (M : Mm) {q m n w : Nat} {z : Int32} {a : Nat → Int32} (hm : jx_M m) (hw : w ≤ m) : CG l K y_A_ensure (Cond.code y_A_ensure prog_17_method_9_code 3 none) 0 0 0 [.ref (kA K 19), .int (nI w)] (GI K (wsx K M [sbO K q z n, sbB K q m a])) (fun v H => v = none ∧ GI K (wsx K M [sbO K q z n, sbB K q m a]) H) := by
  refine CG_of (lc := [(0, .ref (kA K 19)), (1, .int (nI w))]) (by decide +kernel) dec_A_ensure hl rfl (Nat.le_of_ble_eq_true rfl) (fun X hX hin => ?_)
  have hm9 := jx_Mle hm
  refine G_aload_n hX (j := 0) (hj := rfl) 0 1 rfl rfl ?_
  refine sb_get hX 1 4 flj_AbstractStringBuilder_15 rfl rfl rfl ?_
  refine G_alen hX (t0 := 4) 2 5 46 (nI m) rfl rfl rfl rfl rfl ?_
  refine G_aload_n hX (j := 0) (hj := rfl) 3 6 rfl rfl ?_
  refine sb_get hX 4 9 flj_AbstractStringBuilder_22 rfl rfl rfl ?_
  refine G_ishr hX 5 10 rfl rfl ?_
  refine G_top (w := nI m) (sb_shr0 _) ?_
  refine G_istore_n hX 6 11 [(2, .int (nI m)), (0, .ref (kA K 19)), (1, .int (nI w))] rfl rfl (Nat.le_of_ble_eq_true rfl) rfl ?_
  refine G_iload_n hX (j := 2) (hj := rfl) 7 12 rfl rfl ?_
  refine G_iload_n hX (j := 0) (hj := rfl) 8 13 rfl rfl ?_
  refine G_isub hX 9 14 rfl rfl ?_
  refine G_if_le hX 10 17 38 rfl rfl (by decide) (fun c9 => ?_) (fun c9 => False.elim (c9 ((le0_iff (by omega) (by omega)).2 hw)))
  exact G_vret hX 22 rfl (Nat.le_of_ble_eq_true rfl) (Nat.le_of_ble_eq_true rfl) rfl (fun H h => ⟨rfl, h⟩)
theorem fpj_AbstractStringBuilder_73 : FP "java/lang/AbstractStringBuilder" 73 10 2 .boolean := ⟨RJ4, TJ4, 4, tyJ4, rfl, uw_10, by decide, zz_c1 149 (by decide +kernel) rfl, tyJ4_ok, nmJ4, by decide, by decide +kernel⟩
theorem cj_A_setLength (hl : l.stackTraces = false) (K : KT) (M : Mm) {q m n : Nat} {z : Int32} {a : Nat → Int32} (hnm : n ≤ m) (hm : jx_M m) (hf : sb_Fit a) : CG l K y_A_setLength (Cond.code y_A_setLength prog_17_method_13_code 2 none) 1 0 0 [.ref (kA K 19), .int 0] (GI K (wsx K M [sbO K q z n, sbB K q m a])) (fun v H => ∃ q' m' z' a', v = none ∧ jx_M m' ∧ sb_Fit a' ∧ GI K (wsx K M [sbO K q' z' 0, sbB K q' m' a']) H) := by
  refine CG_of (lc := [(0, .ref (kA K 19)), (1, .int 0)]) (by decide +kernel) dec_A_setLength hl rfl (Nat.le_of_ble_eq_true rfl) (fun X hX hin => ?_)
  have hm9 := jx_Mle hm
  refine G_iload_n hX (j := 1) (hj := rfl) 0 1 rfl rfl ?_
  refine G_if_ge hX 1 4 13 rfl rfl (by decide) (fun c9 => ?_) (fun c9 => False.elim (c9 (by decide)))
  refine G_aload_n hX (j := 0) (hj := rfl) 7 14 rfl rfl ?_
  refine G_iload_n hX (j := 1) (hj := rfl) 8 15 rfl rfl ?_
  refine G_top (w := nI 0) (rfl) ?_
  refine G_callP hX 9 45 (cj_A_ensure0 hl K M (w := 0) hm (by omega)) my_A_ensure mi_A_ensure mp_A_ensure mq_A_ensure ins_SB mlj_AbstractStringBuilder_100 rfl rfl (Nat.le_of_ble_eq_true rfl) (Nat.le_of_ble_eq_true rfl) rfl rfl (Nat.le_of_ble_eq_true rfl) rfl (Nat.le_of_ble_eq_true rfl) (Nat.le_of_ble_eq_true rfl) (fun v => ?_)
  refine VG_and (fun e => ?_)
  subst e
  refine G_aload_n hX (j := 0) (hj := rfl) 10 19 rfl rfl ?_
  refine sb_get hX 11 22 flj_AbstractStringBuilder_79 rfl rfl rfl ?_
  refine G_iload_n hX (j := 1) (hj := rfl) 12 23 rfl rfl ?_
  refine G_icmp_ge hX 13 26 63 rfl rfl (by decide) (fun c9 => ?_) (fun c9 => False.elim (c9 (nI_pos' (by omega))))
  refine G_aload_n hX (j := 0) (hj := rfl) 31 64 rfl rfl ?_
  refine sb_get hX 32 67 flj_AbstractStringBuilder_79 rfl rfl rfl ?_
  refine G_iload_n hX (j := 1) (hj := rfl) 33 68 rfl rfl ?_
  refine G_icmp_le hX 34 71 76 rfl rfl (by decide) (fun c9 => ?_) (fun c9 => ?_)
  · skip
    refine G_aload_n hX (j := 0) (hj := rfl) 38 77 rfl rfl ?_
    refine G_iload_n hX (j := 1) (hj := rfl) 39 78 rfl rfl ?_
    refine sb_put hX 40 81 [.ref q, .int 0, .int z, .int (nI 0)] fpj_AbstractStringBuilder_79 rfl rfl (Nat.le_of_ble_eq_true rfl) rfl rfl rfl ?_
    exact G_vret hX 41 rfl (Nat.le_of_ble_eq_true rfl) (Nat.le_of_ble_eq_true rfl) rfl (fun H h => ⟨q, m, z, a, rfl, hm, hf, h⟩)
  · skip
    refine G_aload_n hX (j := 0) (hj := rfl) 35 72 rfl rfl ?_
    refine G_iconst hX (v := 1) (hv := by decide) 36 73 rfl rfl ?_
    refine sb_put hX 37 76 [.ref q, .int 0, .int 1, .int (nI n)] fpj_AbstractStringBuilder_73 rfl rfl (Nat.le_of_ble_eq_true rfl) rfl rfl rfl ?_
    refine G_aload_n hX (j := 0) (hj := rfl) 38 77 rfl rfl ?_
    refine G_iload_n hX (j := 1) (hj := rfl) 39 78 rfl rfl ?_
    refine sb_put hX 40 81 [.ref q, .int 0, .int 1, .int (nI 0)] fpj_AbstractStringBuilder_79 rfl rfl (Nat.le_of_ble_eq_true rfl) rfl rfl rfl ?_
    exact G_vret hX 41 rfl (Nat.le_of_ble_eq_true rfl) (Nat.le_of_ble_eq_true rfl) rfl (fun H h => ⟨q, m, 1, a, rfl, hm, hf, h⟩)
theorem cj_P_check_0 (hl : l.stackTraces = false) (K : KT) {i n : Nat} (hi : i < n) (hn : n ≤ 65536) (I : Heap → Prop) : CG l K y_P_check (Cond.code y_P_check prog_45_method_11_code 3 (some .int)) 0 0 0 [.int (nI i), .int (nI n), .null] (I) (fun v H => v = some (.int (nI i)) ∧ I H) := by
  refine CG_of (lc := [(0, .int (nI i)), (1, .int (nI n)), (2, .null)]) (by decide +kernel) dec_P_check hl rfl (Nat.le_of_ble_eq_true rfl) (fun X hX hin => ?_)
  refine G_iload_n hX (j := 0) (hj := rfl) 0 1 rfl rfl ?_
  refine G_if_lt hX 1 4 9 rfl rfl (by decide) (fun c9 => False.elim (absurd c9 (nI_pos (by omega)))) (fun c9 => ?_)
  refine G_iload_n hX (j := 0) (hj := rfl) 2 5 rfl rfl ?_
  refine G_iload_n hX (j := 1) (hj := rfl) 3 6 rfl rfl ?_
  refine G_icmp_lt hX 4 9 16 rfl rfl (by decide) (fun c9 => ?_) (fun c9 => False.elim (c9 ((nI_ltI (by omega) (by omega)).2 hi)))
  refine G_iload_n hX (j := 0) (hj := rfl) 10 17 rfl rfl ?_
  exact G_iret hX 11 rfl (Nat.le_of_ble_eq_true rfl) (Nat.le_of_ble_eq_true rfl) rfl (fun H h => ⟨rfl, h⟩)
theorem cj_P_check_r (hl : l.stackTraces = false) (K : KT) {i n : Nat} (t9 : Nat) (hi : i < n) (hn : n ≤ 65536) (I : Heap → Prop) : CG l K y_P_check (Cond.code y_P_check prog_45_method_11_code 3 (some .int)) 0 0 0 [.int (nI i), .int (nI n), .ref t9] (I) (fun v H => v = some (.int (nI i)) ∧ I H) := by
  refine CG_of (lc := [(0, .int (nI i)), (1, .int (nI n)), (2, .ref t9)]) (by decide +kernel) dec_P_check hl rfl (Nat.le_of_ble_eq_true rfl) (fun X hX hin => ?_)
  refine G_iload_n hX (j := 0) (hj := rfl) 0 1 rfl rfl ?_
  refine G_if_lt hX 1 4 9 rfl rfl (by decide) (fun c9 => False.elim (absurd c9 (nI_pos (by omega)))) (fun c9 => ?_)
  refine G_iload_n hX (j := 0) (hj := rfl) 2 5 rfl rfl ?_
  refine G_iload_n hX (j := 1) (hj := rfl) 3 6 rfl rfl ?_
  refine G_icmp_lt hX 4 9 16 rfl rfl (by decide) (fun c9 => ?_) (fun c9 => False.elim (c9 ((nI_ltI (by omega) (by omega)).2 hi)))
  refine G_iload_n hX (j := 0) (hj := rfl) 10 17 rfl rfl ?_
  exact G_iret hX 11 rfl (Nat.le_of_ble_eq_true rfl) (Nat.le_of_ble_eq_true rfl) rfl (fun H h => ⟨rfl, h⟩)
theorem fkj_String_1053 : Cond.fieldLink "java/lang/String" 1053 "jdk/internal/util/Preconditions" "SIOOBE_FORMATTER" "Ljava/util/function/BiFunction;" ∈ zz_good := zz_c6 128 (by decide +kernel) rfl
theorem mlj_String_1059 : Cond.methodLink "java/lang/String" 1059 y_P_check ∈ zz_good := zz_c7 91 (by decide +kernel) rfl
theorem cj_S_check (hl : l.stackTraces = false) (K : KT) {i n : Nat} (hi : i < n) (hn : n ≤ 65536) (I : Heap → Prop) : CG l K y_S_check (Cond.code y_S_check prog_33_method_155_code 2 none) 1 0 0 [.int (nI i), .int (nI n)] (I) (fun v H => v = none ∧ I H) := by
  refine CG_of (lc := [(0, .int (nI i)), (1, .int (nI n))]) (by decide +kernel) dec_S_check hl rfl (Nat.le_of_ble_eq_true rfl) (fun X hX hin => ?_)
  refine G_iload_n hX (j := 0) (hj := rfl) 0 1 rfl rfl ?_
  refine G_iload_n hX (j := 1) (hj := rfl) 1 2 rfl rfl ?_
  refine G_sq hX 2 5 fkj_String_1053 rfl rfl (fun v9 hv9 => ?_)
  rcases hv9 with rfl | ⟨t9, rfl⟩
  · skip
    refine G_callS hX 3 (cj_P_check_0 hl K hi hn I) my_P_check mt_P_check mlj_String_1059 (Nat.le_of_ble_eq_true rfl) (Nat.le_of_ble_eq_true rfl) rfl rfl (Nat.le_of_ble_eq_true rfl) rfl (Nat.le_of_ble_eq_true rfl) (Nat.le_of_ble_eq_true rfl) (fun v => ?_)
    refine VG_and (fun e => ?_)
    subst e
    refine G_pop hX (hc := rfl) 4 9 rfl rfl ?_
    exact G_vret hX 5 rfl (Nat.le_of_ble_eq_true rfl) (Nat.le_of_ble_eq_true rfl) rfl (fun H h => ⟨rfl, h⟩)
  · skip
    refine G_callS hX 3 (cj_P_check_r hl K t9 hi hn I) my_P_check mt_P_check mlj_String_1059 (Nat.le_of_ble_eq_true rfl) (Nat.le_of_ble_eq_true rfl) rfl rfl (Nat.le_of_ble_eq_true rfl) rfl (Nat.le_of_ble_eq_true rfl) (Nat.le_of_ble_eq_true rfl) (fun v => ?_)
    refine VG_and (fun e => ?_)
    subst e
    refine G_pop hX (hc := rfl) 4 9 rfl rfl ?_
    exact G_vret hX 5 rfl (Nat.le_of_ble_eq_true rfl) (Nat.le_of_ble_eq_true rfl) rfl (fun H h => ⟨rfl, h⟩)
theorem mmj_AbstractStringBuilder_138 : MM "java/lang/AbstractStringBuilder" 138 Lib.Math.min.name Lib.Math.min.code 2 := ⟨zz_c7 117 (by decide +kernel) rfl, zz_c3 117 (by decide +kernel) rfl, zz_c1 26 (by decide +kernel) rfl, zz_c3 118 (by decide +kernel) rfl⟩
theorem mlj_AbstractStringBuilder_144 : Cond.methodLink "java/lang/AbstractStringBuilder" 144 y_S_check ∈ zz_good := zz_c7 118 (by decide +kernel) rfl
theorem cj_A_charAt (hl : l.stackTraces = false) (K : KT) (M : Mm) {q m n i : Nat} {z : Int32} {t : Nat → Nat} {a : Nat → Int32} (hi : i < n) (hnm : n ≤ m) (hm9 : m ≤ 142) (hL : sb_Lat t n a) : CG l K y_A_charAt (Cond.code y_A_charAt prog_17_method_14_code 5 (some .char)) 2 0 0 [.ref (kA K 19), .int (nI i)] (GI K (wsx K M [sbO K q z n, sbB K q m a])) (fun v H => v = some (.int (nI (t i))) ∧ GI K (wsx K M [sbO K q z n, sbB K q m a]) H) := by
  refine CG_of (lc := [(0, .ref (kA K 19)), (1, .int (nI i))]) (by decide +kernel) dec_A_charAt hl rfl (Nat.le_of_ble_eq_true rfl) (fun X hX hin => ?_)
  have hb9 := hL i hi
  refine G_aload_n hX (j := 0) (hj := rfl) 0 1 rfl rfl ?_
  refine sb_get hX 1 4 flj_AbstractStringBuilder_22 rfl rfl rfl ?_
  refine G_istore_n hX 2 5 [(2, .int 0), (0, .ref (kA K 19)), (1, .int (nI i))] rfl rfl (Nat.le_of_ble_eq_true rfl) rfl ?_
  refine G_aload_n hX (j := 1) (hj := rfl) 3 6 rfl rfl ?_
  refine sb_get hX 4 9 flj_AbstractStringBuilder_15 rfl rfl rfl ?_
  refine G_astore_n hX 5 10 [(3, .ref q), (2, .int 0), (0, .ref (kA K 19)), (1, .int (nI i))] rfl rfl (Nat.le_of_ble_eq_true rfl) rfl ?_
  refine G_aload_n hX (j := 2) (hj := rfl) 6 11 rfl rfl ?_
  refine sb_get hX 7 14 flj_AbstractStringBuilder_79 rfl rfl rfl ?_
  refine G_aload_n hX (j := 0) (hj := rfl) 8 15 rfl rfl ?_
  refine G_alen hX (t0 := 4) 9 16 46 (nI m) rfl rfl rfl rfl rfl ?_
  refine G_iload_n hX (j := 1) (hj := rfl) 10 17 rfl rfl ?_
  refine G_ishr hX 11 18 rfl rfl ?_
  refine G_top (w := nI m) (sb_shr0 _) ?_
  refine G_min hX 12 21 mmj_AbstractStringBuilder_138 (Nat.le_of_ble_eq_true rfl) (Nat.le_of_ble_eq_true rfl) (Nat.le_of_ble_eq_true rfl) (Nat.le_of_ble_eq_true rfl) rfl rfl ?_
  refine G_top (w := nI n) (jx_min hnm (by omega)) ?_
  refine G_istore hX 13 23 [(4, .int (nI n)), (3, .ref q), (2, .int 0), (0, .ref (kA K 19)), (1, .int (nI i))] rfl rfl (Nat.le_of_ble_eq_true rfl) rfl ?_
  refine G_iload_n hX (j := 4) (hj := rfl) 14 24 rfl rfl ?_
  refine G_iload hX (j := 0) (hj := rfl) 15 26 rfl rfl ?_
  refine G_callS hX 16 (cj_S_check hl K hi (by omega) (GI K (wsx K M [sbO K q z n, sbB K q m a]))) my_S_check mt_S_check mlj_AbstractStringBuilder_144 (Nat.le_of_ble_eq_true rfl) (Nat.le_of_ble_eq_true rfl) rfl rfl (Nat.le_of_ble_eq_true rfl) rfl (Nat.le_of_ble_eq_true rfl) (Nat.le_of_ble_eq_true rfl) (fun v => ?_)
  refine VG_and (fun e => ?_)
  subst e
  refine G_iload_n hX (j := 2) (hj := rfl) 17 30 rfl rfl ?_
  refine G_if_ne hX 18 33 42 rfl rfl (by decide) (fun c9 => False.elim (c9 rfl)) (fun c9 => ?_)
  refine G_aload_n hX (j := 1) (hj := rfl) 19 34 rfl rfl ?_
  refine G_iload_n hX (j := 4) (hj := rfl) 20 35 rfl rfl ?_
  refine G_bald hX 21 36 46 rfl (vp_in_nI (by omega) (by omega)) rfl rfl ?_
  refine G_top (w := sb_b (t i)) (by rw [nI_clamp (by omega)]; exact hb9.2) ?_
  refine G_sipush hX (v := 255) (hv := by decide) 22 39 rfl rfl ?_
  refine G_iand hX 23 40 rfl rfl ?_
  refine G_top (w := nI (t i)) ((sb_byte _ hb9.1).1) ?_
  refine G_i2c hX 24 41 rfl rfl ?_
  refine G_top (w := nI (t i)) ((sb_byte _ hb9.1).2.1) ?_
  exact G_zret hX 25 rfl (congrArg Value.int (sb_vc (by omega))) (Nat.le_of_ble_eq_true rfl) (Nat.le_of_ble_eq_true rfl) rfl (fun H h => ⟨rfl, h⟩)
end JM
section JS
variable {l : Launch} {K : KT} {d nL mc ms : Nat} {X : XT} {cc : ByteArray} {own : String} {ret : Option FieldType} {L : zz_L} {Z : State → Prop}
variable {cells slots : Nat} {I : Heap → Prop} {Q : Option Value → Heap → Prop} {pc : Nat} {lc : List (Nat × Value)} {st rest : List Value} {M : Mm}
theorem G_sco (hX : CxG l K d nL mc ms X cc own ret L) {index i : Nat} (k q : Nat) (hi : i < 9) (hl9 : Cond.fieldLink own index "java/lang/String" "coder" "B" ∈ zz_good) (hk : L[k]? = some (pc, .getfield index, 3)) (hq : pc + 3 = q) (kk : VG l K d nL mc ms Z X cells slots I q lc (.int 0 :: st)) : VG l K d nL mc ms Z X cells slots I pc lc (.ref (kA K (1200 + i)) :: st) := by
  subst hq
  intro H locs ls hI hS hl
  have hN := cg_k hX
  obtain ⟨-, -, -, -, -, -, -, h8, -⟩ := hN
  exact vk_getf (cg_x hX) (cg_b hX) (h8.1 i hi).2.1 hS (cg_own hX) (cg_w hX _ hl9) (fun _ h => h) (zz_at (cg_d hX) k hk) (kk H locs ls hI hS hl)
theorem G_sva (hX : CxG l K d nL mc ms X cc own ret L) {index i : Nat} (k q : Nat) (hi : i < 9) (hl9 : Cond.fieldLink own index "java/lang/String" "value" "[B" ∈ zz_good) (hk : L[k]? = some (pc, .getfield index, 3)) (hq : pc + 3 = q) (kk : VG l K d nL mc ms Z X cells slots I q lc (.ref (kA K (1250 + i)) :: st)) : VG l K d nL mc ms Z X cells slots I pc lc (.ref (kA K (1200 + i)) :: st) := by
  subst hq
  intro H locs ls hI hS hl
  have hN := cg_k hX
  obtain ⟨-, -, -, -, -, -, -, h8, -⟩ := hN
  exact vk_getf (cg_x hX) (cg_b hX) (h8.1 i hi).2.2.1 hS (cg_own hX) (cg_w hX _ hl9) (fun _ h => h) (zz_at (cg_d hX) k hk) (kk H locs ls hI hS hl)
theorem G_sle (hX : CxG l K d nL mc ms X cc own ret L) {i : Nat} (k q : Nat) (hi : i < 9) (hk : L[k]? = some (pc, .arraylength, 1)) (hq : pc + 1 = q) (kk : VG l K d nL mc ms Z X cells slots I q lc (.int (zz_slen i) :: st)) : VG l K d nL mc ms Z X cells slots I pc lc (.ref (kA K (1250 + i)) :: st) := by
  subst hq
  intro H locs ls hI hS hl
  have hN := cg_k hX
  obtain ⟨-, -, -, -, -, -, -, h8, -⟩ := hN
  exact va_tlen (cg_x hX) (cg_b hX) (h8.1 i hi).2.2.2 hS rfl (zz_at (cg_d hX) k hk) (kk H locs ls hI hS hl)
theorem G_sby (hX : CxG l K d nL mc ms X cc own ret L) {i j : Nat} (k q : Nat) (hi : i < 9) (hj : j < zz_shl.getD i 0) (hk : L[k]? = some (pc, .baload, 1)) (hq : pc + 1 = q) (kk : VG l K d nL mc ms Z X cells slots I q lc (.int (zz_sch i j) :: st)) : VG l K d nL mc ms Z X cells slots I pc lc (.int (nI j) :: .ref (kA K (1250 + i)) :: st) := by
  subst hq
  intro H locs ls hI hS hl
  have hN := cg_k hX
  obtain ⟨-, -, -, -, -, -, -, h8, -⟩ := hN
  have hb : zz_shl.getD i 0 ≤ 10 := (by decide : ∀ i, i < 9 → zz_shl.getD i 0 ≤ 10) i hi
  exact va_tb (cg_x hX) (cg_b hX) (h8.1 i hi).2.2.2 hS (vp_in_nI hj (by omega)) (by rw [nI_clamp (by omega)]; rfl) (zz_at (cg_d hX) k hk) (kk H locs ls hI hS hl)
theorem G_ordf (hX : CxG l K d nL mc ms X cc own ret L) {index i : Nat} (k q : Nat) (hi : i < 9) (hl9 : Cond.fieldLink own index "java/lang/Enum" "ordinal" "I" ∈ zz_good) (hk : L[k]? = some (pc, .getfield index, 3)) (hq : pc + 3 = q) (kk : VG l K d nL mc ms Z X cells slots I q lc (.int (nI i) :: st)) : VG l K d nL mc ms Z X cells slots I pc lc (.ref (kA K (1000 + i)) :: st) := by
  subst hq
  intro H locs ls hI hS hl
  have hN := cg_k hX
  obtain ⟨h1, -⟩ := hN
  refine va_getE (q := zz_ord) (ad := fun i => kA K (1000 + i)) (i := i) (cg_x hX) (cg_b hX) h1 hi hS (cg_own hX) List.mem_cons_self (cg_w hX _ hl9) (fun _ h => h) (zz_at (cg_d hX) k hk) ?_
  rw [(by decide : ∀ i, i < 9 → zz_ord.2.2.2.getD i 0 = nI i) i hi]
  exact kk H locs ls hI hS hl
/-- a virtual call on a constant -/
theorem G_callVG (hX : CxG l K d nL mc ms X cc own ret L) {y : MethodName} {bytes : ByteArray} {maxL n index d' mc' ms' b : Nat} {C : String} {ret' : Option FieldType} {As st0 : List Value} {Q' : Option Value → Heap → Prop} (k : Nat) (hr : ∀ (H : Heap) (locs : List Loc), va_S (kF K) X.2.2.1.heap H locs → ∃ cell : Cell, H[b]? = some cell ∧ cell.vm.isStatics = false ∧ X.2.2.1.vm.findClass C = some cell.cls) (hc : CG l K y (Cond.code y bytes maxL ret') d' mc' ms' (.ref b :: As) I Q') (hy : MY y bytes maxL ret' n) (hi : Cond.instanceMethod y ∈ zz_good) (hse : Cond.selects C y y ∈ zz_good) (hl9 : Cond.methodLink own index y ∈ zz_good) (hd : d' + 1 ≤ d) (hm : maxL ≤ 41) (hn : As.length = n) (hst : st0 = As.reverse ++ .ref b :: rest) (hW : (rest.map fun v => v.category).sum ≤ 8) (hk : L[k]? = some (pc, .invokevirtual index, 3)) (h1 : cells + mc' ≤ mc) (h2 : slots + ms' ≤ ms)
    (kk : ∀ v, VG l K d nL mc ms Z X (cells + mc') (slots + ms') (Q' v) (pc + 3) lc (v.toList ++ rest)) : VG l K d nL mc ms Z X cells slots I pc lc st0 :=
  G_run (I' := I) (fun H locs ls hI hS hl => va_runV (Ts := zz_good) (own := own) (C := C) ⟨cg_x hX, cg_b hX, cg_ml hX, cg_own hX, cg_w hX⟩ hc ⟨CG_CB hX hy hl9 hd hm, cg_w hX _ hi, cg_w hX _ hse⟩ ⟨PG_blind, hr H locs hS, PG_pc hX hI hS⟩ rfl hn hl.1 hst (lv_room hW) (zz_at (cg_d hX) k hk) ⟨h1, h2⟩) kk
theorem s_recv (hX : CxG l K d nL mc ms X cc own ret L) {i : Nat} (hi : i < 9) : ∀ (H : Heap) (locs : List Loc), va_S (kF K) X.2.2.1.heap H locs → ∃ cell : Cell, H[kA K (1200 + i)]? = some cell ∧ cell.vm.isStatics = false ∧ X.2.2.1.vm.findClass "java/lang/String" = some cell.cls := by
  intro H locs hS
  have hN := cg_k hX
  obtain ⟨-, -, -, -, -, -, -, h8, -⟩ := hN
  exact vk_recv (adK := fun i => kA K (1200 + i)) (i := i) h8 hi hS
theorem k_recv (hX : CxG l K d nL mc ms X cc own ret L) {i : Nat} (hi : i < 9) : ∀ (H : Heap) (locs : List Loc), va_S (kF K) X.2.2.1.heap H locs → ∃ cell : Cell, H[kA K (1000 + i)]? = some cell ∧ cell.vm.isStatics = false ∧ X.2.2.1.vm.findClass "SeriesArchive$Kind" = some cell.cls := by
  intro H locs hS
  have hN := cg_k hX
  obtain ⟨h1, -⟩ := hN
  exact va_recvE (ad := fun i => kA K (1000 + i)) (i := i) h1 hi hS
/-- a virtual call of an inherited method on a constant -/
theorem G_callU (hX : CxG l K d nL mc ms X cc own ret L) {x y : MethodName} {bytes : ByteArray} {maxL n index d' mc' ms' b : Nat} {C : String} {ret' : Option FieldType} {As st0 : List Value} {Q' : Option Value → Heap → Prop} (k : Nat) (hr : ∀ (H : Heap) (locs : List Loc), va_S (kF K) X.2.2.1.heap H locs → ∃ cell : Cell, H[b]? = some cell ∧ cell.vm.isStatics = false ∧ X.2.2.1.vm.findClass C = some cell.cls) (hc : CG l K y (Cond.code y bytes maxL ret') d' mc' ms' (.ref b :: As) I Q') (hy : MY y bytes maxL ret' n) (hi : Cond.instanceMethod y ∈ zz_good) (hse : Cond.selects C x y ∈ zz_good) (hsm : Cond.sameMethod x.cls y.cls x.name x.desc ∈ zz_good) (hyx : y = ⟨y.cls, x.name, x.desc⟩) (hl9 : Cond.methodLink own index x ∈ zz_good) (hd : d' + 1 ≤ d) (hm : maxL ≤ 41) (hn : As.length = n) (hst : st0 = As.reverse ++ .ref b :: rest) (hW : (rest.map fun v => v.category).sum ≤ 8) (hk : L[k]? = some (pc, .invokevirtual index, 3)) (h1 : cells + mc' ≤ mc) (h2 : slots + ms' ≤ ms)
    (kk : ∀ v, VG l K d nL mc ms Z X (cells + mc') (slots + ms') (Q' v) (pc + 3) lc (v.toList ++ rest)) : VG l K d nL mc ms Z X cells slots I pc lc st0 :=
  G_run (I' := I) (fun H locs ls hI hS hl => va_runU (Ts := zz_good) (own := own) (C := C) (owner := y.cls) (x := x) ⟨cg_x hX, cg_b hX, cg_ml hX, cg_own hX, cg_w hX⟩ hc
    ⟨⟨rfl, rfl, hd, by show 8 + (maxL + 11) + 60 * d' ≤ 60 * d; omega, pay_in (cg_w hX) (zz_gg hy.1), List.mem_cons_self⟩, cg_w hX _ hy.1, cg_w hX _ hy.2.1, ⟨hy.2.2.1, hy.2.2.2.1⟩, fun sig h => by
      have h2 := hy.2.2.2.2
      have e : y.desc = x.desc := by rw [hyx]
      rw [e, h] at h2
      exact (Option.some.inj h2).symm, cg_w hX _ hl9, cg_w hX _ hsm, by rw [← hyx]; exact va_Decl.of (cg_w hX _ hi) (cg_w hX _ hy.1), cg_w hX _ hse, cg_w hX _ hi⟩ ⟨PG_blind, hr H locs hS, PG_pc hX hI hS⟩ rfl hn hl.1 hst (lv_room hW) (zz_at (cg_d hX) k hk) ⟨h1, h2⟩) kk
end JS
section JN
variable {l : Launch}
theorem fkj_String_38 : Cond.fieldLink "java/lang/String" 38 "java/lang/String" "COMPACT_STRINGS" "Z" ∈ zz_good := zz_c6 150 (by decide +kernel) rfl
theorem fkj_String_15 : Cond.fieldLink "java/lang/String" 15 "java/lang/String" "coder" "B" ∈ zz_good := zz_c7 27 (by decide +kernel) rfl
theorem cj_S_coder (hl : l.stackTraces = false) (K : KT) {i : Nat} (hi : i < 9) (I : Heap → Prop) : CG l K y_S_coder (Cond.code y_S_coder prog_33_method_152_code 1 (some .byte)) 0 0 0 [.ref (kA K (1200 + i))] (I) (fun v H => v = some (.int 0) ∧ I H) := by
  refine CG_of (lc := [(0, .ref (kA K (1200 + i)))]) (by decide +kernel) dec_S_coder hl rfl (Nat.le_of_ble_eq_true rfl) (fun X hX hin => ?_)
  refine G_cs hX 0 3 fkj_String_38 rfl rfl ?_
  refine G_if_eq hX 1 6 13 rfl rfl (by decide) (fun c9 => False.elim (absurd c9 (by decide))) (fun c9 => ?_)
  refine G_aload_n hX (j := 0) (hj := rfl) 2 7 rfl rfl ?_
  refine G_sco hX 3 10 hi fkj_String_15 rfl rfl ?_
  refine G_goto hX 4 14 rfl (by decide) ?_
  exact G_zret hX 6 rfl rfl (Nat.le_of_ble_eq_true rfl) (Nat.le_of_ble_eq_true rfl) rfl (fun H h => ⟨rfl, h⟩)
theorem cj_S_isLatin1 (hl : l.stackTraces = false) (K : KT) {i : Nat} (hi : i < 9) (I : Heap → Prop) : CG l K y_S_isLatin1 (Cond.code y_S_isLatin1 prog_33_method_154_code 1 (some .boolean)) 0 0 0 [.ref (kA K (1200 + i))] (I) (fun v H => v = some (.int 1) ∧ I H) := by
  refine CG_of (lc := [(0, .ref (kA K (1200 + i)))]) (by decide +kernel) dec_S_isLatin1 hl rfl (Nat.le_of_ble_eq_true rfl) (fun X hX hin => ?_)
  refine G_cs hX 0 3 fkj_String_38 rfl rfl ?_
  refine G_if_eq hX 1 6 17 rfl rfl (by decide) (fun c9 => False.elim (absurd c9 (by decide))) (fun c9 => ?_)
  refine G_aload_n hX (j := 0) (hj := rfl) 2 7 rfl rfl ?_
  refine G_sco hX 3 10 hi fkj_String_15 rfl rfl ?_
  refine G_if_ne hX 4 13 17 rfl rfl (by decide) (fun c9 => False.elim (c9 rfl)) (fun c9 => ?_)
  refine G_iconst hX (v := 1) (hv := by decide) 5 14 rfl rfl ?_
  refine G_goto hX 6 18 rfl (by decide) ?_
  exact G_zret hX 8 rfl rfl (Nat.le_of_ble_eq_true rfl) (Nat.le_of_ble_eq_true rfl) rfl (fun H h => ⟨rfl, h⟩)
theorem fkj_String_9 : Cond.fieldLink "java/lang/String" 9 "java/lang/String" "value" "[B" ∈ zz_good := zz_c7 26 (by decide +kernel) rfl
theorem mlj_String_335 : Cond.methodLink "java/lang/String" 335 y_S_coder ∈ zz_good := zz_c6 146 (by decide +kernel) rfl
theorem cj_S_length (hl : l.stackTraces = false) (K : KT) {i : Nat} (hi : i < 9) (I : Heap → Prop) : CG l K y_S_length (Cond.code y_S_length prog_33_method_54_code 1 (some .int)) 1 0 0 [.ref (kA K (1200 + i))] (I) (fun v H => v = some (.int (zz_slen i)) ∧ I H) := by
  refine CG_of (lc := [(0, .ref (kA K (1200 + i)))]) (by decide +kernel) dec_S_length hl rfl (Nat.le_of_ble_eq_true rfl) (fun X hX hin => ?_)
  refine G_aload_n hX (j := 0) (hj := rfl) 0 1 rfl rfl ?_
  refine G_sva hX 1 4 hi fkj_String_9 rfl rfl ?_
  refine G_sle hX 2 5 hi rfl rfl ?_
  refine G_aload_n hX (j := 0) (hj := rfl) 3 6 rfl rfl ?_
  refine G_callVG hX 4 (s_recv hX hi) (cj_S_coder hl K hi I) my_S_coder mi_S_coder ms_S_coder mlj_String_335 (Nat.le_of_ble_eq_true rfl) (Nat.le_of_ble_eq_true rfl) rfl rfl (Nat.le_of_ble_eq_true rfl) rfl (Nat.le_of_ble_eq_true rfl) (Nat.le_of_ble_eq_true rfl) (fun v => ?_)
  refine VG_and (fun e => ?_)
  subst e
  refine G_ishr hX 5 10 rfl rfl ?_
  refine G_top (w := zz_slen i) (sb_shr0 _) ?_
  exact G_iret hX 6 rfl (Nat.le_of_ble_eq_true rfl) (Nat.le_of_ble_eq_true rfl) rfl (fun H h => ⟨rfl, h⟩)
theorem jx_sch : ∀ i, i < 9 → ∀ j, j < zz_shl.getD i 0 → zz_sch i j &&& 255 = zz_sch i j ∧ ((zz_sch i j).toUInt32 % 65536).toInt32 = zz_sch i j ∧ vp_nar .char (zz_sch i j) = zz_sch i j := by decide +kernel
theorem jx_shl : ∀ i, i < 9 → zz_shl.getD i 0 ≤ 10 := by decide
theorem mlj_StringLatin1_9 : Cond.methodLink "java/lang/StringLatin1" 9 y_S_check ∈ zz_good := zz_c7 171 (by decide +kernel) rfl
theorem cj_L_charAt (hl : l.stackTraces = false) (K : KT) {i x : Nat} (hi : i < 9) (hx : x < zz_shl.getD i 0) (I : Heap → Prop) : CG l K y_L_charAt (Cond.code y_L_charAt prog_36_method_2_code 2 (some .char)) 2 0 0 [.ref (kA K (1250 + i)), .int (nI x)] (I) (fun v H => v = some (.int (zz_sch i x)) ∧ I H) := by
  refine CG_of (lc := [(0, .ref (kA K (1250 + i))), (1, .int (nI x))]) (by decide +kernel) dec_L_charAt hl rfl (Nat.le_of_ble_eq_true rfl) (fun X hX hin => ?_)
  have hs9 := jx_sch i hi x hx
  have hl9 := jx_shl i hi
  refine G_iload_n hX (j := 1) (hj := rfl) 0 1 rfl rfl ?_
  refine G_aload_n hX (j := 0) (hj := rfl) 1 2 rfl rfl ?_
  refine G_sle hX 2 3 hi rfl rfl ?_
  refine G_callS hX 3 (cj_S_check hl K hx (by omega) I) my_S_check mt_S_check mlj_StringLatin1_9 (Nat.le_of_ble_eq_true rfl) (Nat.le_of_ble_eq_true rfl) rfl rfl (Nat.le_of_ble_eq_true rfl) rfl (Nat.le_of_ble_eq_true rfl) (Nat.le_of_ble_eq_true rfl) (fun v => ?_)
  refine VG_and (fun e => ?_)
  subst e
  refine G_aload_n hX (j := 0) (hj := rfl) 4 7 rfl rfl ?_
  refine G_iload_n hX (j := 1) (hj := rfl) 5 8 rfl rfl ?_
  refine G_sby hX 6 9 hi hx rfl rfl ?_
  refine G_sipush hX (v := 255) (hv := by decide) 7 12 rfl rfl ?_
  refine G_iand hX 8 13 rfl rfl ?_
  refine G_top (w := zz_sch i x) (hs9.1) ?_
  refine G_i2c hX 9 14 rfl rfl ?_
  refine G_top (w := zz_sch i x) (hs9.2.1) ?_
  exact G_zret hX 10 rfl (congrArg Value.int hs9.2.2) (Nat.le_of_ble_eq_true rfl) (Nat.le_of_ble_eq_true rfl) rfl (fun H h => ⟨rfl, h⟩)
theorem mlj_String_492 : Cond.methodLink "java/lang/String" 492 y_S_isLatin1 ∈ zz_good := zz_c7 164 (by decide +kernel) rfl
theorem mlj_String_495 : Cond.methodLink "java/lang/String" 495 y_L_charAt ∈ zz_good := zz_c7 168 (by decide +kernel) rfl
theorem cj_S_charAt (hl : l.stackTraces = false) (K : KT) {i x : Nat} (hi : i < 9) (hx : x < zz_shl.getD i 0) (I : Heap → Prop) : CG l K y_S_charAt (Cond.code y_S_charAt prog_33_method_56_code 2 (some .char)) 3 0 0 [.ref (kA K (1200 + i)), .int (nI x)] (I) (fun v H => v = some (.int (zz_sch i x)) ∧ I H) := by
  refine CG_of (lc := [(0, .ref (kA K (1200 + i))), (1, .int (nI x))]) (by decide +kernel) dec_S_charAt hl rfl (Nat.le_of_ble_eq_true rfl) (fun X hX hin => ?_)
  have hs9 := jx_sch i hi x hx
  refine G_aload_n hX (j := 0) (hj := rfl) 0 1 rfl rfl ?_
  refine G_callVG hX 1 (s_recv hX hi) (cj_S_isLatin1 hl K hi I) my_S_isLatin1 mi_S_isLatin1 ms_S_isLatin1 mlj_String_492 (Nat.le_of_ble_eq_true rfl) (Nat.le_of_ble_eq_true rfl) rfl rfl (Nat.le_of_ble_eq_true rfl) rfl (Nat.le_of_ble_eq_true rfl) (Nat.le_of_ble_eq_true rfl) (fun v => ?_)
  refine VG_and (fun e => ?_)
  subst e
  refine G_if_eq hX 2 7 16 rfl rfl (by decide) (fun c9 => False.elim (absurd c9 (by decide))) (fun c9 => ?_)
  refine G_aload_n hX (j := 0) (hj := rfl) 3 8 rfl rfl ?_
  refine G_sva hX 4 11 hi fkj_String_9 rfl rfl ?_
  refine G_iload_n hX (j := 1) (hj := rfl) 5 12 rfl rfl ?_
  refine G_callS hX 6 (cj_L_charAt hl K hi hx I) my_L_charAt mt_L_charAt mlj_String_495 (Nat.le_of_ble_eq_true rfl) (Nat.le_of_ble_eq_true rfl) rfl rfl (Nat.le_of_ble_eq_true rfl) rfl (Nat.le_of_ble_eq_true rfl) (Nat.le_of_ble_eq_true rfl) (fun v => ?_)
  refine VG_and (fun e => ?_)
  subst e
  exact G_zret hX 7 rfl (congrArg Value.int hs9.2.2) (Nat.le_of_ble_eq_true rfl) (Nat.le_of_ble_eq_true rfl) rfl (fun H h => ⟨rfl, h⟩)
theorem fkj_Enum_7 : Cond.fieldLink "java/lang/Enum" 7 "java/lang/Enum" "ordinal" "I" ∈ zz_good := zz_c10 222 (by decide +kernel) rfl
theorem cj_E_ordinal (hl : l.stackTraces = false) (K : KT) {i : Nat} (hi : i < 9) (I : Heap → Prop) : CG l K y_E_ordinal (Cond.code y_E_ordinal prog_24_method_2_code 1 (some .int)) 0 0 0 [.ref (kA K (1000 + i))] (I) (fun v H => v = some (.int (nI i)) ∧ I H) := by
  refine CG_of (lc := [(0, .ref (kA K (1000 + i)))]) (by decide +kernel) dec_E_ordinal hl rfl (Nat.le_of_ble_eq_true rfl) (fun X hX hin => ?_)
  refine G_aload_n hX (j := 0) (hj := rfl) 0 1 rfl rfl ?_
  refine G_ordf hX 1 4 hi fkj_Enum_7 rfl rfl ?_
  exact G_iret hX 2 rfl (Nat.le_of_ble_eq_true rfl) (Nat.le_of_ble_eq_true rfl) rfl (fun H h => ⟨rfl, h⟩)
theorem se_Kord : Cond.selects "SeriesArchive$Kind" ⟨"SeriesArchive$Kind", "ordinal", "()I"⟩ y_E_ordinal ∈ zz_good := zz_c3 21 (by decide +kernel) rfl
theorem sm_Kord : Cond.sameMethod "SeriesArchive$Kind" "java/lang/Enum" "ordinal" "()I" ∈ zz_good := zz_c3 19 (by decide +kernel) rfl
theorem mlj_StringBuilder_343 : Cond.methodLink "java/lang/StringBuilder" 343 y_A_length ∈ zz_good := zz_c6 233 (by decide +kernel) rfl
theorem mlj_StringBuilder_333 : Cond.methodLink "java/lang/StringBuilder" 333 y_A_setLength ∈ zz_good := zz_c6 58 (by decide +kernel) rfl
theorem mlj_StringBuilder_329 : Cond.methodLink "java/lang/StringBuilder" 329 y_A_charAt ∈ zz_good := zz_c7 114 (by decide +kernel) rfl
theorem mlj_StringBuilder_50 : Cond.methodLink "java/lang/StringBuilder" 50 y_A_appendC ∈ zz_good := zz_c7 76 (by decide +kernel) rfl
theorem mlj_StringBuilder_53 : Cond.methodLink "java/lang/StringBuilder" 53 y_A_appendI ∈ zz_good := zz_c6 189 (by decide +kernel) rfl
end JN
