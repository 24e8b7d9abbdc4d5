noncomputable def fn_Se_at (v0 : Nat) (v1 : Int32) (M : Mm) : Rs Int32 := grd (isSer v0) (if v1 < 0 then (some (.inl 0, M)) else (if 20 ≤ v1 then (some (.inl 0, M)) else (grd (inb v1 20) (some (.inl (M (v0 + 5) v1.toNatClampNeg), M)))))
noncomputable def fn_Se_greatest_11 (v0 : Nat) (v2 : Int32) : Nat → Int32 → Int32 → Mm → Rs Int32
  | 0, _, _, _ => none
  | n + 1, v3, v4, M => if v2 < v4 then (some (.inl v3, M)) else (bnd (fn_Se_at v0 v4 M) (fun r21 M21 => li ((imax v3 r21)) (fun x3_27 => li (v4 + 1) (fun x4_28 => fn_Se_greatest_11 v0 v2 n x3_27 x4_28 M21))))
noncomputable def fn_Se_greatest (v0 : Nat) (v1 : Int32) (v2 : Int32) (M : Mm) : Rs Int32 := grd (isSer v0) (bnd (fn_Se_at v0 v1 M) (fun r2 M2 => li ((v1 + 1)) (fun x4_9 => fn_Se_greatest_11 v0 v2 fuel0 r2 x4_9 M2)))
noncomputable def fn_Se_least_11 (v0 : Nat) (v2 : Int32) : Nat → Int32 → Int32 → Mm → Rs Int32
  | 0, _, _, _ => none
  | n + 1, v3, v4, M => if v2 < v4 then (some (.inl v3, M)) else (bnd (fn_Se_at v0 v4 M) (fun r21 M21 => li ((imin v3 r21)) (fun x3_27 => li (v4 + 1) (fun x4_28 => fn_Se_least_11 v0 v2 n x3_27 x4_28 M21))))
noncomputable def fn_Se_least (v0 : Nat) (v1 : Int32) (v2 : Int32) (M : Mm) : Rs Int32 := grd (isSer v0) (bnd (fn_Se_at v0 v1 M) (fun r2 M2 => li ((v1 + 1)) (fun x4_9 => fn_Se_least_11 v0 v2 fuel0 r2 x4_9 M2)))
noncomputable def fn_Di_spread (v0 : Nat) (v1 : Int32) (v2 : Int32) (M : Mm) : Rs Int32 := grd (isSer v0) (bnd (fn_Se_greatest v0 v1 v2 M) (fun r3 M3 => bnd (fn_Se_least v0 v1 v2 M3) (fun r9 M9 => some (.inl (r3 - r9), M9))))
noncomputable def fn_SA_read (v0 : Nat) (v1 : Int32) (M : Mm) : Rs Int32 := grd (isIA v0) (if v1 < 0 then (some (.inl 0, M)) else (if (nI (alen v0)) ≤ v1 then (some (.inl 0, M)) else (grd (inb v1 (alen v0)) (some (.inl (M v0 v1.toNatClampNeg), M)))))
noncomputable def fn_Di_errorOfBeginning_23 (v1 : Nat) (v2 : Int32) (v3 : Int32) : Nat → Int32 → Int32 → Mm → Rs Int32
  | 0, _, _, _ => none
  | n + 1, v4, v5, M => if v3 ≤ v5 then (some (.inl v4, M)) else (bnd (fn_SA_read 29 (((v2 - 1) * 21) + v5) M) (fun r42 M42 => bnd (fn_Di_spread v1 v5 (v3 - 1) M42) (fun r57 M57 => li ((imin v4 (r42 + r57))) (fun x4_64 => li (v5 + 1) (fun x5_66 => fn_Di_errorOfBeginning_23 v1 v2 v3 n x4_64 x5_66 M57)))))
noncomputable def fn_Di_errorOfBeginning (v1 : Nat) (v2 : Int32) (v3 : Int32) (M : Mm) : Rs Int32 := grd (isSer v1) (if v2 = 1 then (bnd (fn_Di_spread v1 0 (v3 - 1) M) (fun r10 M10 => some (.inl r10, M10))) else (li ((v2 - 1)) (fun x5_21 => fn_Di_errorOfBeginning_23 v1 v2 v3 fuel0 1000000 x5_21 M)))
noncomputable def fn_Se_size (v0 : Nat) (M : Mm) : Rs Int32 := grd (isSer v0) (some (.inl (M v0 1), M))
noncomputable def fn_SA_write (v0 : Nat) (v1 : Int32) (v2 : Int32) (M : Mm) : Rs Unit := grd (isIA v0) (if v1 < 0 then (some (.inl (), M)) else (if (nI (alen v0)) ≤ v1 then (some (.inl (), M)) else (grd (inb v1 (alen v0)) (lm (mset M v0 v1.toNatClampNeg v2) (fun M13 => some (.inl (), M13))))))
noncomputable def fn_Di_error_47 (k2 : Int32 → Mm → Rs Int32) (v1 : Nat) (v2 : Int32) (v3 : Int32) (M : Mm) : Rs Int32 := li (v3 + 1) (fun x3_47 => k2 x3_47 M)
noncomputable def fn_Di_error_10 (k2 : Int32 → Mm → Rs Int32) (v1 : Nat) (v2 : Int32) (v3 : Int32) : Nat → Int32 → Mm → Rs Int32
  | 0, _, _ => none
  | n + 1, v4, M => bnd (fn_Se_size v1 M) (fun r13 M13 => if r13 < v4 then (fn_Di_error_47 k2 v1 v2 v3 M13) else (bnd (fn_Di_errorOfBeginning v1 v3 v4 M13) (fun r35 M35 => bnd (fn_SA_write 29 ((v3 * 21) + v4) r35 M35) (fun r38 M38 => li (v4 + 1) (fun x4_41 => fn_Di_error_10 k2 v1 v2 v3 n x4_41 M38)))))
noncomputable def fn_Di_error_53 (v1 : Nat) (v2 : Int32) (M : Mm) : Rs Int32 := bnd (fn_Se_size v1 M) (fun r62 M62 => bnd (fn_SA_read 29 ((v2 * 21) + r62) M62) (fun r66 M66 => some (.inl r66, M66)))
noncomputable def fn_Di_error_2 (v1 : Nat) (v2 : Int32) : Nat → Int32 → Mm → Rs Int32
  | 0, _, _ => none
  | n + 1, v3, M => if v2 < v3 then (fn_Di_error_53 v1 v2 M) else (fn_Di_error_10 (fn_Di_error_2 v1 v2 n) v1 v2 v3 fuel0 v3 M)
noncomputable def fn_Di_error (v1 : Nat) (v2 : Int32) (M : Mm) : Rs Int32 := grd (isSer v1) (fn_Di_error_2 v1 v2 fuel0 1 M)
noncomputable def fn_Di_leastByCuts_10 (rec : Nat → Int32 → Int32 → Mm → Rs Int32) (v0 : Nat) (v1 : Int32) (M : Mm) : Rs Int32 := bnd (fn_Se_size v0 M) (fun r13 M13 => bnd (fn_Di_spread v0 v1 (r13 - 1) M13) (fun r18 M18 => some (.inl r18, M18)))
noncomputable def fn_Di_leastByCuts_30 (rec : Nat → Int32 → Int32 → Mm → Rs Int32) (v0 : Nat) (v1 : Int32) (v2 : Int32) : Nat → Int32 → Int32 → Mm → Rs Int32
  | 0, _, _, _ => none
  | n + 1, v3, v4, M => bnd (fn_Se_size v0 M) (fun r33 M33 => if ((r33 - v2) + 1) < v4 then (some (.inl v3, M33)) else (bnd (rec v0 v4 (v2 - 1) M33) (fun r49 M49 => bnd (fn_Di_spread v0 v1 (v4 - 1) M49) (fun r61 M61 => li ((imin v3 (r61 + r49))) (fun x3_70 => li (v4 + 1) (fun x4_71 => fn_Di_leastByCuts_30 rec v0 v1 v2 n x3_70 x4_71 M61))))))
noncomputable def fn_Di_leastByCuts : Nat → Nat → Int32 → Int32 → Mm → Rs Int32
  | 0, _, _, _, _ => none
  | n + 1, v0, v1, v2, M => grd (isSer v0) (if v2 ≤ 1 then (fn_Di_leastByCuts_10 (fn_Di_leastByCuts n) v0 v1 M) else (if v2 ≤ 4 then (li ((v1 + 1)) (fun x4_28 => fn_Di_leastByCuts_30 (fn_Di_leastByCuts n) v0 v1 v2 fuel0 1000000 x4_28 M)) else (fn_Di_leastByCuts_10 (fn_Di_leastByCuts n) v0 v1 M)))
noncomputable def fn_Di_errorByCuts (v0 : Nat) (v1 : Int32) (M : Mm) : Rs Int32 := grd (isSer v0) (bnd (fn_Di_leastByCuts 45 v0 0 v1 M) (fun r3 M3 => some (.inl r3, M3)))
noncomputable def fn_Di_errorWithCut (v1 : Nat) (v2 : Int32) (v3 : Int32) (v4 : Int32) (M : Mm) : Rs Int32 := grd (isSer v1) (bnd (fn_Di_spread v1 v3 (v4 - 1) M) (fun r6 M6 => bnd (fn_SA_read 29 (((v2 - 1) * 21) + v4) M6) (fun r22 M22 => some (.inl (r6 + r22), M22))))
noncomputable def fn_Di_errorOfEnding_26 (v1 : Nat) (v2 : Int32) (v3 : Int32) : Nat → Int32 → Int32 → Mm → Rs Int32
  | 0, _, _, _ => none
  | n + 1, v4, v5, M => bnd (fn_Se_size v1 M) (fun r29 M29 => if ((r29 - v2) + 1) < v5 then (some (.inl v4, M29)) else (bnd (fn_Di_errorWithCut v1 v2 v3 v5 M29) (fun r47 M47 => li ((imin v4 r47)) (fun x4_53 => li (v5 + 1) (fun x5_55 => fn_Di_errorOfEnding_26 v1 v2 v3 n x4_53 x5_55 M47)))))
noncomputable def fn_Di_errorOfEnding (v1 : Nat) (v2 : Int32) (v3 : Int32) (M : Mm) : Rs Int32 := grd (isSer v1) (if v2 = 1 then (bnd (fn_Se_size v1 M) (fun r8 M8 => bnd (fn_Di_spread v1 v3 (r8 - 1) M8) (fun r13 M13 => some (.inl r13, M13)))) else (li ((v3 + 1)) (fun x5_24 => fn_Di_errorOfEnding_26 v1 v2 v3 fuel0 1000000 x5_24 M)))
noncomputable def fn_Di_firstCut_20 (v1 : Nat) (v2 : Int32) (v3 : Int32) (v4 : Int32) : Nat → Int32 → Mm → Rs Int32
  | 0, _, _ => none
  | n + 1, v5, M => bnd (fn_Se_size v1 M) (fun r23 M23 => if ((r23 - v2) + 1) < v5 then (some (.inl v3, M23)) else (bnd (fn_Di_errorWithCut v1 v2 v3 v5 M23) (fun r39 M39 => if r39 = v4 then (some (.inl v5, M39)) else (li (v5 + 1) (fun x5_50 => fn_Di_firstCut_20 v1 v2 v3 v4 n x5_50 M39)))))
noncomputable def fn_Di_firstCut (v1 : Nat) (v2 : Int32) (v3 : Int32) (M : Mm) : Rs Int32 := grd (isSer v1) (bnd (fn_SA_read 29 ((v2 * 21) + v3) M) (fun r10 M10 => li ((v3 + 1)) (fun x5_18 => fn_Di_firstCut_20 v1 v2 v3 r10 fuel0 x5_18 M10)))
noncomputable def fn_Di_start_54 (k3 : Int32 → Mm → Rs Int32) (v1 : Nat) (v2 : Int32) (v3 : Int32) (v4 : Int32) (M : Mm) : Rs Int32 := li (v4 + 1) (fun x4_54 => k3 x4_54 M)
noncomputable def fn_Di_start_12 (k3 : Int32 → Mm → Rs Int32) (v1 : Nat) (v2 : Int32) (v3 : Int32) (v4 : Int32) : Nat → Int32 → Mm → Rs Int32
  | 0, _, _ => none
  | n + 1, v5, M => bnd (fn_Se_size v1 M) (fun r15 M15 => if (r15 - v4) < v5 then (fn_Di_start_54 k3 v1 v2 v3 v4 M15) else (bnd (fn_Di_errorOfEnding v1 v4 v5 M15) (fun r42 M42 => bnd (fn_SA_write 29 ((v4 * 21) + v5) r42 M42) (fun r45 M45 => li (v5 + 1) (fun x5_48 => fn_Di_start_12 k3 v1 v2 v3 v4 n x5_48 M45)))))
noncomputable def fn_Di_start_66 (v1 : Nat) (v2 : Int32) (v3 : Int32) : Nat → Int32 → Int32 → Mm → Rs Int32
  | 0, _, _, _ => none
  | n + 1, v4, v5, M => if v3 ≤ v5 then (some (.inl v4, M)) else (bnd (fn_Di_firstCut v1 (v2 - v5) v4 M) (fun r80 M80 => li (v5 + 1) (fun x5_85 => fn_Di_start_66 v1 v2 v3 n r80 x5_85 M80)))
noncomputable def fn_Di_start_60 (v1 : Nat) (v2 : Int32) (v3 : Int32) (M : Mm) : Rs Int32 := fn_Di_start_66 v1 v2 v3 fuel0 0 0 M
noncomputable def fn_Di_start_3 (v1 : Nat) (v2 : Int32) (v3 : Int32) : Nat → Int32 → Mm → Rs Int32
  | 0, _, _ => none
  | n + 1, v4, M => if v2 < v4 then (fn_Di_start_60 v1 v2 v3 M) else (fn_Di_start_12 (fn_Di_start_3 v1 v2 v3 n) v1 v2 v3 v4 fuel0 0 M)
noncomputable def fn_Di_start (v1 : Nat) (v2 : Int32) (v3 : Int32) (M : Mm) : Rs Int32 := grd (isSer v1) (fn_Di_start_3 v1 v2 v3 fuel0 1 M)
noncomputable def fn_Hi_size (M : Mm) : Rs Int32 := some (.inl (M 12 2), M)
noncomputable def fn_Hi_clear (M : Mm) : Rs Unit := lm (mset M 12 2 0) (fun M2 => some (.inl (), M2))
noncomputable def fn_Hi_goOn_22 (s1 : Int32) (M : Mm) : Rs Unit := lm (mset M 12 1 s1) (fun M22 => lm (mset M22 12 2 (imin ((M22 12 2) + 1) 8)) (fun M37 => some (.inl (), M37)))
noncomputable def fn_Hi_goOn (M : Mm) : Rs Unit := if 8 ≤ ((M 12 1) + 1) then (fn_Hi_goOn_22 0 M) else (fn_Hi_goOn_22 ((M 12 1) + 1) M)
noncomputable def fn_Se_store_11 (v0 : Nat) (v1 : Nat) (v2 : Int32) : Nat → Int32 → Mm → Rs Unit
  | 0, _, _ => none
  | n + 1, v3, M => if (M v0 1) ≤ v3 then (some (.inl (), M)) else (bnd (fn_Se_at v0 v3 M) (fun r27 M27 => bnd (fn_SA_write v1 ((v2 + 1) + v3) r27 M27) (fun r30 M30 => li (v3 + 1) (fun x3_33 => fn_Se_store_11 v0 v1 v2 n x3_33 M30))))
noncomputable def fn_Se_store (v0 : Nat) (v1 : Nat) (v2 : Int32) (M : Mm) : Rs Unit := grd (isSer v0) (grd (isIA v1) (bnd (fn_SA_write v1 v2 (M v0 1) M) (fun r6 M6 => fn_Se_store_11 v0 v1 v2 fuel0 0 M6)))
noncomputable def fn_St_at (v1 : Int32) (M : Mm) : Rs Nat := if v1 = 0 then (some (.inl 2, M)) else (if v1 = 1 then (some (.inl 3, M)) else (if v1 = 2 then (some (.inl 4, M)) else (some (.inl 5, M))))
noncomputable def fn_St_store_11 (v1 : Nat) (v2 : Int32) : Nat → Int32 → Mm → Rs Unit
  | 0, _, _ => none
  | n + 1, v3, M => if 4 ≤ v3 then (some (.inl (), M)) else (bnd (fn_St_at v3 M) (fun r18 M18 => grd (isSer r18) (bnd (fn_Se_store r18 v1 ((v2 + 1) + (v3 * 21)) M18) (fun r30 M30 => li (v3 + 1) (fun x3_33 => fn_St_store_11 v1 v2 n x3_33 M30)))))
noncomputable def fn_St_store (v1 : Nat) (v2 : Int32) (M : Mm) : Rs Unit := grd (isIA v1) (bnd (fn_SA_write v1 v2 (M 1 5) M) (fun r6 M6 => fn_St_store_11 v1 v2 fuel0 0 M6))
noncomputable def fn_Hi_keep (M : Mm) : Rs Unit := bnd (fn_St_store 13 ((M 12 1) * 85) M) (fun r12 M12 => bnd (fn_Hi_goOn M12) (fun r16 M16 => some (.inl (), M16)))
noncomputable def fn_Hi_keepRow_35 (M : Mm) : Rs Unit := bnd (fn_Hi_goOn M) (fun r36 M36 => some (.inl (), M36))
noncomputable def fn_Hi_keepRow_2 (v1 : Nat) : Nat → Int32 → Mm → Rs Unit
  | 0, _, _ => none
  | n + 1, v2, M => if 85 ≤ v2 then (fn_Hi_keepRow_35 M) else (bnd (fn_SA_read v1 v2 M) (fun r23 M23 => bnd (fn_SA_write 13 (((M 12 1) * 85) + v2) r23 M23) (fun r26 M26 => li (v2 + 1) (fun x2_29 => fn_Hi_keepRow_2 v1 n x2_29 M26))))
noncomputable def fn_Hi_keepRow (v1 : Nat) (M : Mm) : Rs Unit := grd (isIA v1) (fn_Hi_keepRow_2 v1 fuel0 0 M)
noncomputable def fn_Se_put (v0 : Nat) (v1 : Int32) (v2 : Int32) (M : Mm) : Rs Unit := grd (isSer v0) (bnd (fn_SA_write (v0 + 5) v1 v2 M) (fun r6 M6 => some (.inl (), M6)))
noncomputable def fn_Se_load_11 (v0 : Nat) (v1 : Nat) (v2 : Int32) : Nat → Int32 → Mm → Rs Unit
  | 0, _, _ => none
  | n + 1, v3, M => if (M v0 1) ≤ v3 then (some (.inl (), M)) else (bnd (fn_SA_read v1 ((v2 + 1) + v3) M) (fun r27 M27 => bnd (fn_Se_put v0 v3 r27 M27) (fun r30 M30 => li (v3 + 1) (fun x3_33 => fn_Se_load_11 v0 v1 v2 n x3_33 M30))))
noncomputable def fn_Se_load (v0 : Nat) (v1 : Nat) (v2 : Int32) (M : Mm) : Rs Unit := grd (isSer v0) (grd (isIA v1) (bnd (fn_SA_read v1 v2 M) (fun r3 M3 => lm (mset M3 v0 1 r3) (fun M6 => fn_Se_load_11 v0 v1 v2 fuel0 0 M6))))
noncomputable def fn_St_load_11 (v1 : Nat) (v2 : Int32) : Nat → Int32 → Mm → Rs Unit
  | 0, _, _ => none
  | n + 1, v3, M => if 4 ≤ v3 then (some (.inl (), M)) else (bnd (fn_St_at v3 M) (fun r18 M18 => grd (isSer r18) (bnd (fn_Se_load r18 v1 ((v2 + 1) + (v3 * 21)) M18) (fun r30 M30 => li (v3 + 1) (fun x3_33 => fn_St_load_11 v1 v2 n x3_33 M30)))))
noncomputable def fn_St_load (v1 : Nat) (v2 : Int32) (M : Mm) : Rs Unit := grd (isIA v1) (bnd (fn_SA_read v1 v2 M) (fun r3 M3 => lm (mset M3 1 5 r3) (fun M6 => fn_St_load_11 v1 v2 fuel0 0 M6)))
noncomputable def fn_Hi_takeBack_19 (s1 : Int32) (M : Mm) : Rs Unit := lm (mset M 12 1 s1) (fun M19 => lm (mset M19 12 2 ((M19 12 2) - 1)) (fun M29 => bnd (fn_St_load 13 ((M29 12 1) * 85) M29) (fun r44 M44 => some (.inl (), M44))))
noncomputable def fn_Hi_takeBack (M : Mm) : Rs Unit := if (M 12 1) ≤ 0 then (fn_Hi_takeBack_19 7 M) else (fn_Hi_takeBack_19 ((M 12 1) - 1) M)
noncomputable def fn_In_isFull (M : Mm) : Rs Int32 := if (M 16 1) < 60 then (some (.inl 0, M)) else (some (.inl 1, M))
noncomputable def fn_In_add_27 (M : Mm) : Rs Int32 := some (.inl (M 16 1), M)
noncomputable def fn_In_add (v1 : Int32) (M : Mm) : Rs Int32 := bnd (fn_In_isFull M) (fun r1 M1 => if r1 = 0 then (grd (inb (M1 16 1) 60) (lm (mset M1 17 (M1 16 1).toNatClampNeg (vp_nar .char v1)) (fun M16 => lm (mset M16 16 1 ((M16 16 1) + 1)) (fun M24 => fn_In_add_27 M24)))) else (fn_In_add_27 M1))
noncomputable def fn_In_clear (M : Mm) : Rs Unit := lm (mset M 16 1 0) (fun M2 => some (.inl (), M2))
noncomputable def fn_In_kind (M : Mm) : Rs Nat := grd ((M 16 4).toNatClampNeg < 9) (some (.inl ((M 16 4).toNatClampNeg), M))
noncomputable def fn_In_argument (v1 : Int32) (M : Mm) : Rs Int32 := bnd (fn_SA_read 18 v1 M) (fun r5 M5 => some (.inl r5, M5))
noncomputable def fn_In_errorPlace (M : Mm) : Rs Int32 := some (.inl (M 16 5), M)
noncomputable def fn_In_giveUp (v1 : Int32) (M : Mm) : Rs Int32 := lm (mset M 16 5 (imax (M 16 5) v1)) (fun M9 => some (.inl (-1), M9))
noncomputable def fn_In_signAt (v1 : Int32) (M : Mm) : Rs Int32 := if v1 < 0 then (some (.inl 0, M)) else (if (M 16 1) ≤ v1 then (some (.inl 0, M)) else (if 60 ≤ v1 then (some (.inl 0, M)) else (grd (inb v1 60) (grd (vp_nar .char (M 17 v1.toNatClampNeg) = (M 17 v1.toNatClampNeg)) (some (.inl (M 17 v1.toNatClampNeg), M))))))
noncomputable def fn_In_digitAt (v1 : Int32) (M : Mm) : Rs Int32 := bnd (fn_In_signAt v1 M) (fun r2 M2 => if r2 < 48 then (some (.inl (-1), M2)) else (if 57 < r2 then (some (.inl (-1), M2)) else (some (.inl (r2 - 48), M2))))
noncomputable def fn_In_keepArgument (v1 : Int32) (v2 : Int32) (M : Mm) : Rs Int32 := bnd (fn_SA_write 18 (M 16 3) v1 M) (fun r9 M9 => lm (mset M9 16 3 ((M9 16 3) + 1)) (fun M19 => some (.inl v2, M19)))
noncomputable def fn_In_readDigit (v1 : Int32) (M : Mm) : Rs Int32 := bnd (fn_In_digitAt v1 M) (fun r2 M2 => if r2 = (-1) then (bnd (fn_In_giveUp v1 M2) (fun r13 M13 => some (.inl r13, M13))) else (bnd (fn_In_keepArgument r2 (v1 + 1) M2) (fun r24 M24 => some (.inl r24, M24))))
noncomputable def fn_In_readIndex_26 (v1 : Int32) (v2 : Int32) (v3 : Int32) (M : Mm) : Rs Int32 := if v3 = (-1) then (bnd (fn_In_giveUp v1 M) (fun r33 M33 => some (.inl r33, M33))) else (bnd (fn_In_keepArgument (v2 * v3) (v1 + 1) M) (fun r46 M46 => some (.inl r46, M46)))
noncomputable def fn_In_readIndex (v1 : Int32) (v2 : Int32) (M : Mm) : Rs Int32 := bnd (fn_In_digitAt v1 M) (fun r2 M2 => bnd (fn_In_digitAt (v1 + 1) M2) (fun r10 M10 => if r2 = (-1) then (fn_In_readIndex_26 v1 v2 r2 M10) else (if r10 = (-1) then (fn_In_readIndex_26 v1 v2 r2 M10) else (bnd (fn_In_keepArgument (v2 * ((10 * r2) + r10)) (v1 + 2) M10) (fun r63 M63 => some (.inl r63, M63))))))
noncomputable def fn_In_readPart (v1 : Int32) (v2 : Int32) (M : Mm) : Rs Int32 := if v1 = 68 then (bnd (fn_In_readDigit v2 M) (fun r38 M38 => some (.inl r38, M38))) else if v1 = 73 then (bnd (fn_In_readIndex v2 1 M) (fun r45 M45 => some (.inl r45, M45))) else if v1 = 78 then (bnd (fn_In_signAt v2 M) (fun r51 M51 => if r51 = 45 then (bnd (fn_In_readIndex (v2 + 1) (-1) M51) (fun r64 M64 => some (.inl r64, M64))) else (bnd (fn_In_readIndex v2 1 M51) (fun r73 M73 => some (.inl r73, M73))))) else (bnd (fn_In_signAt v2 M) (fun r79 M79 => if r79 = v1 then (some (.inl (v2 + 1), M79)) else (bnd (fn_In_giveUp v2 M79) (fun r94 M94 => some (.inl r94, M94)))))
noncomputable def fn_In_readShape_10 (v1 : Nat) : Nat → Int32 → Int32 → Mm → Rs Int32
  | 0, _, _, _ => none
  | n + 1, v3, v4, M => if (zz_slen v1) ≤ v4 then (some (.inl v3, M)) else (grd (inb v4 (zz_shl.getD v1 0)) (bnd (fn_In_readPart (zz_sch v1 v4.toNatClampNeg) v3 M) (fun r27 M27 => if r27 = (-1) then (some (.inl (-1), M27)) else (li (v4 + 1) (fun x4_38 => fn_In_readShape_10 v1 n r27 x4_38 M27)))))
noncomputable def fn_In_readShape (v1 : Nat) (v2 : Int32) (M : Mm) : Rs Int32 := grd (v1 < 9) (lm (mset M 16 3 0) (fun M2 => fn_In_readShape_10 v1 fuel0 v2 0 M2))
noncomputable def fn_In_readCommand_45 (v5 : Nat) (v6 : Int32) (M : Mm) : Rs Int32 := lm (mset M 16 4 (nI v5)) (fun M48 => some (.inl v6, M48))
noncomputable def fn_In_readCommand_15 (v1 : Int32) (v3 : Int32) : Nat → Int32 → Mm → Rs Int32
  | 0, _, _ => none
  | n + 1, v4, M => if v3 ≤ v4 then (some (.inl (-1), M)) else (grd (inb v4 9) (bnd (fn_In_readShape v4.toNatClampNeg v1 M) (fun r34 M34 => if r34 = (-1) then (li (v4 + 1) (fun x4_54 => fn_In_readCommand_15 v1 v3 n x4_54 M34)) else (fn_In_readCommand_45 v4.toNatClampNeg r34 M34))))
noncomputable def fn_In_readCommand (v1 : Int32) (M : Mm) : Rs Int32 := lm (mset M 16 5 v1) (fun M2 => fn_In_readCommand_15 v1 9 fuel0 0 M2)
noncomputable def fn_In_countCommands_29 (v2 : Int32) (v3 : Int32) (M : Mm) : Rs Int32 := if v3 = (-1) then (some (.inl (-1), M)) else (some (.inl v2, M))
noncomputable def fn_In_countCommands_50 (v3 : Int32) (M : Mm) : Rs Int32 := lm (mset M 16 5 v3) (fun M52 => some (.inl (-1), M52))
noncomputable def fn_In_countCommands_4 : Nat → Int32 → Int32 → Mm → Rs Int32
  | 0, _, _, _ => none
  | n + 1, v1, v2, M => if 60 < v2 then (some (.inl (-1), M)) else (bnd (fn_In_readCommand v1 M) (fun r12 M12 => if r12 = (-1) then (fn_In_countCommands_29 v2 r12 M12) else (if r12 < (M12 16 1) then (bnd (fn_In_signAt r12 M12) (fun r42 M42 => if r42 = 59 then (li ((r12 + 1)) (fun x1_60 => li (v2 + 1) (fun x2_61 => fn_In_countCommands_4 n x1_60 x2_61 M42))) else (fn_In_countCommands_50 r12 M42))) else (fn_In_countCommands_29 v2 r12 M12))))
noncomputable def fn_In_countCommands (M : Mm) : Rs Int32 := fn_In_countCommands_4 fuel0 0 1 M
noncomputable def fn_Pa_goOn_47 (v1 : Nat) (v3 : Int32) (v4 : Int32) (M : Mm) : Rs Int32 := bnd (fn_Se_at v1 v4 M) (fun r50 M50 => if r50 = v3 then (some (.inl (v4 + 1), M50)) else (some (.inl v4, M50)))
noncomputable def fn_Pa_goOn_6 (v1 : Nat) (v3 : Int32) : Nat → Int32 → Int32 → Mm → Rs Int32
  | 0, _, _, _ => none
  | n + 1, v4, v5, M => if 20 ≤ v5 then (fn_Pa_goOn_47 v1 v3 v4 M) else (if v4 ≤ 0 then (fn_Pa_goOn_47 v1 v3 v4 M) else (bnd (fn_Se_at v1 v4 M) (fun r21 M21 => if r21 = v3 then (fn_Pa_goOn_47 v1 v3 v4 M21) else (bnd (fn_SA_read 27 (v4 - 1) M21) (fun r36 M36 => li (v5 + 1) (fun x5_41 => fn_Pa_goOn_6 v1 v3 n r36 x5_41 M36))))))
noncomputable def fn_Pa_goOn (v1 : Nat) (v2 : Int32) (v3 : Int32) (M : Mm) : Rs Int32 := grd (isSer v1) (fn_Pa_goOn_6 v1 v3 fuel0 v2 0 M)
noncomputable def fn_Pa_findBorders_13 (v1 : Nat) : Nat → Int32 → Int32 → Mm → Rs Unit
  | 0, _, _, _ => none
  | n + 1, v2, v3, M => bnd (fn_Se_size v1 M) (fun r15 M15 => if r15 ≤ v3 then (some (.inl (), M15)) else (bnd (fn_Se_at v1 v3 M15) (fun r26 M26 => bnd (fn_Pa_goOn v1 v2 r26 M26) (fun r29 M29 => bnd (fn_SA_write 27 v3 r29 M29) (fun r39 M39 => li (v3 + 1) (fun x3_42 => fn_Pa_findBorders_13 v1 n r29 x3_42 M39))))))
noncomputable def fn_Pa_findBorders (v1 : Nat) (M : Mm) : Rs Unit := grd (isSer v1) (bnd (fn_SA_write 27 0 0 M) (fun r8 M8 => fn_Pa_findBorders_13 v1 fuel0 0 1 M8))
noncomputable def fn_Pa_period (v1 : Nat) (M : Mm) : Rs Int32 := grd (isSer v1) (bnd (fn_Pa_findBorders v1 M) (fun r2 M2 => bnd (fn_Se_size v1 M2) (fun r6 M6 => bnd (fn_Se_size v1 M6) (fun r14 M14 => bnd (fn_SA_read 27 (r14 - 1) M14) (fun r19 M19 => some (.inl (r6 - r19), M19))))))
noncomputable def fn_Pa_repeats_2 (v0 : Nat) (v1 : Int32) : Nat → Int32 → Mm → Rs Int32
  | 0, _, _ => none
  | n + 1, v2, M => bnd (fn_Se_size v0 M) (fun r6 M6 => if r6 ≤ (v2 + v1) then (some (.inl 1, M6)) else (bnd (fn_Se_at v0 v2 M6) (fun r14 M14 => bnd (fn_Se_at v0 (v2 + v1) M14) (fun r21 M21 => if r14 = r21 then (li (v2 + 1) (fun x2_29 => fn_Pa_repeats_2 v0 v1 n x2_29 M21)) else (some (.inl 0, M21))))))
noncomputable def fn_Pa_repeats (v0 : Nat) (v1 : Int32) (M : Mm) : Rs Int32 := grd (isSer v0) (fn_Pa_repeats_2 v0 v1 fuel0 0 M)
noncomputable def fn_Pa_periodByTrial_26 (v0 : Nat) (M : Mm) : Rs Int32 := bnd (fn_Se_size v0 M) (fun r27 M27 => some (.inl r27, M27))
noncomputable def fn_Pa_periodByTrial_2 (v0 : Nat) : Nat → Int32 → Mm → Rs Int32
  | 0, _, _ => none
  | n + 1, v1, M => bnd (fn_Se_size v0 M) (fun r4 M4 => if r4 ≤ v1 then (fn_Pa_periodByTrial_26 v0 M4) else (bnd (fn_Pa_repeats v0 v1 M4) (fun r12 M12 => if r12 = 0 then (li (v1 + 1) (fun x1_20 => fn_Pa_periodByTrial_2 v0 n x1_20 M12)) else (some (.inl v1, M12)))))
noncomputable def fn_Pa_periodByTrial (v0 : Nat) (M : Mm) : Rs Int32 := grd (isSer v0) (fn_Pa_periodByTrial_2 v0 fuel0 1 M)
noncomputable def fn_Pa_places_62 (k13 : Int32 → Int32 → Int32 → Mm → Rs Int32) (v1 : Nat) (v2 : Nat) (v3 : Int32) (v4 : Int32) (v5 : Int32) (M : Mm) : Rs Int32 := li (v5 + 1) (fun x5_62 => k13 v3 v4 x5_62 M)
noncomputable def fn_Pa_places_13 (v1 : Nat) (v2 : Nat) : Nat → Int32 → Int32 → Int32 → Mm → Rs Int32
  | 0, _, _, _, _ => none
  | n + 1, v3, v4, v5, M => bnd (fn_Se_size v1 M) (fun r16 M16 => if r16 ≤ v5 then (some (.inl v3, M16)) else (bnd (fn_Se_at v1 v5 M16) (fun r29 M29 => bnd (fn_Pa_goOn v2 v4 r29 M29) (fun r32 M32 => bnd (fn_Se_size v2 M32) (fun r40 M40 => if r32 = r40 then (li (v3 + 1) (fun x3_46 => bnd (fn_SA_read 27 (r32 - 1) M40) (fun r57 M57 => fn_Pa_places_62 (fn_Pa_places_13 v1 v2 n) v1 v2 x3_46 r57 v5 M57))) else (fn_Pa_places_62 (fn_Pa_places_13 v1 v2 n) v1 v2 v3 r32 v5 M40))))))
noncomputable def fn_Pa_places (v1 : Nat) (v2 : Nat) (M : Mm) : Rs Int32 := grd (isSer v1) (grd (isSer v2) (bnd (fn_Pa_findBorders v2 M) (fun r2 M2 => fn_Pa_places_13 v1 v2 fuel0 0 0 0 M2)))
noncomputable def fn_Pa_standsAt_2 (v0 : Nat) (v1 : Nat) (v2 : Int32) : Nat → Int32 → Mm → Rs Int32
  | 0, _, _ => none
  | n + 1, v3, M => bnd (fn_Se_size v1 M) (fun r4 M4 => if r4 ≤ v3 then (some (.inl 1, M4)) else (bnd (fn_Se_at v0 (v2 + v3) M4) (fun r14 M14 => bnd (fn_Se_at v1 v3 M14) (fun r19 M19 => if r14 = r19 then (li (v3 + 1) (fun x3_27 => fn_Pa_standsAt_2 v0 v1 v2 n x3_27 M19)) else (some (.inl 0, M19))))))
noncomputable def fn_Pa_standsAt (v0 : Nat) (v1 : Nat) (v2 : Int32) (M : Mm) : Rs Int32 := grd (isSer v0) (grd (isSer v1) (fn_Pa_standsAt_2 v0 v1 v2 fuel0 0 M))
noncomputable def fn_Pa_placesByScan_32 (k4 : Int32 → Int32 → Mm → Rs Int32) (v0 : Nat) (v1 : Nat) (v3 : Int32) (s0 : Int32) (s1 : Int32) (M : Mm) : Rs Int32 := li ((s0 + s1)) (fun x2_33 => li (v3 + 1) (fun x3_34 => k4 x2_33 x3_34 M))
noncomputable def fn_Pa_placesByScan_4 (v0 : Nat) (v1 : Nat) : Nat → Int32 → Int32 → Mm → Rs Int32
  | 0, _, _, _ => none
  | n + 1, v2, v3, M => bnd (fn_Se_size v1 M) (fun r6 M6 => bnd (fn_Se_size v0 M6) (fun r11 M11 => if r11 < (v3 + r6) then (some (.inl v2, M11)) else (bnd (fn_Pa_standsAt v0 v1 v3 M11) (fun r21 M21 => if r21 = 0 then (fn_Pa_placesByScan_32 (fn_Pa_placesByScan_4 v0 v1 n) v0 v1 v3 v2 0 M21) else (fn_Pa_placesByScan_32 (fn_Pa_placesByScan_4 v0 v1 n) v0 v1 v3 v2 1 M21)))))
noncomputable def fn_Pa_placesByScan (v0 : Nat) (v1 : Nat) (M : Mm) : Rs Int32 := grd (isSer v0) (grd (isSer v1) (fn_Pa_placesByScan_4 v0 v1 fuel0 0 0 M))
noncomputable def fn_Se_isEmpty (v0 : Nat) (M : Mm) : Rs Int32 := grd (isSer v0) (if (M v0 1) = 0 then (some (.inl 1, M)) else (some (.inl 0, M)))
noncomputable def fn_Pa_agreeOn_19 (M : Mm) : Rs Int32 := some (.inl 1, M)
noncomputable def fn_Pa_agreeOn (v1 : Nat) (M : Mm) : Rs Int32 := grd (isSer v1) (bnd (fn_Se_isEmpty v1 M) (fun r1 M1 => if r1 = 0 then (bnd (fn_Pa_period v1 M1) (fun r9 M9 => bnd (fn_Pa_periodByTrial v1 M9) (fun r13 M13 => if r9 = r13 then (fn_Pa_agreeOn_19 M13) else (some (.inl 0, M13))))) else (fn_Pa_agreeOn_19 M1)))
noncomputable def fn_Se_has (v0 : Nat) (v1 : Int32) (M : Mm) : Rs Int32 := grd (isSer v0) (if v1 < 0 then (some (.inl 0, M)) else (if (M v0 1) ≤ v1 then (some (.inl 0, M)) else (some (.inl 1, M))))
noncomputable def fn_Pe_standsOut_50 (M : Mm) : Rs Int32 := some (.inl 1, M)
noncomputable def fn_Pe_standsOut_25 (v0 : Nat) (v1 : Int32) (M : Mm) : Rs Int32 := bnd (fn_Se_has v0 (v1 + 1) M) (fun r29 M29 => if r29 = 0 then (fn_Pe_standsOut_50 M29) else (bnd (fn_Se_at v0 (v1 + 1) M29) (fun r39 M39 => bnd (fn_Se_at v0 v1 M39) (fun r44 M44 => if r44 ≤ r39 then (some (.inl 0, M44)) else (fn_Pe_standsOut_50 M44)))))
noncomputable def fn_Pe_standsOut (v0 : Nat) (v1 : Int32) (M : Mm) : Rs Int32 := grd (isSer v0) (bnd (fn_Se_has v0 (v1 - 1) M) (fun r4 M4 => if r4 = 0 then (fn_Pe_standsOut_25 v0 v1 M4) else (bnd (fn_Se_at v0 (v1 - 1) M4) (fun r14 M14 => bnd (fn_Se_at v0 v1 M14) (fun r19 M19 => if r19 ≤ r14 then (some (.inl 0, M19)) else (fn_Pe_standsOut_25 v0 v1 M19))))))
noncomputable def fn_Pe_number_26 (k4 : Int32 → Int32 → Mm → Rs Int32) (v0 : Nat) (v2 : Int32) (s0 : Int32) (s1 : Int32) (M : Mm) : Rs Int32 := li ((s0 + s1)) (fun x1_27 => li (v2 + 1) (fun x2_28 => k4 x1_27 x2_28 M))
noncomputable def fn_Pe_number_4 (v0 : Nat) : Nat → Int32 → Int32 → Mm → Rs Int32
  | 0, _, _, _ => none
  | n + 1, v1, v2, M => bnd (fn_Se_size v0 M) (fun r6 M6 => if r6 ≤ v2 then (some (.inl v1, M6)) else (bnd (fn_Pe_standsOut v0 v2 M6) (fun r15 M15 => if r15 = 0 then (fn_Pe_number_26 (fn_Pe_number_4 v0 n) v0 v2 v1 0 M15) else (fn_Pe_number_26 (fn_Pe_number_4 v0 n) v0 v2 v1 1 M15))))
noncomputable def fn_Pe_number (v0 : Nat) (M : Mm) : Rs Int32 := grd (isSer v0) (fn_Pe_number_4 v0 fuel0 0 0 M)
noncomputable def fn_Pe_leastBeside_49 (v3 : Int32) (M : Mm) : Rs Int32 := some (.inl v3, M)
noncomputable def fn_Pe_leastBeside_9 (v0 : Nat) (v1 : Int32) (v2 : Int32) : Nat → Int32 → Int32 → Mm → Rs Int32
  | 0, _, _, _ => none
  | n + 1, v3, v4, M => bnd (fn_Se_size v0 M) (fun r12 M12 => if r12 ≤ v4 then (some (.inl v3, M12)) else (li ((v1 + (v4 * v2))) (fun x5_24 => bnd (fn_Se_has v0 x5_24 M12) (fun r29 M29 => if r29 = 0 then (some (.inl v3, M29)) else (bnd (fn_Se_at v0 x5_24 M29) (fun r38 M38 => bnd (fn_Se_at v0 v1 M38) (fun r43 M43 => if r38 ≤ r43 then (bnd (fn_Se_at v0 x5_24 M43) (fun r56 M56 => li ((imin v3 r56)) (fun x3_62 => li (v4 + 1) (fun x4_63 => fn_Pe_leastBeside_9 v0 v1 v2 n x3_62 x4_63 M56)))) else (fn_Pe_leastBeside_49 v3 M43))))))))
noncomputable def fn_Pe_leastBeside (v0 : Nat) (v1 : Int32) (v2 : Int32) (M : Mm) : Rs Int32 := grd (isSer v0) (bnd (fn_Se_at v0 v1 M) (fun r2 M2 => fn_Pe_leastBeside_9 v0 v1 v2 fuel0 r2 1 M2))
noncomputable def fn_Pe_heightBySides_58 (v0 : Nat) (v1 : Int32) (v4 : Int32) (s0 : Int32) (M : Mm) : Rs Int32 := bnd (fn_Se_at v0 v1 M) (fun r62 M62 => some (.inl (r62 - (imax v4 s0)), M62))
noncomputable def fn_Pe_heightBySides_41 (v0 : Nat) (v1 : Int32) (v3 : Int32) (s0 : Int32) (M : Mm) : Rs Int32 := if v3 = 0 then (fn_Pe_heightBySides_58 v0 v1 s0 (-99) M) else (bnd (fn_Pe_leastBeside v0 v1 1 M) (fun r50 M50 => fn_Pe_heightBySides_58 v0 v1 s0 r50 M50))
noncomputable def fn_Pe_heightBySides_26 (v0 : Nat) (v1 : Int32) (v2 : Int32) (v3 : Int32) (M : Mm) : Rs Int32 := if v2 = 0 then (fn_Pe_heightBySides_41 v0 v1 v3 (-99) M) else (bnd (fn_Pe_leastBeside v0 v1 (-1) M) (fun r33 M33 => fn_Pe_heightBySides_41 v0 v1 v3 r33 M33))
noncomputable def fn_Pe_heightBySides (v0 : Nat) (v1 : Int32) (M : Mm) : Rs Int32 := grd (isSer v0) (bnd (fn_Se_has v0 (v1 - 1) M) (fun r4 M4 => bnd (fn_Se_has v0 (v1 + 1) M4) (fun r12 M12 => if r4 = 0 then (if r12 = 0 then (some (.inl 0, M12)) else (fn_Pe_heightBySides_26 v0 v1 r4 r12 M12)) else (fn_Pe_heightBySides_26 v0 v1 r4 r12 M12))))
noncomputable def fn_Pe_reaches_3 (v0 : Nat) (v1 : Int32) (v2 : Int32) (v3 : Int32) : Nat → Int32 → Mm → Rs Int32
  | 0, _, _ => none
  | n + 1, v4, M => bnd (fn_Se_size v0 M) (fun r6 M6 => if r6 ≤ v4 then (some (.inl 0, M6)) else (li ((v1 + (v4 * v3))) (fun x5_18 => bnd (fn_Se_has v0 x5_18 M6) (fun r23 M23 => if r23 = 0 then (some (.inl 0, M23)) else (bnd (fn_Se_at v0 x5_18 M23) (fun r32 M32 => if v2 ≤ r32 then (bnd (fn_Se_at v0 x5_18 M32) (fun r44 M44 => bnd (fn_Se_at v0 v1 M44) (fun r49 M49 => if r49 < r44 then (some (.inl 1, M49)) else (bnd (fn_Se_has v0 (x5_18 + v3) M49) (fun r60 M60 => if r60 = 0 then (some (.inl 1, M60)) else (li (v4 + 1) (fun x4_68 => fn_Pe_reaches_3 v0 v1 v2 v3 n x4_68 M60))))))) else (some (.inl 0, M32))))))))
noncomputable def fn_Pe_reaches (v0 : Nat) (v1 : Int32) (v2 : Int32) (v3 : Int32) (M : Mm) : Rs Int32 := grd (isSer v0) (fn_Pe_reaches_3 v0 v1 v2 v3 fuel0 1 M)
noncomputable def fn_Pe_heightByLevels_34 (v2 : Int32) (v3 : Int32) (M : Mm) : Rs Int32 := some (.inl (v2 - v3), M)
noncomputable def fn_Pe_heightByLevels_8 (v0 : Nat) (v1 : Int32) (v2 : Int32) : Nat → Int32 → Mm → Rs Int32
  | 0, _, _ => none
  | n + 1, v3, M => if v3 < (-99) then (some (.inl 0, M)) else (bnd (fn_Pe_reaches v0 v1 v3 (-1) M) (fun r18 M18 => if r18 = 0 then (bnd (fn_Pe_reaches v0 v1 v3 1 M18) (fun r28 M28 => if r28 = 0 then (li (v3 + (-1)) (fun x3_38 => fn_Pe_heightByLevels_8 v0 v1 v2 n x3_38 M28)) else (fn_Pe_heightByLevels_34 v2 v3 M28))) else (fn_Pe_heightByLevels_34 v2 v3 M18)))
noncomputable def fn_Pe_heightByLevels (v0 : Nat) (v1 : Int32) (M : Mm) : Rs Int32 := grd (isSer v0) (bnd (fn_Se_at v0 v1 M) (fun r2 M2 => fn_Pe_heightByLevels_8 v0 v1 r2 fuel0 r2 M2))
noncomputable def fn_Pe_rankOf_63 (k11 : Int32 → Int32 → Mm → Rs Int32) (v0 : Nat) (v1 : Int32) (v2 : Int32) (v3 : Int32) (v4 : Int32) (M : Mm) : Rs Int32 := li (v4 + 1) (fun x4_63 => k11 v3 x4_63 M)
noncomputable def fn_Pe_rankOf_61 (k11 : Int32 → Int32 → Mm → Rs Int32) (v0 : Nat) (v1 : Int32) (v2 : Int32) (v4 : Int32) (s0 : Int32) (s1 : Int32) (M : Mm) : Rs Int32 := li ((s0 + s1)) (fun x3_62 => fn_Pe_rankOf_63 k11 v0 v1 v2 x3_62 v4 M)
noncomputable def fn_Pe_rankOf_56 (k11 : Int32 → Int32 → Mm → Rs Int32) (v0 : Nat) (v1 : Int32) (v2 : Int32) (v4 : Int32) (s0 : Int32) (M : Mm) : Rs Int32 := fn_Pe_rankOf_61 k11 v0 v1 v2 v4 s0 1 M
noncomputable def fn_Pe_rankOf_60 (k11 : Int32 → Int32 → Mm → Rs Int32) (v0 : Nat) (v1 : Int32) (v2 : Int32) (v4 : Int32) (s0 : Int32) (M : Mm) : Rs Int32 := fn_Pe_rankOf_61 k11 v0 v1 v2 v4 s0 0 M
noncomputable def fn_Pe_rankOf_11 (v0 : Nat) (v1 : Int32) (v2 : Int32) : Nat → Int32 → Int32 → Mm → Rs Int32
  | 0, _, _, _ => none
  | n + 1, v3, v4, M => bnd (fn_Se_size v0 M) (fun r14 M14 => if r14 ≤ v4 then (some (.inl v3, M14)) else (bnd (fn_Pe_standsOut v0 v4 M14) (fun r23 M23 => if r23 = 0 then (fn_Pe_rankOf_63 (fn_Pe_rankOf_11 v0 v1 v2 n) v0 v1 v2 v3 v4 M23) else (bnd (fn_Pe_heightBySides v0 v4 M23) (fun r32 M32 => if v2 < r32 then (fn_Pe_rankOf_56 (fn_Pe_rankOf_11 v0 v1 v2 n) v0 v1 v2 v4 v3 M32) else (if r32 = v2 then (if v1 ≤ v4 then (fn_Pe_rankOf_60 (fn_Pe_rankOf_11 v0 v1 v2 n) v0 v1 v2 v4 v3 M32) else (fn_Pe_rankOf_56 (fn_Pe_rankOf_11 v0 v1 v2 n) v0 v1 v2 v4 v3 M32)) else (fn_Pe_rankOf_60 (fn_Pe_rankOf_11 v0 v1 v2 n) v0 v1 v2 v4 v3 M32)))))))
noncomputable def fn_Pe_rankOf (v0 : Nat) (v1 : Int32) (M : Mm) : Rs Int32 := grd (isSer v0) (bnd (fn_Pe_heightBySides v0 v1 M) (fun r2 M2 => fn_Pe_rankOf_11 v0 v1 r2 fuel0 0 0 M2))
noncomputable def fn_Pe_ofRank_29 (k2 : Int32 → Mm → Rs Int32) (v0 : Nat) (v1 : Int32) (v2 : Int32) (M : Mm) : Rs Int32 := li (v2 + 1) (fun x2_29 => k2 x2_29 M)
noncomputable def fn_Pe_ofRank_2 (v0 : Nat) (v1 : Int32) : Nat → Int32 → Mm → Rs Int32
  | 0, _, _ => none
  | n + 1, v2, M => bnd (fn_Se_size v0 M) (fun r4 M4 => if r4 ≤ v2 then (some (.inl (-1), M4)) else (bnd (fn_Pe_standsOut v0 v2 M4) (fun r12 M12 => if r12 = 0 then (fn_Pe_ofRank_29 (fn_Pe_ofRank_2 v0 v1 n) v0 v1 v2 M12) else (bnd (fn_Pe_rankOf v0 v2 M12) (fun r20 M20 => if r20 = v1 then (some (.inl v2, M20)) else (fn_Pe_ofRank_29 (fn_Pe_ofRank_2 v0 v1 n) v0 v1 v2 M20))))))
noncomputable def fn_Pe_ofRank (v0 : Nat) (v1 : Int32) (M : Mm) : Rs Int32 := grd (isSer v0) (fn_Pe_ofRank_2 v0 v1 fuel0 0 M)
noncomputable def fn_Ra_growTree_79 (k27 : Int32 → Mm → Rs Unit) (v1 : Nat) (v2 : Int32) (M : Mm) : Rs Unit := li (v2 + 1) (fun x2_79 => k27 x2_79 M)
noncomputable def fn_Ra_growTree_37 (k27 : Int32 → Mm → Rs Unit) (v1 : Nat) (v2 : Int32) : Nat → Int32 → Mm → Rs Unit
  | 0, _, _ => none
  | n + 1, v3, M => bnd (fn_Se_size v1 M) (fun r39 M39 => if r39 < v3 then (fn_Ra_growTree_79 k27 v1 v2 M39) else (bnd (fn_SA_read 22 v3 M39) (fun r55 M55 => bnd (fn_Se_at v1 (v2 - 1) M55) (fun r62 M62 => bnd (fn_SA_write 22 v3 (r55 + r62) M62) (fun r66 M66 => li ((v3 + (v3 &&& (-v3)))) (fun x3_75 => fn_Ra_growTree_37 k27 v1 v2 n x3_75 M66))))))
noncomputable def fn_Ra_growTree_27 (v1 : Nat) : Nat → Int32 → Mm → Rs Unit
  | 0, _, _ => none
  | n + 1, v2, M => bnd (fn_Se_size v1 M) (fun r29 M29 => if r29 < v2 then (some (.inl (), M29)) else (fn_Ra_growTree_37 (fn_Ra_growTree_27 v1 n) v1 v2 fuel0 v2 M29))
noncomputable def fn_Ra_growTree_25 (v1 : Nat) (M : Mm) : Rs Unit := fn_Ra_growTree_27 v1 fuel0 1 M
noncomputable def fn_Ra_growTree_2 (v1 : Nat) : Nat → Int32 → Mm → Rs Unit
  | 0, _, _ => none
  | n + 1, v2, M => bnd (fn_Se_size v1 M) (fun r4 M4 => if r4 < v2 then (fn_Ra_growTree_25 v1 M4) else (bnd (fn_SA_write 22 v2 0 M4) (fun r16 M16 => li (v2 + 1) (fun x2_19 => fn_Ra_growTree_2 v1 n x2_19 M16))))
noncomputable def fn_Ra_growTree (v1 : Nat) (M : Mm) : Rs Unit := grd (isSer v1) (fn_Ra_growTree_2 v1 fuel0 1 M)
noncomputable def fn_Ra_treeTotal_4 : Nat → Int32 → Int32 → Mm → Rs Int32
  | 0, _, _, _ => none
  | n + 1, v2, v3, M => if v3 ≤ 0 then (some (.inl v2, M)) else (bnd (fn_SA_read 22 v3 M) (fun r14 M14 => li ((v2 + r14)) (fun x2_18 => li ((v3 - (v3 &&& (-v3)))) (fun x3_25 => fn_Ra_treeTotal_4 n x2_18 x3_25 M14))))
noncomputable def fn_Ra_treeTotal (v1 : Int32) (M : Mm) : Rs Int32 := fn_Ra_treeTotal_4 fuel0 0 v1 M
noncomputable def fn_Ra_totalByTree (v1 : Nat) (v2 : Int32) (v3 : Int32) (M : Mm) : Rs Int32 := grd (isSer v1) (bnd (fn_Ra_growTree v1 M) (fun r2 M2 => bnd (fn_Ra_treeTotal (v3 + 1) M2) (fun r9 M9 => bnd (fn_Ra_treeTotal v2 M9) (fun r14 M14 => some (.inl (r9 - r14), M14)))))
noncomputable def fn_Ra_windowTop_85 (k9 : Int32 → Int32 → Int32 → Mm → Rs Int32) (v1 : Nat) (v2 : Int32) (v3 : Int32) (v4 : Int32) (v5 : Int32) (v6 : Int32) (M : Mm) : Rs Int32 := li (v6 + 1) (fun x6_85 => k9 v4 v5 x6_85 M)
noncomputable def fn_Ra_windowTop_52 (k9 : Int32 → Int32 → Int32 → Mm → Rs Int32) (v1 : Nat) (v2 : Int32) (v3 : Int32) (v4 : Int32) (v5 : Int32) (v6 : Int32) (M : Mm) : Rs Int32 := bnd (fn_SA_write 23 v5 v6 M) (fun r60 M60 => li (v5 + 1) (fun x5_63 => bnd (fn_SA_read 23 v4 M60) (fun r72 M72 => if (v6 - v2) < r72 then (fn_Ra_windowTop_85 k9 v1 v2 v3 v4 x5_63 v6 M72) else (li (v4 + 1) (fun x4_82 => fn_Ra_windowTop_85 k9 v1 v2 v3 x4_82 x5_63 v6 M72)))))
noncomputable def fn_Ra_windowTop_15 (k9 : Int32 → Int32 → Int32 → Mm → Rs Int32) (v1 : Nat) (v2 : Int32) (v3 : Int32) (v4 : Int32) (v6 : Int32) : Nat → Int32 → Mm → Rs Int32
  | 0, _, _ => none
  | n + 1, v5, M => if v5 ≤ v4 then (fn_Ra_windowTop_52 k9 v1 v2 v3 v4 v5 v6 M) else (bnd (fn_SA_read 23 (v5 - 1) M) (fun r31 M31 => bnd (fn_Se_at v1 r31 M31) (fun r34 M34 => bnd (fn_Se_at v1 v6 M34) (fun r40 M40 => if r40 < r34 then (fn_Ra_windowTop_52 k9 v1 v2 v3 v4 v5 v6 M40) else (li (v5 + (-1)) (fun x5_46 => fn_Ra_windowTop_15 k9 v1 v2 v3 v4 v6 n x5_46 M40))))))
noncomputable def fn_Ra_windowTop_91 (v1 : Nat) (v4 : Int32) (M : Mm) : Rs Int32 := bnd (fn_SA_read 23 v4 M) (fun r98 M98 => bnd (fn_Se_at v1 r98 M98) (fun r101 M101 => some (.inl r101, M101)))
noncomputable def fn_Ra_windowTop_9 (v1 : Nat) (v2 : Int32) (v3 : Int32) : Nat → Int32 → Int32 → Int32 → Mm → Rs Int32
  | 0, _, _, _, _ => none
  | n + 1, v4, v5, v6, M => if v3 < v6 then (fn_Ra_windowTop_91 v1 v4 M) else (fn_Ra_windowTop_15 (fn_Ra_windowTop_9 v1 v2 v3 n) v1 v2 v3 v4 v6 fuel0 v5 M)
noncomputable def fn_Ra_windowTop (v1 : Nat) (v2 : Int32) (v3 : Int32) (M : Mm) : Rs Int32 := grd (isSer v1) (fn_Ra_windowTop_9 v1 v2 v3 fuel0 0 0 0 M)
noncomputable def fn_Ra_nextAbove_70 (k13 : Int32 → Int32 → Int32 → Mm → Rs Int32) (v1 : Nat) (v2 : Int32) (v3 : Int32) (v5 : Int32) (s0 : Int32) (M : Mm) : Rs Int32 := bnd (fn_SA_write 23 v3 v5 M) (fun r79 M79 => li (v3 + 1) (fun x3_82 => li (v5 + (-1)) (fun x5_85 => k13 x3_82 s0 x5_85 M79)))
noncomputable def fn_Ra_nextAbove_52 (k13 : Int32 → Int32 → Int32 → Mm → Rs Int32) (v1 : Nat) (v2 : Int32) (v3 : Int32) (v5 : Int32) (M : Mm) : Rs Int32 := if v3 ≤ 0 then (fn_Ra_nextAbove_70 k13 v1 v2 v3 v5 (-1) M) else (bnd (fn_SA_read 23 (v3 - 1) M) (fun r63 M63 => fn_Ra_nextAbove_70 k13 v1 v2 v3 v5 r63 M63))
noncomputable def fn_Ra_nextAbove_19 (k13 : Int32 → Int32 → Int32 → Mm → Rs Int32) (v1 : Nat) (v2 : Int32) (v5 : Int32) : Nat → Int32 → Mm → Rs Int32
  | 0, _, _ => none
  | n + 1, v3, M => if v3 ≤ 0 then (fn_Ra_nextAbove_52 k13 v1 v2 v3 v5 M) else (bnd (fn_SA_read 23 (v3 - 1) M) (fun r31 M31 => bnd (fn_Se_at v1 r31 M31) (fun r34 M34 => bnd (fn_Se_at v1 v5 M34) (fun r40 M40 => if r40 < r34 then (fn_Ra_nextAbove_52 k13 v1 v2 v3 v5 M40) else (li (v3 + (-1)) (fun x3_46 => fn_Ra_nextAbove_19 k13 v1 v2 v5 n x3_46 M40))))))
noncomputable def fn_Ra_nextAbove_13 (v1 : Nat) (v2 : Int32) : Nat → Int32 → Int32 → Int32 → Mm → Rs Int32
  | 0, _, _, _, _ => none
  | n + 1, v3, v4, v5, M => if v5 < v2 then (some (.inl v4, M)) else (fn_Ra_nextAbove_19 (fn_Ra_nextAbove_13 v1 v2 n) v1 v2 v5 fuel0 v3 M)
noncomputable def fn_Ra_nextAbove (v1 : Nat) (v2 : Int32) (M : Mm) : Rs Int32 := grd (isSer v1) (bnd (fn_Se_size v1 M) (fun r6 M6 => li ((r6 - 1)) (fun x5_11 => fn_Ra_nextAbove_13 v1 v2 fuel0 0 (-1) x5_11 M6)))
noncomputable def fn_Ra_nextAboveByScan_4 (v0 : Nat) (v1 : Int32) : Nat → Int32 → Mm → Rs Int32
  | 0, _, _ => none
  | n + 1, v2, M => bnd (fn_Se_size v0 M) (fun r6 M6 => if r6 ≤ v2 then (some (.inl (-1), M6)) else (bnd (fn_Se_at v0 v2 M6) (fun r14 M14 => bnd (fn_Se_at v0 v1 M14) (fun r19 M19 => if r14 ≤ r19 then (li (v2 + 1) (fun x2_27 => fn_Ra_nextAboveByScan_4 v0 v1 n x2_27 M19)) else (some (.inl v2, M19))))))
noncomputable def fn_Ra_nextAboveByScan (v0 : Nat) (v1 : Int32) (M : Mm) : Rs Int32 := grd (isSer v0) (li ((v1 + 1)) (fun x2_3 => fn_Ra_nextAboveByScan_4 v0 v1 fuel0 x2_3 M))
noncomputable def fn_Ra_bestTotal_10 (v0 : Nat) : Nat → Int32 → Int32 → Int32 → Mm → Rs Int32
  | 0, _, _, _, _ => none
  | n + 1, v1, v2, v3, M => bnd (fn_Se_size v0 M) (fun r12 M12 => if r12 ≤ v3 then (some (.inl v2, M12)) else (bnd (fn_Se_at v0 v3 M12) (fun r25 M25 => li (((imax v1 0) + r25)) (fun x1_29 => li ((imax v2 x1_29)) (fun x2_35 => li (v3 + 1) (fun x3_36 => fn_Ra_bestTotal_10 v0 n x1_29 x2_35 x3_36 M25))))))
noncomputable def fn_Ra_bestTotal (v0 : Nat) (M : Mm) : Rs Int32 := grd (isSer v0) (bnd (fn_Se_at v0 0 M) (fun r2 M2 => fn_Ra_bestTotal_10 v0 fuel0 r2 r2 1 M2))
noncomputable def fn_Ra_bestTotalByRanges_51 (k8 : Int32 → Int32 → Mm → Rs Int32) (v0 : Nat) (v1 : Int32) (v2 : Int32) (M : Mm) : Rs Int32 := li (v2 + 1) (fun x2_51 => k8 v1 x2_51 M)
noncomputable def fn_Ra_bestTotalByRanges_21 (k8 : Int32 → Int32 → Mm → Rs Int32) (v0 : Nat) (v2 : Int32) : Nat → Int32 → Int32 → Int32 → Mm → Rs Int32
  | 0, _, _, _, _ => none
  | n + 1, v1, v3, v4, M => bnd (fn_Se_size v0 M) (fun r24 M24 => if r24 ≤ v4 then (fn_Ra_bestTotalByRanges_51 k8 v0 v1 v2 M24) else (bnd (fn_Se_at v0 v4 M24) (fun r34 M34 => li ((v3 + r34)) (fun x3_38 => li ((imax v1 x3_38)) (fun x1_44 => li (v4 + 1) (fun x4_45 => fn_Ra_bestTotalByRanges_21 k8 v0 v2 n x1_44 x3_38 x4_45 M34))))))
noncomputable def fn_Ra_bestTotalByRanges_8 (v0 : Nat) : Nat → Int32 → Int32 → Mm → Rs Int32
  | 0, _, _, _ => none
  | n + 1, v1, v2, M => bnd (fn_Se_size v0 M) (fun r10 M10 => if r10 ≤ v2 then (some (.inl v1, M10)) else (fn_Ra_bestTotalByRanges_21 (fn_Ra_bestTotalByRanges_8 v0 n) v0 v2 fuel0 v1 0 v2 M10))
noncomputable def fn_Ra_bestTotalByRanges (v0 : Nat) (M : Mm) : Rs Int32 := grd (isSer v0) (bnd (fn_Se_at v0 0 M) (fun r2 M2 => fn_Ra_bestTotalByRanges_8 v0 fuel0 r2 0 M2))
noncomputable def fn_Ra_endOfTotal_5 (v0 : Nat) (v2 : Int32) : Nat → Int32 → Int32 → Mm → Rs Int32
  | 0, _, _, _ => none
  | n + 1, v3, v4, M => bnd (fn_Se_size v0 M) (fun r8 M8 => if r8 ≤ v4 then (some (.inl (-1), M8)) else (bnd (fn_Se_at v0 v4 M8) (fun r18 M18 => li ((v3 + r18)) (fun x3_22 => if x3_22 = v2 then (some (.inl v4, M18)) else (li (v4 + 1) (fun x4_31 => fn_Ra_endOfTotal_5 v0 v2 n x3_22 x4_31 M18))))))
noncomputable def fn_Ra_endOfTotal (v0 : Nat) (v1 : Int32) (v2 : Int32) (M : Mm) : Rs Int32 := grd (isSer v0) (fn_Ra_endOfTotal_5 v0 v2 fuel0 0 v1 M)
noncomputable def fn_Ra_firstOfBest_7 (v0 : Nat) (v1 : Int32) : Nat → Int32 → Mm → Rs Int32
  | 0, _, _ => none
  | n + 1, v2, M => bnd (fn_Se_size v0 M) (fun r9 M9 => if r9 ≤ v2 then (some (.inl (-1), M9)) else (bnd (fn_Ra_endOfTotal v0 v2 v1 M9) (fun r18 M18 => if r18 = (-1) then (li (v2 + 1) (fun x2_27 => fn_Ra_firstOfBest_7 v0 v1 n x2_27 M18)) else (some (.inl v2, M18)))))
noncomputable def fn_Ra_firstOfBest (v0 : Nat) (M : Mm) : Rs Int32 := grd (isSer v0) (bnd (fn_Ra_bestTotal v0 M) (fun r1 M1 => fn_Ra_firstOfBest_7 v0 r1 fuel0 0 M1))
noncomputable def fn_Ra_lastOfBest (v0 : Nat) (M : Mm) : Rs Int32 := grd (isSer v0) (bnd (fn_Ra_firstOfBest v0 M) (fun r2 M2 => bnd (fn_Ra_bestTotal v0 M2) (fun r6 M6 => bnd (fn_Ra_endOfTotal v0 r2 r6 M6) (fun r9 M9 => some (.inl r9, M9)))))
noncomputable def fn_Ra_merge_101 (k12 : Int32 → Int32 → Int32 → Int32 → Mm → Rs Int32) (v0 : Nat) (v1 : Nat) (v2 : Int32) (v3 : Int32) (v4 : Int32) (v5 : Int32) (v6 : Int32) (v7 : Int32) (v8 : Int32) (M : Mm) : Rs Int32 := li (v8 + 1) (fun x8_101 => k12 v5 v6 v7 x8_101 M)
noncomputable def fn_Ra_merge_52 (k12 : Int32 → Int32 → Int32 → Int32 → Mm → Rs Int32) (v0 : Nat) (v1 : Nat) (v2 : Int32) (v3 : Int32) (v4 : Int32) (v5 : Int32) (v6 : Int32) (v7 : Int32) (v8 : Int32) (s0 : Int32) (M : Mm) : Rs Int32 := if s0 = 0 then (bnd (fn_SA_read v0 v6 M) (fun r92 M92 => bnd (fn_SA_write v1 v8 r92 M92) (fun r95 M95 => li (v6 + 1) (fun x6_98 => fn_Ra_merge_101 k12 v0 v1 v2 v3 v4 v5 x6_98 v7 v8 M95)))) else (bnd (fn_SA_read v0 v7 M) (fun r65 M65 => bnd (fn_SA_write v1 v8 r65 M65) (fun r68 M68 => li (v7 + 1) (fun x7_71 => li ((v5 + (v3 - v6))) (fun x5_81 => fn_Ra_merge_101 k12 v0 v1 v2 v3 v4 x5_81 v6 x7_71 v8 M68)))))
noncomputable def fn_Ra_merge_47 (k12 : Int32 → Int32 → Int32 → Int32 → Mm → Rs Int32) (v0 : Nat) (v1 : Nat) (v2 : Int32) (v3 : Int32) (v4 : Int32) (v5 : Int32) (v6 : Int32) (v7 : Int32) (v8 : Int32) (M : Mm) : Rs Int32 := fn_Ra_merge_52 k12 v0 v1 v2 v3 v4 v5 v6 v7 v8 1 M
noncomputable def fn_Ra_merge_51 (k12 : Int32 → Int32 → Int32 → Int32 → Mm → Rs Int32) (v0 : Nat) (v1 : Nat) (v2 : Int32) (v3 : Int32) (v4 : Int32) (v5 : Int32) (v6 : Int32) (v7 : Int32) (v8 : Int32) (M : Mm) : Rs Int32 := fn_Ra_merge_52 k12 v0 v1 v2 v3 v4 v5 v6 v7 v8 0 M
noncomputable def fn_Ra_merge_110 (v0 : Nat) (v1 : Nat) (v4 : Int32) (v5 : Int32) : Nat → Int32 → Mm → Rs Int32
  | 0, _, _ => none
  | n + 1, v8, M => if v4 ≤ v8 then (some (.inl v5, M)) else (bnd (fn_SA_read v1 v8 M) (fun r123 M123 => bnd (fn_SA_write v0 v8 r123 M123) (fun r126 M126 => li (v8 + 1) (fun x8_129 => fn_Ra_merge_110 v0 v1 v4 v5 n x8_129 M126))))
noncomputable def fn_Ra_merge_107 (v0 : Nat) (v1 : Nat) (v2 : Int32) (v4 : Int32) (v5 : Int32) (M : Mm) : Rs Int32 := fn_Ra_merge_110 v0 v1 v4 v5 fuel0 v2 M
noncomputable def fn_Ra_merge_12 (v0 : Nat) (v1 : Nat) (v2 : Int32) (v3 : Int32) (v4 : Int32) : Nat → Int32 → Int32 → Int32 → Int32 → Mm → Rs Int32
  | 0, _, _, _, _, _ => none
  | n + 1, v5, v6, v7, v8, M => if v4 ≤ v8 then (fn_Ra_merge_107 v0 v1 v2 v4 v5 M) else (if v3 ≤ v6 then (fn_Ra_merge_47 (fn_Ra_merge_12 v0 v1 v2 v3 v4 n) v0 v1 v2 v3 v4 v5 v6 v7 v8 M) else (if v4 ≤ v7 then (fn_Ra_merge_51 (fn_Ra_merge_12 v0 v1 v2 v3 v4 n) v0 v1 v2 v3 v4 v5 v6 v7 v8 M) else (bnd (fn_SA_read v0 v6 M) (fun r35 M35 => bnd (fn_SA_read v0 v7 M35) (fun r41 M41 => if r35 ≤ r41 then (fn_Ra_merge_51 (fn_Ra_merge_12 v0 v1 v2 v3 v4 n) v0 v1 v2 v3 v4 v5 v6 v7 v8 M41) else (fn_Ra_merge_47 (fn_Ra_merge_12 v0 v1 v2 v3 v4 n) v0 v1 v2 v3 v4 v5 v6 v7 v8 M41))))))
noncomputable def fn_Ra_merge (v0 : Nat) (v1 : Nat) (v2 : Int32) (v3 : Int32) (v4 : Int32) (M : Mm) : Rs Int32 := grd (isIA v0) (grd (isIA v1) (fn_Ra_merge_12 v0 v1 v2 v3 v4 fuel0 0 v2 v3 v2 M))
noncomputable def fn_Ra_sortHalves : Nat → Nat → Nat → Int32 → Int32 → Int32 → Mm → Rs Int32
  | 0, _, _, _, _, _, _ => none
  | n + 1, v0, v1, v2, v3, v4, M => grd (isIA v0) (grd (isIA v1) (if (v3 - v2) < 2 then (some (.inl 0, M)) else (if v4 ≤ 40 then (li ((v2 + ((v3 - v2) / 2))) (fun x5_23 => bnd ((fn_Ra_sortHalves n) v0 v1 v2 x5_23 (v4 + 1) M) (fun r34 M34 => bnd ((fn_Ra_sortHalves n) v0 v1 x5_23 v3 (v4 + 1) M34) (fun r50 M50 => li ((r34 + r50)) (fun x6_54 => bnd (fn_Ra_merge v0 v1 v2 x5_23 v3 M50) (fun r64 M64 => some (.inl (x6_54 + r64), M64))))))) else (some (.inl 0, M)))))
noncomputable def fn_Ra_fallingPairs_29 (v1 : Nat) (M : Mm) : Rs Int32 := bnd (fn_Se_size v1 M) (fun r39 M39 => bnd (fn_Ra_sortHalves 45 24 25 0 r39 0 M39) (fun r43 M43 => some (.inl r43, M43)))
noncomputable def fn_Ra_fallingPairs_2 (v1 : Nat) : Nat → Int32 → Mm → Rs Int32
  | 0, _, _ => none
  | n + 1, v2, M => bnd (fn_Se_size v1 M) (fun r4 M4 => if r4 ≤ v2 then (fn_Ra_fallingPairs_29 v1 M4) else (bnd (fn_Se_at v1 v2 M4) (fun r17 M17 => bnd (fn_SA_write 24 v2 r17 M17) (fun r20 M20 => li (v2 + 1) (fun x2_23 => fn_Ra_fallingPairs_2 v1 n x2_23 M20)))))
noncomputable def fn_Ra_fallingPairs (v1 : Nat) (M : Mm) : Rs Int32 := grd (isSer v1) (fn_Ra_fallingPairs_2 v1 fuel0 0 M)
noncomputable def fn_Ra_fallingPairsByPairs_43 (k4 : Int32 → Int32 → Mm → Rs Int32) (k16 : Int32 → Int32 → Mm → Rs Int32) (v0 : Nat) (v2 : Int32) (v3 : Int32) (s0 : Int32) (s1 : Int32) (M : Mm) : Rs Int32 := li ((s0 + s1)) (fun x1_44 => li (v3 + 1) (fun x3_45 => k16 x1_44 x3_45 M))
noncomputable def fn_Ra_fallingPairsByPairs_51 (k4 : Int32 → Int32 → Mm → Rs Int32) (v0 : Nat) (v1 : Int32) (v2 : Int32) (M : Mm) : Rs Int32 := li (v2 + 1) (fun x2_51 => k4 v1 x2_51 M)
noncomputable def fn_Ra_fallingPairsByPairs_16 (k4 : Int32 → Int32 → Mm → Rs Int32) (v0 : Nat) (v2 : Int32) : Nat → Int32 → Int32 → Mm → Rs Int32
  | 0, _, _, _ => none
  | n + 1, v1, v3, M => bnd (fn_Se_size v0 M) (fun r18 M18 => if r18 ≤ v3 then (fn_Ra_fallingPairsByPairs_51 k4 v0 v1 v2 M18) else (bnd (fn_Se_at v0 v2 M18) (fun r27 M27 => bnd (fn_Se_at v0 v3 M27) (fun r32 M32 => if r27 ≤ r32 then (fn_Ra_fallingPairsByPairs_43 k4 (fn_Ra_fallingPairsByPairs_16 k4 v0 v2 n) v0 v2 v3 v1 0 M32) else (fn_Ra_fallingPairsByPairs_43 k4 (fn_Ra_fallingPairsByPairs_16 k4 v0 v2 n) v0 v2 v3 v1 1 M32)))))
noncomputable def fn_Ra_fallingPairsByPairs_4 (v0 : Nat) : Nat → Int32 → Int32 → Mm → Rs Int32
  | 0, _, _, _ => none
  | n + 1, v1, v2, M => bnd (fn_Se_size v0 M) (fun r6 M6 => if r6 ≤ v2 then (some (.inl v1, M6)) else (li ((v2 + 1)) (fun x3_15 => fn_Ra_fallingPairsByPairs_16 (fn_Ra_fallingPairsByPairs_4 v0 n) v0 v2 fuel0 v1 x3_15 M6)))
noncomputable def fn_Ra_fallingPairsByPairs (v0 : Nat) (M : Mm) : Rs Int32 := grd (isSer v0) (fn_Ra_fallingPairsByPairs_4 v0 fuel0 0 0 M)
noncomputable def fn_Se_total_5 (v0 : Nat) (v2 : Int32) : Nat → Int32 → Int32 → Mm → Rs Int32
  | 0, _, _, _ => none
  | n + 1, v3, v4, M => if v2 < v4 then (some (.inl v3, M)) else (bnd (fn_Se_at v0 v4 M) (fun r15 M15 => li ((v3 + r15)) (fun x3_19 => li (v4 + 1) (fun x4_20 => fn_Se_total_5 v0 v2 n x3_19 x4_20 M15))))
noncomputable def fn_Se_total (v0 : Nat) (v1 : Int32) (v2 : Int32) (M : Mm) : Rs Int32 := grd (isSer v0) (fn_Se_total_5 v0 v2 fuel0 0 v1 M)
noncomputable def fn_Ra_agreeOn_78 (M : Mm) : Rs Int32 := some (.inl 1, M)
noncomputable def fn_Ra_agreeOn_48 (v1 : Nat) (M : Mm) : Rs Int32 := bnd (fn_Ra_fallingPairs v1 M) (fun r50 M50 => bnd (fn_Ra_fallingPairsByPairs v1 M50) (fun r54 M54 => if r50 = r54 then (bnd (fn_Se_isEmpty v1 M54) (fun r61 M61 => if r61 = 0 then (bnd (fn_Ra_bestTotal v1 M61) (fun r68 M68 => bnd (fn_Ra_bestTotalByRanges v1 M68) (fun r72 M72 => if r68 = r72 then (fn_Ra_agreeOn_78 M72) else (some (.inl 0, M72))))) else (fn_Ra_agreeOn_78 M61))) else (some (.inl 0, M54))))
noncomputable def fn_Ra_agreeOn_2 (v1 : Nat) : Nat → Int32 → Mm → Rs Int32
  | 0, _, _ => none
  | n + 1, v2, M => bnd (fn_Se_size v1 M) (fun r4 M4 => if r4 ≤ v2 then (fn_Ra_agreeOn_48 v1 M4) else (bnd (fn_Se_total v1 0 v2 M4) (fun r13 M13 => bnd (fn_Ra_totalByTree v1 0 v2 M13) (fun r20 M20 => if r13 = r20 then (bnd (fn_Ra_nextAbove v1 v2 M20) (fun r29 M29 => bnd (fn_Ra_nextAboveByScan v1 v2 M29) (fun r34 M34 => if r29 = r34 then (li (v2 + 1) (fun x2_42 => fn_Ra_agreeOn_2 v1 n x2_42 M34)) else (some (.inl 0, M34))))) else (some (.inl 0, M20))))))
noncomputable def fn_Ra_agreeOn (v1 : Nat) (M : Mm) : Rs Int32 := grd (isSer v1) (fn_Ra_agreeOn_2 v1 fuel0 0 M)
noncomputable def fn_Se_isFull (v0 : Nat) (M : Mm) : Rs Int32 := grd (isSer v0) (if (M v0 1) < 20 then (some (.inl 0, M)) else (some (.inl 1, M)))
noncomputable def fn_Se_add (v0 : Nat) (v1 : Int32) (M : Mm) : Rs Unit := grd (isSer v0) (bnd (fn_Se_isFull v0 M) (fun r1 M1 => if r1 = 0 then (bnd (fn_Se_put v0 (M1 v0 1) v1 M1) (fun r13 M13 => lm (mset M13 v0 1 ((M13 v0 1) + 1)) (fun M23 => some (.inl (), M23)))) else (some (.inl (), M1))))
noncomputable def fn_Se_dropFirst_28 (v0 : Nat) (v1 : Int32) (M : Mm) : Rs Unit := lm (mset M v0 1 ((M v0 1) - v1)) (fun M35 => some (.inl (), M35))
noncomputable def fn_Se_dropFirst_2 (v0 : Nat) (v1 : Int32) : Nat → Int32 → Mm → Rs Unit
  | 0, _, _ => none
  | n + 1, v2, M => if (M v0 1) ≤ v2 then (fn_Se_dropFirst_28 v0 v1 M) else (bnd (fn_Se_at v0 v2 M) (fun r16 M16 => bnd (fn_Se_put v0 (v2 - v1) r16 M16) (fun r19 M19 => li (v2 + 1) (fun x2_22 => fn_Se_dropFirst_2 v0 v1 n x2_22 M19))))
noncomputable def fn_Se_dropFirst (v0 : Nat) (v1 : Int32) (M : Mm) : Rs Unit := grd (isSer v0) (fn_Se_dropFirst_2 v0 v1 fuel0 v1 M)
noncomputable def fn_Se_become_26 (v0 : Nat) (v1 : Nat) (M : Mm) : Rs Unit := lm (mset M v0 1 (M v1 1)) (fun M31 => some (.inl (), M31))
noncomputable def fn_Se_become_2 (v0 : Nat) (v1 : Nat) : Nat → Int32 → Mm → Rs Unit
  | 0, _, _ => none
  | n + 1, v2, M => if (M v1 1) ≤ v2 then (fn_Se_become_26 v0 v1 M) else (bnd (fn_Se_at v1 v2 M) (fun r14 M14 => bnd (fn_Se_put v0 v2 r14 M14) (fun r17 M17 => li (v2 + 1) (fun x2_20 => fn_Se_become_2 v0 v1 n x2_20 M17))))
noncomputable def fn_Se_become (v0 : Nat) (v1 : Nat) (M : Mm) : Rs Unit := grd (isSer v0) (grd (isSer v1) (fn_Se_become_2 v0 v1 fuel0 0 M))
noncomputable def fn_Se_replace (v0 : Nat) (v1 : Int32) (v2 : Int32) (M : Mm) : Rs Int32 := grd (isSer v0) (bnd (fn_Se_at v0 v1 M) (fun r2 M2 => bnd (fn_Se_put v0 v1 v2 M2) (fun r9 M9 => some (.inl r2, M9))))
noncomputable def fn_Se_turn_57 (k11 : Int32 → Int32 → Mm → Rs Int32) (v0 : Nat) (v2 : Int32) (v3 : Int32) (s0 : Int32) (s1 : Int32) (M : Mm) : Rs Int32 := li ((s0 + s1)) (fun x1_58 => li (v3 + 1) (fun x3_59 => k11 x1_58 x3_59 M))
noncomputable def fn_Se_turn_11 (v0 : Nat) (v2 : Int32) : Nat → Int32 → Int32 → Mm → Rs Int32
  | 0, _, _, _ => none
  | n + 1, v1, v3, M => if (v2 - v3) ≤ v3 then (some (.inl v1, M)) else (bnd (fn_Se_at v0 (v2 - v3) M) (fun r24 M24 => bnd (fn_Se_replace v0 v3 r24 M24) (fun r27 M27 => bnd (fn_Se_put v0 (v2 - v3) r27 M27) (fun r38 M38 => bnd (fn_Se_at v0 v3 M38) (fun r44 M44 => if r44 = r27 then (fn_Se_turn_57 (fn_Se_turn_11 v0 v2 n) v0 v2 v3 v1 0 M44) else (fn_Se_turn_57 (fn_Se_turn_11 v0 v2 n) v0 v2 v3 v1 2 M44))))))
noncomputable def fn_Se_turn (v0 : Nat) (M : Mm) : Rs Int32 := grd (isSer v0) (li (((M v0 1) - 1)) (fun x2_8 => fn_Se_turn_11 v0 x2_8 fuel0 0 0 M))
noncomputable def fn_SA_isValue (v0 : Int32) (M : Mm) : Rs Int32 := if v0 < (-99) then (some (.inl 0, M)) else (if 99 < v0 then (some (.inl 0, M)) else (some (.inl 1, M)))
noncomputable def fn_Se_canRise_2 (v0 : Nat) (v1 : Int32) : Nat → Int32 → Mm → Rs Int32
  | 0, _, _ => none
  | n + 1, v2, M => if (M v0 1) ≤ v2 then (some (.inl 1, M)) else (bnd (fn_Se_at v0 v2 M) (fun r12 M12 => bnd (fn_SA_isValue (r12 + v1) M12) (fun r17 M17 => if r17 = 0 then (some (.inl 0, M17)) else (li (v2 + 1) (fun x2_25 => fn_Se_canRise_2 v0 v1 n x2_25 M17)))))
noncomputable def fn_Se_canRise (v0 : Nat) (v1 : Int32) (M : Mm) : Rs Int32 := grd (isSer v0) (fn_Se_canRise_2 v0 v1 fuel0 0 M)
noncomputable def fn_Se_rise_28 (v0 : Nat) (M : Mm) : Rs Int32 := bnd (fn_Se_total v0 0 ((M v0 1) - 1) M) (fun r36 M36 => some (.inl r36, M36))
noncomputable def fn_Se_rise_2 (v0 : Nat) (v1 : Int32) : Nat → Int32 → Mm → Rs Int32
  | 0, _, _ => none
  | n + 1, v2, M => if (M v0 1) ≤ v2 then (fn_Se_rise_28 v0 M) else (bnd (fn_Se_at v0 v2 M) (fun r14 M14 => bnd (fn_Se_put v0 v2 (r14 + v1) M14) (fun r19 M19 => li (v2 + 1) (fun x2_22 => fn_Se_rise_2 v0 v1 n x2_22 M19))))
noncomputable def fn_Se_rise (v0 : Nat) (v1 : Int32) (M : Mm) : Rs Int32 := grd (isSer v0) (fn_Se_rise_2 v0 v1 fuel0 0 M)
noncomputable def fn_Ma_floorDiv (v0 : Int32) (v1 : Int32) (M : Mm) : Rs Int32 := grd (¬ v1 = 0) (li ((v0 / v1)) (fun x2_3 => if 0 ≤ (v0 ^^^ v1) then (some (.inl x2_3, M)) else (if (x2_3 * v1) = v0 then (some (.inl x2_3, M)) else (some (.inl (x2_3 - 1), M)))))
noncomputable def fn_Se_meanAround (v0 : Nat) (v1 : Int32) (v2 : Int32) (M : Mm) : Rs Int32 := grd (isSer v0) (li ((imax (v1 - v2) 0)) (fun x3_7 => li ((imin (v1 + v2) ((M v0 1) - 1))) (fun x4_20 => li (((x4_20 - x3_7) + 1)) (fun x5_28 => if 1 ≤ x5_28 then (bnd (fn_Se_total v0 x3_7 x4_20 M) (fun r44 M44 => bnd (fn_Ma_floorDiv r44 x5_28 M44) (fun r49 M49 => some (.inl r49, M49)))) else (some (.inl 0, M))))))
noncomputable def fn_Se_flatten_53 (k10 : Int32 → Int32 → Mm → Rs Int32) (v0 : Nat) (v1 : Int32) (v2 : Nat) (v4 : Int32) (s0 : Int32) (s1 : Int32) (M : Mm) : Rs Int32 := li ((s0 + s1)) (fun x3_54 => li (v4 + 1) (fun x4_55 => k10 x3_54 x4_55 M))
noncomputable def fn_Se_flatten_10 (v0 : Nat) (v1 : Int32) (v2 : Nat) : Nat → Int32 → Int32 → Mm → Rs Int32
  | 0, _, _, _ => none
  | n + 1, v3, v4, M => if (M v0 1) ≤ v4 then (some (.inl v3, M)) else (bnd (fn_Se_meanAround v2 v4 v1 M) (fun r26 M26 => bnd (fn_Se_put v0 v4 r26 M26) (fun r29 M29 => bnd (fn_Se_at v0 v4 M29) (fun r36 M36 => bnd (fn_Se_at v2 v4 M36) (fun r42 M42 => if r36 = r42 then (fn_Se_flatten_53 (fn_Se_flatten_10 v0 v1 v2 n) v0 v1 v2 v4 v3 0 M42) else (fn_Se_flatten_53 (fn_Se_flatten_10 v0 v1 v2 n) v0 v1 v2 v4 v3 1 M42))))))
noncomputable def fn_Se_flatten (v0 : Nat) (v1 : Int32) (v2 : Nat) (M : Mm) : Rs Int32 := grd (isSer v0) (grd (isSer v2) (bnd (fn_Se_become v2 v0 M) (fun r2 M2 => fn_Se_flatten_10 v0 v1 v2 fuel0 0 0 M2)))
noncomputable def fn_Se_hasSteps_37 (v0 : Nat) (M : Mm) : Rs Int32 := if (M v0 1) ≤ 0 then (some (.inl 0, M)) else (some (.inl 1, M))
noncomputable def fn_Se_hasSteps_2 (v0 : Nat) : Nat → Int32 → Mm → Rs Int32
  | 0, _, _ => none
  | n + 1, v1, M => if (M v0 1) ≤ v1 then (fn_Se_hasSteps_37 v0 M) else (bnd (fn_Se_at v0 v1 M) (fun r12 M12 => bnd (fn_Se_at v0 (v1 - 1) M12) (fun r19 M19 => bnd (fn_SA_isValue (r12 - r19) M19) (fun r23 M23 => if r23 = 0 then (some (.inl 0, M23)) else (li (v1 + 1) (fun x1_31 => fn_Se_hasSteps_2 v0 n x1_31 M23))))))
noncomputable def fn_Se_hasSteps (v0 : Nat) (M : Mm) : Rs Int32 := grd (isSer v0) (fn_Se_hasSteps_2 v0 fuel0 1 M)
noncomputable def fn_Se_becomeSteps_36 (v0 : Nat) (M : Mm) : Rs Int32 := lm (mset M v0 1 (imax ((M v0 1) - 1) 0)) (fun M47 => some (.inl (M47 v0 1), M47))
noncomputable def fn_Se_becomeSteps_2 (v0 : Nat) : Nat → Int32 → Mm → Rs Int32
  | 0, _, _ => none
  | n + 1, v1, M => if (M v0 1) ≤ v1 then (fn_Se_becomeSteps_36 v0 M) else (bnd (fn_Se_at v0 v1 M) (fun r16 M16 => bnd (fn_Se_at v0 (v1 - 1) M16) (fun r23 M23 => bnd (fn_Se_put v0 (v1 - 1) (r16 - r23) M23) (fun r27 M27 => li (v1 + 1) (fun x1_30 => fn_Se_becomeSteps_2 v0 n x1_30 M27)))))
noncomputable def fn_Se_becomeSteps (v0 : Nat) (M : Mm) : Rs Int32 := grd (isSer v0) (fn_Se_becomeSteps_2 v0 fuel0 1 M)
noncomputable def fn_Se_bound_53 (k5 : Int32 → Int32 → Mm → Rs Int32) (v0 : Nat) (v1 : Int32) (v2 : Int32) (v4 : Int32) (s0 : Int32) (s1 : Int32) (M : Mm) : Rs Int32 := li ((s0 + s1)) (fun x3_54 => li (v4 + 1) (fun x4_55 => k5 x3_54 x4_55 M))
noncomputable def fn_Se_bound_5 (v0 : Nat) (v1 : Int32) (v2 : Int32) : Nat → Int32 → Int32 → Mm → Rs Int32
  | 0, _, _, _ => none
  | n + 1, v3, v4, M => if (M v0 1) ≤ v4 then (some (.inl v3, M)) else (bnd (fn_Se_at v0 v4 M) (fun r20 M20 => bnd (fn_Se_replace v0 v4 (imin (imax r20 v1) v2) M20) (fun r31 M31 => bnd (fn_Se_at v0 v4 M31) (fun r40 M40 => if r40 = r31 then (fn_Se_bound_53 (fn_Se_bound_5 v0 v1 v2 n) v0 v1 v2 v4 v3 0 M40) else (fn_Se_bound_53 (fn_Se_bound_5 v0 v1 v2 n) v0 v1 v2 v4 v3 1 M40)))))
noncomputable def fn_Se_bound (v0 : Nat) (v1 : Int32) (v2 : Int32) (M : Mm) : Rs Int32 := grd (isSer v0) (fn_Se_bound_5 v0 v1 v2 fuel0 0 0 M)
noncomputable def fn_Se_countOver_27 (k4 : Int32 → Int32 → Mm → Rs Int32) (v0 : Nat) (v1 : Int32) (v3 : Int32) (s0 : Int32) (s1 : Int32) (M : Mm) : Rs Int32 := li ((s0 + s1)) (fun x2_28 => li (v3 + 1) (fun x3_29 => k4 x2_28 x3_29 M))
noncomputable def fn_Se_countOver_4 (v0 : Nat) (v1 : Int32) : Nat → Int32 → Int32 → Mm → Rs Int32
  | 0, _, _, _ => none
  | n + 1, v2, v3, M => if (M v0 1) ≤ v3 then (some (.inl v2, M)) else (bnd (fn_Se_at v0 v3 M) (fun r15 M15 => if r15 ≤ v1 then (fn_Se_countOver_27 (fn_Se_countOver_4 v0 v1 n) v0 v1 v3 v2 0 M15) else (fn_Se_countOver_27 (fn_Se_countOver_4 v0 v1 n) v0 v1 v3 v2 1 M15)))
noncomputable def fn_Se_countOver (v0 : Nat) (v1 : Int32) (M : Mm) : Rs Int32 := grd (isSer v0) (fn_Se_countOver_4 v0 v1 fuel0 0 0 M)
noncomputable def fn_Se_rankOf_61 (k4 : Int32 → Int32 → Mm → Rs Int32) (v0 : Nat) (v1 : Int32) (v3 : Int32) (s0 : Int32) (s1 : Int32) (M : Mm) : Rs Int32 := li ((s0 + s1)) (fun x2_62 => li (v3 + 1) (fun x3_63 => k4 x2_62 x3_63 M))
noncomputable def fn_Se_rankOf_48 (k4 : Int32 → Int32 → Mm → Rs Int32) (v0 : Nat) (v1 : Int32) (v2 : Int32) (v3 : Int32) (s0 : Int32) (M : Mm) : Rs Int32 := if s0 = 0 then (fn_Se_rankOf_61 k4 v0 v1 v3 v2 0 M) else (fn_Se_rankOf_61 k4 v0 v1 v3 v2 1 M)
noncomputable def fn_Se_rankOf_43 (k4 : Int32 → Int32 → Mm → Rs Int32) (v0 : Nat) (v1 : Int32) (v2 : Int32) (v3 : Int32) (M : Mm) : Rs Int32 := fn_Se_rankOf_48 k4 v0 v1 v2 v3 1 M
noncomputable def fn_Se_rankOf_47 (k4 : Int32 → Int32 → Mm → Rs Int32) (v0 : Nat) (v1 : Int32) (v2 : Int32) (v3 : Int32) (M : Mm) : Rs Int32 := fn_Se_rankOf_48 k4 v0 v1 v2 v3 0 M
noncomputable def fn_Se_rankOf_4 (v0 : Nat) (v1 : Int32) : Nat → Int32 → Int32 → Mm → Rs Int32
  | 0, _, _, _ => none
  | n + 1, v2, v3, M => if (M v0 1) ≤ v3 then (some (.inl v2, M)) else (bnd (fn_Se_at v0 v3 M) (fun r14 M14 => bnd (fn_Se_at v0 v1 M14) (fun r19 M19 => if r14 < r19 then (fn_Se_rankOf_43 (fn_Se_rankOf_4 v0 v1 n) v0 v1 v2 v3 M19) else (bnd (fn_Se_at v0 v3 M19) (fun r27 M27 => bnd (fn_Se_at v0 v1 M27) (fun r32 M32 => if r27 = r32 then (if v1 ≤ v3 then (fn_Se_rankOf_47 (fn_Se_rankOf_4 v0 v1 n) v0 v1 v2 v3 M32) else (fn_Se_rankOf_43 (fn_Se_rankOf_4 v0 v1 n) v0 v1 v2 v3 M32)) else (fn_Se_rankOf_47 (fn_Se_rankOf_4 v0 v1 n) v0 v1 v2 v3 M32)))))))
noncomputable def fn_Se_rankOf (v0 : Nat) (v1 : Int32) (M : Mm) : Rs Int32 := grd (isSer v0) (fn_Se_rankOf_4 v0 v1 fuel0 0 0 M)
noncomputable def fn_Se_indexOfRank_2 (v0 : Nat) (v1 : Int32) : Nat → Int32 → Mm → Rs Int32
  | 0, _, _ => none
  | n + 1, v2, M => if (M v0 1) ≤ v2 then (some (.inl (-1), M)) else (bnd (fn_Se_rankOf v0 v2 M) (fun r12 M12 => if r12 = v1 then (some (.inl v2, M12)) else (li (v2 + 1) (fun x2_21 => fn_Se_indexOfRank_2 v0 v1 n x2_21 M12))))
noncomputable def fn_Se_indexOfRank (v0 : Nat) (v1 : Int32) (M : Mm) : Rs Int32 := grd (isSer v0) (fn_Se_indexOfRank_2 v0 v1 fuel0 0 M)
noncomputable def fn_Se_runsAlong_15 (v0 : Nat) (v1 : Nat) : Nat → Int32 → Mm → Rs Int32
  | 0, _, _ => none
  | n + 1, v2, M => if (M v0 1) ≤ v2 then (some (.inl 1, M)) else (bnd (fn_Se_at v0 v2 M) (fun r25 M25 => bnd (fn_Se_at v1 v2 M25) (fun r30 M30 => bnd (fn_Se_at v0 0 M30) (fun r36 M36 => bnd (fn_Se_at v1 0 M36) (fun r41 M41 => if (r25 - r30) = (r36 - r41) then (li (v2 + 1) (fun x2_50 => fn_Se_runsAlong_15 v0 v1 n x2_50 M41)) else (some (.inl 0, M41)))))))
noncomputable def fn_Se_runsAlong (v0 : Nat) (v1 : Nat) (M : Mm) : Rs Int32 := grd (isSer v0) (grd (isSer v1) (if (M v0 1) = (M v1 1) then (fn_Se_runsAlong_15 v0 v1 fuel0 1 M) else (some (.inl 0, M))))
noncomputable def fn_Se_isSameAs_28 (M : Mm) : Rs Int32 := some (.inl 1, M)
noncomputable def fn_Se_isSameAs (v0 : Nat) (v1 : Nat) (M : Mm) : Rs Int32 := grd (isSer v0) (grd (isSer v1) (bnd (fn_Se_runsAlong v0 v1 M) (fun r2 M2 => if r2 = 0 then (some (.inl 0, M2)) else (if (M2 v0 1) = 0 then (fn_Se_isSameAs_28 M2) else (bnd (fn_Se_at v0 0 M2) (fun r17 M17 => bnd (fn_Se_at v1 0 M17) (fun r22 M22 => if r17 = r22 then (fn_Se_isSameAs_28 M22) else (some (.inl 0, M22)))))))))
noncomputable def fn_Se_neverFalls_2 (v0 : Nat) : Nat → Int32 → Mm → Rs Int32
  | 0, _, _ => none
  | n + 1, v1, M => if (M v0 1) ≤ v1 then (some (.inl 1, M)) else (bnd (fn_Se_at v0 v1 M) (fun r12 M12 => bnd (fn_Se_at v0 (v1 - 1) M12) (fun r19 M19 => if r19 ≤ r12 then (li (v1 + 1) (fun x1_27 => fn_Se_neverFalls_2 v0 n x1_27 M19)) else (some (.inl 0, M19)))))
noncomputable def fn_Se_neverFalls (v0 : Nat) (M : Mm) : Rs Int32 := grd (isSer v0) (fn_Se_neverFalls_2 v0 fuel0 1 M)
noncomputable def fn_St_appendedCount (M : Mm) : Rs Int32 := some (.inl (M 1 5), M)
noncomputable def fn_St_valueCount_4 : Nat → Int32 → Int32 → Mm → Rs Int32
  | 0, _, _, _ => none
  | n + 1, v1, v2, M => if 4 ≤ v2 then (some (.inl v1, M)) else (bnd (fn_St_at v2 M) (fun r12 M12 => grd (isSer r12) (bnd (fn_Se_size r12 M12) (fun r15 M15 => li ((v1 + r15)) (fun x1_19 => li (v2 + 1) (fun x2_20 => fn_St_valueCount_4 n x1_19 x2_20 M15))))))
noncomputable def fn_St_valueCount (M : Mm) : Rs Int32 := fn_St_valueCount_4 fuel0 0 0 M
noncomputable def fn_St_positiveCount_4 : Nat → Int32 → Int32 → Mm → Rs Int32
  | 0, _, _, _ => none
  | n + 1, v1, v2, M => if 4 ≤ v2 then (some (.inl v1, M)) else (bnd (fn_St_at v2 M) (fun r12 M12 => grd (isSer r12) (bnd (fn_Se_countOver r12 0 M12) (fun r16 M16 => li ((v1 + r16)) (fun x1_20 => li (v2 + 1) (fun x2_21 => fn_St_positiveCount_4 n x1_20 x2_21 M16))))))
noncomputable def fn_St_positiveCount (M : Mm) : Rs Int32 := fn_St_positiveCount_4 fuel0 0 0 M
noncomputable def fn_St_argumentFault (v0 : Int32) (M : Mm) : Rs Nat := if v0 = 0 then (some (.inl 2, M)) else (some (.inl 0, M))
noncomputable def fn_St_stateFault (v0 : Int32) (M : Mm) : Rs Nat := if v0 = 0 then (some (.inl 3, M)) else (some (.inl 0, M))
noncomputable def fn_SA_isSlot (v0 : Int32) (M : Mm) : Rs Int32 := if v0 < 0 then (some (.inl 0, M)) else (if 4 ≤ v0 then (some (.inl 0, M)) else (some (.inl 1, M)))
noncomputable def fn_St_faultOf_102 (s0 : Int32) (M : Mm) : Rs Nat := bnd (fn_St_stateFault s0 M) (fun r102 M102 => grd (r102 < 4) (some (.inl r102, M102)))
noncomputable def fn_St_faultOf_149 (s0 : Int32) (M : Mm) : Rs Nat := bnd (fn_St_argumentFault s0 M) (fun r149 M149 => grd (r149 < 4) (some (.inl r149, M149)))
noncomputable def fn_St_faultOf_148 (M : Mm) : Rs Nat := fn_St_faultOf_149 0 M
noncomputable def fn_St_faultOf_209 (s0 : Int32) (M : Mm) : Rs Nat := bnd (fn_St_argumentFault s0 M) (fun r209 M209 => grd (r209 < 4) (some (.inl r209, M209)))
noncomputable def fn_St_faultOf_208 (M : Mm) : Rs Nat := fn_St_faultOf_209 0 M
noncomputable def fn_St_faultOf_248 (s0 : Int32) (M : Mm) : Rs Nat := bnd (fn_St_argumentFault s0 M) (fun r248 M248 => grd (r248 < 4) (some (.inl r248, M248)))
noncomputable def fn_St_faultOf_247 (M : Mm) : Rs Nat := fn_St_faultOf_248 0 M
noncomputable def fn_St_faultOf (v1 : Nat) (v2 : Int32) (v3 : Int32) (v4 : Int32) (M : Mm) : Rs Nat := grd (v1 < 9) (bnd (fn_SA_isSlot v2 M) (fun r1 M1 => if r1 = 0 then (some (.inl 1, M1)) else (bnd (fn_St_at v2 M1) (fun r13 M13 => grd (isSer r13) (if (zz_sw v1) = 1 then (bnd (fn_SA_isValue v3 M13) (fun r77 M77 => if r77 = 0 then (some (.inl 2, M77)) else (bnd (fn_Se_isFull r13 M77) (fun r91 M91 => if r91 = 0 then (fn_St_faultOf_102 1 M91) else (fn_St_faultOf_102 0 M91))))) else if (zz_sw v1) = 2 then (bnd (fn_Se_has r13 v3 M13) (fun r109 M109 => if r109 = 0 then (some (.inl 1, M109)) else (bnd (fn_SA_isValue v4 M109) (fun r123 M123 => bnd (fn_St_argumentFault r123 M123) (fun r126 M126 => grd (r126 < 4) (some (.inl r126, M126))))))) else if (zz_sw v1) = 3 then (if v3 < 1 then (fn_St_faultOf_148 M13) else (bnd (fn_Se_size r13 M13) (fun r138 M138 => if r138 < v3 then (fn_St_faultOf_148 M138) else (fn_St_faultOf_149 1 M138)))) else if (zz_sw v1) = 4 then (bnd (fn_SA_isSlot v3 M13) (fun r154 M154 => if r154 = 0 then (some (.inl 1, M154)) else (some (.inl 0, M154)))) else if (zz_sw v1) = 5 then (bnd (fn_SA_isValue v3 M13) (fun r171 M171 => if r171 = 0 then (some (.inl 2, M171)) else (bnd (fn_Se_canRise r13 v3 M171) (fun r186 M186 => bnd (fn_St_stateFault r186 M186) (fun r189 M189 => grd (r189 < 4) (some (.inl r189, M189))))))) else if (zz_sw v1) = 6 then (if v3 < 1 then (fn_St_faultOf_208 M13) else (if 9 < v3 then (fn_St_faultOf_208 M13) else (fn_St_faultOf_209 1 M13))) else if (zz_sw v1) = 7 then (bnd (fn_Se_hasSteps r13 M13) (fun r215 M215 => bnd (fn_St_stateFault r215 M215) (fun r218 M218 => grd (r218 < 4) (some (.inl r218, M218))))) else if (zz_sw v1) = 8 then (bnd (fn_SA_isValue v3 M13) (fun r223 M223 => if r223 = 0 then (fn_St_faultOf_247 M223) else (bnd (fn_SA_isValue v4 M223) (fun r231 M231 => if r231 = 0 then (fn_St_faultOf_247 M231) else (if v4 < v3 then (fn_St_faultOf_247 M231) else (fn_St_faultOf_248 1 M231)))))) else if (zz_sw v1) = 9 then (some (.inl 0, M13)) else (some (.inl 0, M13)))))))
noncomputable def fn_St_apply_153 (v3 : Int32) (v4 : Int32) (v5 : Nat) (M : Mm) : Rs Int32 := bnd (fn_Se_bound v5 v3 v4 M) (fun r158 M158 => some (.inl r158, M158))
noncomputable def fn_St_apply (v1 : Nat) (v2 : Int32) (v3 : Int32) (v4 : Int32) (M : Mm) : Rs Int32 := grd (v1 < 9) (bnd (fn_St_at v2 M) (fun r2 M2 => grd (isSer r2) (if (zz_sw v1) = 1 then (bnd (fn_Se_add r2 v3 M2) (fun r67 M67 => lm (mset M67 1 5 ((M67 1 5) + 1)) (fun M77 => bnd (fn_Se_size r2 M77) (fun r82 M82 => some (.inl r82, M82))))) else if (zz_sw v1) = 2 then (bnd (fn_Se_replace r2 v3 v4 M2) (fun r91 M91 => some (.inl r91, M91))) else if (zz_sw v1) = 3 then (bnd (fn_Se_dropFirst r2 v3 M2) (fun r98 M98 => bnd (fn_Se_size r2 M98) (fun r103 M103 => some (.inl r103, M103)))) else if (zz_sw v1) = 4 then (bnd (fn_St_at v3 M2) (fun r111 M111 => grd (isSer r111) (bnd (fn_Se_become r2 r111 M111) (fun r114 M114 => bnd (fn_Se_size r2 M114) (fun r119 M119 => some (.inl r119, M119)))))) else if (zz_sw v1) = 5 then (bnd (fn_Se_rise r2 v3 M2) (fun r132 M132 => some (.inl r132, M132))) else if (zz_sw v1) = 6 then (bnd (fn_Se_flatten r2 v3 6 M2) (fun r143 M143 => some (.inl r143, M143))) else if (zz_sw v1) = 7 then (bnd (fn_Se_becomeSteps r2 M2) (fun r149 M149 => some (.inl r149, M149))) else if (zz_sw v1) = 8 then (fn_St_apply_153 v3 v4 r2 M2) else if (zz_sw v1) = 9 then (bnd (fn_Se_turn r2 M2) (fun r125 M125 => some (.inl r125, M125))) else (fn_St_apply_153 v3 v4 r2 M2))))
noncomputable def fn_Wa_place (v0 : Int32) (v1 : Int32) (M : Mm) : Rs Int32 := some (.inl ((v0 * 20) + v1), M)
noncomputable def fn_Wa_costBefore_92 (s0 : Int32) (s1 : Int32) (M : Mm) : Rs Int32 := some (.inl (imin s0 s1), M)
noncomputable def fn_Wa_costBefore_90 (s0 : Int32) (M : Mm) : Rs Int32 := fn_Wa_costBefore_92 s0 1000000 M
noncomputable def fn_Wa_costBefore_58 (v1 : Int32) (v2 : Int32) (s0 : Int32) (s1 : Int32) (M : Mm) : Rs Int32 := li ((imin s0 s1)) (fun x3_61 => if v1 ≤ 0 then (fn_Wa_costBefore_90 x3_61 M) else (if v2 ≤ 0 then (fn_Wa_costBefore_90 x3_61 M) else (bnd (fn_Wa_place (v1 - 1) (v2 - 1) M) (fun r81 M81 => bnd (fn_SA_read 31 r81 M81) (fun r84 M84 => fn_Wa_costBefore_92 x3_61 r84 M84)))))
noncomputable def fn_Wa_costBefore_33 (v1 : Int32) (v2 : Int32) (s0 : Int32) (M : Mm) : Rs Int32 := if v2 ≤ 0 then (fn_Wa_costBefore_58 v1 v2 s0 1000000 M) else (bnd (fn_Wa_place v1 (v2 - 1) M) (fun r47 M47 => bnd (fn_SA_read 31 r47 M47) (fun r50 M50 => fn_Wa_costBefore_58 v1 v2 s0 r50 M50)))
noncomputable def fn_Wa_costBefore_10 (v1 : Int32) (v2 : Int32) (M : Mm) : Rs Int32 := if v1 ≤ 0 then (fn_Wa_costBefore_33 v1 v2 1000000 M) else (bnd (fn_Wa_place (v1 - 1) v2 M) (fun r22 M22 => bnd (fn_SA_read 31 r22 M22) (fun r25 M25 => fn_Wa_costBefore_33 v1 v2 r25 M25)))
noncomputable def fn_Wa_costBefore (v1 : Int32) (v2 : Int32) (M : Mm) : Rs Int32 := if v1 = 0 then (if v2 = 0 then (some (.inl 0, M)) else (fn_Wa_costBefore_10 v1 v2 M)) else (fn_Wa_costBefore_10 v1 v2 M)
noncomputable def fn_Wa_gap (v0 : Nat) (v1 : Nat) (v2 : Int32) (v3 : Int32) (M : Mm) : Rs Int32 := grd (isSer v0) (grd (isSer v1) (bnd (fn_Se_at v0 v2 M) (fun r2 M2 => bnd (fn_Se_at v1 v3 M2) (fun r7 M7 => some (.inl (iabs (r2 - r7)), M7)))))
noncomputable def fn_Wa_costByTable_57 (k2 : Int32 → Mm → Rs Int32) (v1 : Nat) (v2 : Nat) (v3 : Int32) (M : Mm) : Rs Int32 := li (v3 + 1) (fun x3_57 => k2 x3_57 M)
noncomputable def fn_Wa_costByTable_13 (k2 : Int32 → Mm → Rs Int32) (v1 : Nat) (v2 : Nat) (v3 : Int32) : Nat → Int32 → Mm → Rs Int32
  | 0, _, _ => none
  | n + 1, v4, M => bnd (fn_Se_size v2 M) (fun r16 M16 => if r16 ≤ v4 then (fn_Wa_costByTable_57 k2 v1 v2 v3 M16) else (bnd (fn_Wa_place v3 v4 M16) (fun r29 M29 => bnd (fn_Wa_gap v1 v2 v3 v4 M29) (fun r37 M37 => bnd (fn_Wa_costBefore v3 v4 M37) (fun r44 M44 => bnd (fn_SA_write 31 r29 (r37 + r44) M44) (fun r48 M48 => li (v4 + 1) (fun x4_51 => fn_Wa_costByTable_13 k2 v1 v2 v3 n x4_51 M48)))))))
noncomputable def fn_Wa_costByTable_63 (v1 : Nat) (v2 : Nat) (M : Mm) : Rs Int32 := bnd (fn_Se_size v1 M) (fun r68 M68 => bnd (fn_Se_size v2 M68) (fun r74 M74 => bnd (fn_Wa_place (r68 - 1) (r74 - 1) M74) (fun r79 M79 => bnd (fn_SA_read 31 r79 M79) (fun r82 M82 => some (.inl r82, M82)))))
noncomputable def fn_Wa_costByTable_2 (v1 : Nat) (v2 : Nat) : Nat → Int32 → Mm → Rs Int32
  | 0, _, _ => none
  | n + 1, v3, M => bnd (fn_Se_size v1 M) (fun r4 M4 => if r4 ≤ v3 then (fn_Wa_costByTable_63 v1 v2 M4) else (fn_Wa_costByTable_13 (fn_Wa_costByTable_2 v1 v2 n) v1 v2 v3 fuel0 0 M4))
noncomputable def fn_Wa_costByTable (v1 : Nat) (v2 : Nat) (M : Mm) : Rs Int32 := grd (isSer v1) (grd (isSer v2) (fn_Wa_costByTable_2 v1 v2 fuel0 0 M))
noncomputable def fn_Wa_costFrom_24 (rec : Nat → Nat → Nat → Int32 → Int32 → Int32 → Mm → Rs Int32) (M : Mm) : Rs Int32 := some (.inl 1000000, M)
noncomputable def fn_Wa_costFrom_162 (rec : Nat → Nat → Nat → Int32 → Int32 → Int32 → Mm → Rs Int32) (v2 : Nat) (v3 : Int32) (v4 : Int32) (M : Mm) : Rs Int32 := bnd (fn_Wa_place v3 v4 M) (fun r166 M166 => bnd (fn_SA_read v2 r166 M166) (fun r169 M169 => some (.inl r169, M169)))
noncomputable def fn_Wa_costFrom_158 (rec : Nat → Nat → Nat → Int32 → Int32 → Int32 → Mm → Rs Int32) (v2 : Nat) (v3 : Int32) (v4 : Int32) (s0 : Nat) (s1 : Int32) (s2 : Int32) (s3 : Int32) (M : Mm) : Rs Int32 := bnd (fn_SA_write s0 s1 (s2 + s3) M) (fun r159 M159 => fn_Wa_costFrom_162 rec v2 v3 v4 M159)
noncomputable def fn_Wa_costFrom_130 (rec : Nat → Nat → Nat → Int32 → Int32 → Int32 → Mm → Rs Int32) (v0 : Nat) (v1 : Nat) (v2 : Nat) (v3 : Int32) (v4 : Int32) (v6 : Int32) (s0 : Int32) (M : Mm) : Rs Int32 := bnd (fn_Wa_place v3 v4 M) (fun r136 M136 => bnd (fn_Wa_gap v0 v1 v3 v4 M136) (fun r144 M144 => if s0 = 0 then (fn_Wa_costFrom_158 rec v2 v3 v4 v2 r136 r144 v6 M144) else (fn_Wa_costFrom_158 rec v2 v3 v4 v2 r136 r144 0 M144)))
noncomputable def fn_Wa_costFrom_129 (rec : Nat → Nat → Nat → Int32 → Int32 → Int32 → Mm → Rs Int32) (v0 : Nat) (v1 : Nat) (v2 : Nat) (v3 : Int32) (v4 : Int32) (v6 : Int32) (M : Mm) : Rs Int32 := fn_Wa_costFrom_130 rec v0 v1 v2 v3 v4 v6 0 M
noncomputable def fn_Wa_costFrom : Nat → Nat → Nat → Nat → Int32 → Int32 → Int32 → Mm → Rs Int32
  | 0, _, _, _, _, _, _, _ => none
  | n + 1, v0, v1, v2, v3, v4, v5, M => grd (isSer v0) (grd (isSer v1) (grd (isIA v2) (bnd (fn_Se_has v0 v3 M) (fun r2 M2 => if r2 = 0 then (fn_Wa_costFrom_24 (fn_Wa_costFrom n) M2) else (bnd (fn_Se_has v1 v4 M2) (fun r11 M11 => if r11 = 0 then (fn_Wa_costFrom_24 (fn_Wa_costFrom n) M11) else (if v5 ≤ 40 then (bnd (fn_Wa_place v3 v4 M11) (fun r31 M31 => bnd (fn_SA_read v2 r31 M31) (fun r34 M34 => if r34 = (-1) then (bnd ((fn_Wa_costFrom n) v0 v1 v2 (v3 + 1) v4 (v5 + 1) M34) (fun r53 M53 => bnd ((fn_Wa_costFrom n) v0 v1 v2 v3 (v4 + 1) (v5 + 1) M53) (fun r72 M72 => li ((imin r53 r72)) (fun x6_78 => bnd ((fn_Wa_costFrom n) v0 v1 v2 (v3 + 1) (v4 + 1) (v5 + 1) M72) (fun r96 M96 => li ((imin x6_78 r96)) (fun x6_102 => bnd (fn_Se_has v0 (v3 + 1) M96) (fun r108 M108 => if r108 = 0 then (bnd (fn_Se_has v1 (v4 + 1) M108) (fun r119 M119 => if r119 = 0 then (fn_Wa_costFrom_130 (fn_Wa_costFrom n) v0 v1 v2 v3 v4 x6_102 1 M119) else (fn_Wa_costFrom_129 (fn_Wa_costFrom n) v0 v1 v2 v3 v4 x6_102 M119))) else (fn_Wa_costFrom_129 (fn_Wa_costFrom n) v0 v1 v2 v3 v4 x6_102 M108)))))))) else (fn_Wa_costFrom_162 (fn_Wa_costFrom n) v2 v3 v4 M34)))) else (fn_Wa_costFrom_24 (fn_Wa_costFrom n) M11))))))))
noncomputable def fn_Wa_costByGoingOn_26 (v1 : Nat) (v2 : Nat) (M : Mm) : Rs Int32 := bnd (fn_Wa_costFrom 45 v1 v2 31 0 0 0 M) (fun r35 M35 => some (.inl r35, M35))
noncomputable def fn_Wa_costByGoingOn_2 (v1 : Nat) (v2 : Nat) : Nat → Int32 → Mm → Rs Int32
  | 0, _, _ => none
  | n + 1, v3, M => if 400 ≤ v3 then (fn_Wa_costByGoingOn_26 v1 v2 M) else (bnd (fn_SA_write 31 v3 (-1) M) (fun r17 M17 => li (v3 + 1) (fun x3_20 => fn_Wa_costByGoingOn_2 v1 v2 n x3_20 M17)))
noncomputable def fn_Wa_costByGoingOn (v1 : Nat) (v2 : Nat) (M : Mm) : Rs Int32 := grd (isSer v1) (grd (isSer v2) (fn_Wa_costByGoingOn_2 v1 v2 fuel0 0 M))
noncomputable def fn_SA_refuse (v0 : Nat) (M : Mm) : Rs Unit := grd (v0 < 4) (if v0 = 1 then (some (.inr 0, M)) else (if v0 = 2 then (some (.inr 1, M)) else (if v0 = 3 then (some (.inr 2, M)) else (some (.inl (), M)))))
noncomputable def fn_SA_change (v1 : Nat) (v2 : Int32) (v3 : Int32) (v4 : Int32) (M : Mm) : Rs Int32 := grd (v1 < 9) (bnd (fn_St_faultOf v1 v2 v3 v4 M) (fun r9 M9 => grd (r9 < 4) (bnd (fn_SA_refuse r9 M9) (fun r12 M12 => bnd (fn_Hi_keep M12) (fun r23 M23 => bnd (fn_St_apply v1 v2 v3 v4 M23) (fun r35 M35 => some (.inl r35, M35)))))))
noncomputable def fn_SA_append (v1 : Int32) (v2 : Int32) (M : Mm) : Rs Int32 := bnd (fn_SA_change 0 v1 v2 0 M) (fun r7 M7 => some (.inl r7, M7))
noncomputable def fn_SA_setValue (v1 : Int32) (v2 : Int32) (v3 : Int32) (M : Mm) : Rs Int32 := bnd (fn_SA_change 1 v1 v2 v3 M) (fun r7 M7 => some (.inl r7, M7))
noncomputable def fn_SA_removeFirst (v1 : Int32) (v2 : Int32) (M : Mm) : Rs Int32 := bnd (fn_SA_change 2 v1 v2 0 M) (fun r7 M7 => some (.inl r7, M7))
noncomputable def fn_SA_copy (v1 : Int32) (v2 : Int32) (M : Mm) : Rs Int32 := bnd (fn_SA_change 3 v1 v2 0 M) (fun r7 M7 => some (.inl r7, M7))
noncomputable def fn_SA_reverse (v1 : Int32) (M : Mm) : Rs Int32 := bnd (fn_SA_change 4 v1 0 0 M) (fun r7 M7 => some (.inl r7, M7))
noncomputable def fn_SA_shift (v1 : Int32) (v2 : Int32) (M : Mm) : Rs Int32 := bnd (fn_SA_change 5 v1 v2 0 M) (fun r7 M7 => some (.inl r7, M7))
noncomputable def fn_SA_smooth (v1 : Int32) (v2 : Int32) (M : Mm) : Rs Int32 := bnd (fn_SA_change 6 v1 v2 0 M) (fun r7 M7 => some (.inl r7, M7))
noncomputable def fn_SA_toSteps (v1 : Int32) (M : Mm) : Rs Int32 := bnd (fn_SA_change 7 v1 0 0 M) (fun r7 M7 => some (.inl r7, M7))
noncomputable def fn_SA_clip (v1 : Int32) (v2 : Int32) (v3 : Int32) (M : Mm) : Rs Int32 := bnd (fn_SA_change 8 v1 v2 v3 M) (fun r7 M7 => some (.inl r7, M7))
noncomputable def fn_SA_seriesIn (v1 : Int32) (M : Mm) : Rs Nat := bnd (fn_SA_isSlot v1 M) (fun r1 M1 => if r1 = 0 then (some (.inr 0, M1)) else (bnd (fn_St_at v1 M1) (fun r23 M23 => grd (isSer r23) (some (.inl r23, M23)))))
noncomputable def fn_SA_length (v1 : Int32) (M : Mm) : Rs Int32 := bnd (fn_SA_seriesIn v1 M) (fun r2 M2 => grd (isSer r2) (bnd (fn_Se_size r2 M2) (fun r5 M5 => some (.inl r5, M5))))
noncomputable def fn_SA_seriesWith (v1 : Int32) (v2 : Int32) (M : Mm) : Rs Nat := bnd (fn_SA_seriesIn v1 M) (fun r2 M2 => grd (isSer r2) (bnd (fn_Se_has r2 v2 M2) (fun r8 M8 => if r8 = 0 then (some (.inr 0, M8)) else (some (.inl r2, M8)))))
noncomputable def fn_SA_value (v1 : Int32) (v2 : Int32) (M : Mm) : Rs Int32 := bnd (fn_SA_seriesWith v1 v2 M) (fun r3 M3 => grd (isSer r3) (bnd (fn_Se_at r3 v2 M3) (fun r7 M7 => some (.inl r7, M7))))
noncomputable def fn_SA_seriesWithRange (v1 : Int32) (v2 : Int32) (v3 : Int32) (M : Mm) : Rs Nat := bnd (fn_SA_seriesIn v1 M) (fun r2 M2 => grd (isSer r2) (bnd (fn_Se_has r2 v2 M2) (fun r10 M10 => if r10 = 0 then (some (.inr 0, M10)) else (bnd (fn_Se_has r2 v3 M10) (fun r19 M19 => if r19 = 0 then (some (.inr 0, M19)) else (if v2 ≤ v3 then (some (.inl r2, M19)) else (some (.inr 0, M19))))))))
noncomputable def fn_SA_sum (v1 : Int32) (v2 : Int32) (v3 : Int32) (M : Mm) : Rs Int32 := bnd (fn_SA_seriesWithRange v1 v2 v3 M) (fun r4 M4 => grd (isSer r4) (bnd (fn_Se_total r4 v2 v3 M4) (fun r9 M9 => some (.inl r9, M9))))
noncomputable def fn_SA_sumByTree (v1 : Int32) (v2 : Int32) (v3 : Int32) (M : Mm) : Rs Int32 := bnd (fn_SA_seriesWithRange v1 v2 v3 M) (fun r8 M8 => grd (isSer r8) (bnd (fn_Ra_totalByTree r8 v2 v3 M8) (fun r13 M13 => some (.inl r13, M13))))
noncomputable def fn_SA_minimum (v1 : Int32) (v2 : Int32) (v3 : Int32) (M : Mm) : Rs Int32 := bnd (fn_SA_seriesWithRange v1 v2 v3 M) (fun r4 M4 => grd (isSer r4) (bnd (fn_Se_least r4 v2 v3 M4) (fun r9 M9 => some (.inl r9, M9))))
noncomputable def fn_SA_maximum (v1 : Int32) (v2 : Int32) (v3 : Int32) (M : Mm) : Rs Int32 := bnd (fn_SA_seriesWithRange v1 v2 v3 M) (fun r4 M4 => grd (isSer r4) (bnd (fn_Se_greatest r4 v2 v3 M4) (fun r9 M9 => some (.inl r9, M9))))
noncomputable def fn_SA_countAbove (v1 : Int32) (v2 : Int32) (M : Mm) : Rs Int32 := bnd (fn_SA_seriesIn v1 M) (fun r2 M2 => grd (isSer r2) (bnd (fn_Se_countOver r2 v2 M2) (fun r6 M6 => some (.inl r6, M6))))
noncomputable def fn_SA_valueByRank (v1 : Int32) (v2 : Int32) (M : Mm) : Rs Int32 := bnd (fn_SA_seriesIn v1 M) (fun r2 M2 => grd (isSer r2) (bnd (fn_Se_has r2 v2 M2) (fun r8 M8 => if r8 = 0 then (some (.inr 3, M8)) else (bnd (fn_Se_indexOfRank r2 v2 M8) (fun r27 M27 => bnd (fn_Se_at r2 r27 M27) (fun r30 M30 => some (.inl r30, M30)))))))
noncomputable def fn_SA_mean (v1 : Int32) (M : Mm) : Rs UInt64 := bnd (fn_SA_seriesIn v1 M) (fun r2 M2 => grd (isSer r2) (bnd (fn_Se_isEmpty r2 M2) (fun r7 M7 => if r7 = 0 then (bnd (fn_Se_size r2 M7) (fun r26 M26 => bnd (fn_Se_total r2 0 (r26 - 1) M26) (fun r31 M31 => bnd (fn_Se_size r2 M31) (fun r36 M36 => grd (zz_n64 (FP.ddiv (FP.i2d r31) (FP.i2d r36))) (some (.inl (FP.ddiv (FP.i2d r31) (FP.i2d r36)), M36)))))) else (some (.inr 4, M7)))))
noncomputable def fn_SA_seriesWithWindow (v1 : Int32) (v2 : Int32) (v3 : Int32) (M : Mm) : Rs Nat := bnd (fn_SA_seriesWith v1 v3 M) (fun r3 M3 => grd (isSer r3) (if v2 < 1 then (some (.inr 1, M3)) else (bnd (fn_Se_size r3 M3) (fun r16 M16 => if v2 ≤ r16 then (if 0 ≤ ((v3 - v2) + 1) then (some (.inl r3, M16)) else (some (.inr 3, M16))) else (some (.inr 1, M16))))))
noncomputable def fn_SA_windowMaximum (v1 : Int32) (v2 : Int32) (v3 : Int32) (M : Mm) : Rs Int32 := bnd (fn_SA_seriesWithWindow v1 v2 v3 M) (fun r8 M8 => grd (isSer r8) (bnd (fn_Ra_windowTop r8 v2 v3 M8) (fun r13 M13 => some (.inl r13, M13))))
noncomputable def fn_SA_windowMaximumByScan (v1 : Int32) (v2 : Int32) (v3 : Int32) (M : Mm) : Rs Int32 := bnd (fn_SA_seriesWithWindow v1 v2 v3 M) (fun r4 M4 => grd (isSer r4) (bnd (fn_Se_greatest r4 ((v3 - v2) + 1) v3 M4) (fun r13 M13 => some (.inl r13, M13))))
noncomputable def fn_SA_found (v0 : Int32) (M : Mm) : Rs Int32 := if v0 = (-1) then (some (.inr 3, M)) else (some (.inl v0, M))
noncomputable def fn_SA_nextGreater (v1 : Int32) (v2 : Int32) (M : Mm) : Rs Int32 := bnd (fn_SA_seriesWith v1 v2 M) (fun r7 M7 => grd (isSer r7) (bnd (fn_Ra_nextAbove r7 v2 M7) (fun r11 M11 => bnd (fn_SA_found r11 M11) (fun r14 M14 => some (.inl r14, M14)))))
noncomputable def fn_SA_nextGreaterByScan (v1 : Int32) (v2 : Int32) (M : Mm) : Rs Int32 := bnd (fn_SA_seriesWith v1 v2 M) (fun r3 M3 => grd (isSer r3) (bnd (fn_Ra_nextAboveByScan r3 v2 M3) (fun r7 M7 => bnd (fn_SA_found r7 M7) (fun r10 M10 => some (.inl r10, M10)))))
noncomputable def fn_SA_peakCount (v1 : Int32) (M : Mm) : Rs Int32 := bnd (fn_SA_seriesIn v1 M) (fun r2 M2 => grd (isSer r2) (bnd (fn_Pe_number r2 M2) (fun r5 M5 => some (.inl r5, M5))))
noncomputable def fn_SA_isPeak (v1 : Int32) (v2 : Int32) (M : Mm) : Rs Int32 := bnd (fn_SA_seriesWith v1 v2 M) (fun r3 M3 => grd (isSer r3) (bnd (fn_Pe_standsOut r3 v2 M3) (fun r7 M7 => grd (isZ r7) (some (.inl r7, M7)))))
noncomputable def fn_SA_seriesWithPeak (v1 : Int32) (v2 : Int32) (M : Mm) : Rs Nat := bnd (fn_SA_seriesWith v1 v2 M) (fun r3 M3 => grd (isSer r3) (bnd (fn_Pe_standsOut r3 v2 M3) (fun r9 M9 => if r9 = 0 then (some (.inr 3, M9)) else (some (.inl r3, M9)))))
noncomputable def fn_SA_prominence (v1 : Int32) (v2 : Int32) (M : Mm) : Rs Int32 := bnd (fn_SA_seriesWithPeak v1 v2 M) (fun r3 M3 => grd (isSer r3) (bnd (fn_Pe_heightBySides r3 v2 M3) (fun r7 M7 => some (.inl r7, M7))))
noncomputable def fn_SA_prominenceByLevels (v1 : Int32) (v2 : Int32) (M : Mm) : Rs Int32 := bnd (fn_SA_seriesWithPeak v1 v2 M) (fun r3 M3 => grd (isSer r3) (bnd (fn_Pe_heightByLevels r3 v2 M3) (fun r7 M7 => some (.inl r7, M7))))
noncomputable def fn_SA_peakByProminence (v1 : Int32) (v2 : Int32) (M : Mm) : Rs Int32 := bnd (fn_SA_seriesIn v1 M) (fun r2 M2 => grd (isSer r2) (bnd (fn_Pe_ofRank r2 v2 M2) (fun r6 M6 => bnd (fn_SA_found r6 M6) (fun r9 M9 => some (.inl r9, M9)))))
noncomputable def fn_SA_filledSeries (v1 : Int32) (M : Mm) : Rs Nat := bnd (fn_SA_seriesIn v1 M) (fun r2 M2 => grd (isSer r2) (bnd (fn_Se_isEmpty r2 M2) (fun r7 M7 => if r7 = 0 then (some (.inl r2, M7)) else (some (.inr 2, M7)))))
noncomputable def fn_SA_bestSum (v1 : Int32) (M : Mm) : Rs Int32 := bnd (fn_SA_filledSeries v1 M) (fun r2 M2 => grd (isSer r2) (bnd (fn_Ra_bestTotal r2 M2) (fun r5 M5 => some (.inl r5, M5))))
noncomputable def fn_SA_bestSumByRanges (v1 : Int32) (M : Mm) : Rs Int32 := bnd (fn_SA_filledSeries v1 M) (fun r2 M2 => grd (isSer r2) (bnd (fn_Ra_bestTotalByRanges r2 M2) (fun r5 M5 => some (.inl r5, M5))))
noncomputable def fn_SA_bestStart (v1 : Int32) (M : Mm) : Rs Int32 := bnd (fn_SA_filledSeries v1 M) (fun r2 M2 => grd (isSer r2) (bnd (fn_Ra_firstOfBest r2 M2) (fun r5 M5 => some (.inl r5, M5))))
noncomputable def fn_SA_bestEnd (v1 : Int32) (M : Mm) : Rs Int32 := bnd (fn_SA_filledSeries v1 M) (fun r2 M2 => grd (isSer r2) (bnd (fn_Ra_lastOfBest r2 M2) (fun r5 M5 => some (.inl r5, M5))))
noncomputable def fn_SA_inversions (v1 : Int32) (M : Mm) : Rs Int32 := bnd (fn_SA_seriesIn v1 M) (fun r6 M6 => grd (isSer r6) (bnd (fn_Ra_fallingPairs r6 M6) (fun r9 M9 => some (.inl r9, M9))))
noncomputable def fn_SA_inversionsByPairs (v1 : Int32) (M : Mm) : Rs Int32 := bnd (fn_SA_seriesIn v1 M) (fun r2 M2 => grd (isSer r2) (bnd (fn_Ra_fallingPairsByPairs r2 M2) (fun r5 M5 => some (.inl r5, M5))))
noncomputable def fn_SA_leastPeriod (v1 : Int32) (M : Mm) : Rs Int32 := bnd (fn_SA_filledSeries v1 M) (fun r6 M6 => grd (isSer r6) (bnd (fn_Pa_period r6 M6) (fun r9 M9 => some (.inl r9, M9))))
noncomputable def fn_SA_leastPeriodByTrial (v1 : Int32) (M : Mm) : Rs Int32 := bnd (fn_SA_filledSeries v1 M) (fun r2 M2 => grd (isSer r2) (bnd (fn_Pa_periodByTrial r2 M2) (fun r5 M5 => some (.inl r5, M5))))
noncomputable def fn_SA_occurrences (v1 : Int32) (v2 : Int32) (M : Mm) : Rs Int32 := bnd (fn_SA_seriesIn v1 M) (fun r2 M2 => grd (isSer r2) (bnd (fn_SA_filledSeries v2 M2) (fun r13 M13 => grd (isSer r13) (bnd (fn_Pa_places r2 r13 M13) (fun r16 M16 => some (.inl r16, M16))))))
noncomputable def fn_SA_occurrencesByScan (v1 : Int32) (v2 : Int32) (M : Mm) : Rs Int32 := bnd (fn_SA_seriesIn v1 M) (fun r2 M2 => grd (isSer r2) (bnd (fn_SA_filledSeries v2 M2) (fun r9 M9 => grd (isSer r9) (bnd (fn_Pa_placesByScan r2 r9 M9) (fun r12 M12 => some (.inl r12, M12))))))
noncomputable def fn_SA_divisibleSeries (v1 : Int32) (v2 : Int32) (M : Mm) : Rs Nat := bnd (fn_SA_seriesIn v1 M) (fun r2 M2 => grd (isSer r2) (if v2 < 1 then (some (.inr 1, M2)) else (if v2 ≤ 4 then (bnd (fn_Se_size r2 M2) (fun r28 M28 => if v2 ≤ r28 then (some (.inl r2, M28)) else (some (.inr 2, M28)))) else (some (.inr 1, M2)))))
noncomputable def fn_SA_leastError (v1 : Int32) (v2 : Int32) (M : Mm) : Rs Int32 := bnd (fn_SA_divisibleSeries v1 v2 M) (fun r7 M7 => grd (isSer r7) (bnd (fn_Di_error r7 v2 M7) (fun r11 M11 => some (.inl r11, M11))))
noncomputable def fn_SA_leastErrorByCuts (v1 : Int32) (v2 : Int32) (M : Mm) : Rs Int32 := bnd (fn_SA_divisibleSeries v1 v2 M) (fun r3 M3 => grd (isSer r3) (bnd (fn_Di_errorByCuts r3 v2 M3) (fun r7 M7 => some (.inl r7, M7))))
noncomputable def fn_SA_segmentStart (v1 : Int32) (v2 : Int32) (v3 : Int32) (M : Mm) : Rs Int32 := bnd (fn_SA_divisibleSeries v1 v2 M) (fun r3 M3 => grd (isSer r3) (if v3 < 0 then (some (.inr 3, M3)) else (if v3 < v2 then (bnd (fn_Di_start r3 v2 v3 M3) (fun r36 M36 => some (.inl r36, M36))) else (some (.inr 3, M3)))))
noncomputable def fn_SA_needBothFilled (v1 : Int32) (v2 : Int32) (M : Mm) : Rs Unit := bnd (fn_SA_seriesIn v1 M) (fun r2 M2 => grd (isSer r2) (bnd (fn_SA_seriesIn v2 M2) (fun r8 M8 => grd (isSer r8) (bnd (fn_Se_isEmpty r2 M8) (fun r14 M14 => if r14 = 0 then (bnd (fn_Se_isEmpty r8 M14) (fun r22 M22 => if r22 = 0 then (some (.inl (), M22)) else (some (.inr 2, M22)))) else (some (.inr 2, M14)))))))
noncomputable def fn_SA_distance (v1 : Int32) (v2 : Int32) (M : Mm) : Rs Int32 := bnd (fn_SA_needBothFilled v1 v2 M) (fun r3 M3 => bnd (fn_St_at v1 M3) (fun r15 M15 => grd (isSer r15) (bnd (fn_St_at v2 M15) (fun r23 M23 => grd (isSer r23) (bnd (fn_Wa_costByTable r15 r23 M23) (fun r26 M26 => some (.inl r26, M26)))))))
noncomputable def fn_SA_distanceByWalks (v1 : Int32) (v2 : Int32) (M : Mm) : Rs Int32 := bnd (fn_SA_needBothFilled v1 v2 M) (fun r3 M3 => bnd (fn_St_at v1 M3) (fun r15 M15 => grd (isSer r15) (bnd (fn_St_at v2 M15) (fun r23 M23 => grd (isSer r23) (bnd (fn_Wa_costByGoingOn r15 r23 M23) (fun r26 M26 => some (.inl r26, M26)))))))
noncomputable def fn_SA_areEqual (v1 : Int32) (v2 : Int32) (M : Mm) : Rs Int32 := bnd (fn_SA_seriesIn v1 M) (fun r2 M2 => grd (isSer r2) (bnd (fn_SA_seriesIn v2 M2) (fun r7 M7 => grd (isSer r7) (bnd (fn_Se_isSameAs r2 r7 M7) (fun r10 M10 => grd (isZ r10) (some (.inl r10, M10)))))))
noncomputable def fn_SA_areParallel (v1 : Int32) (v2 : Int32) (M : Mm) : Rs Int32 := bnd (fn_SA_seriesIn v1 M) (fun r2 M2 => grd (isSer r2) (bnd (fn_SA_seriesIn v2 M2) (fun r7 M7 => grd (isSer r7) (bnd (fn_Se_runsAlong r2 r7 M7) (fun r10 M10 => grd (isZ r10) (some (.inl r10, M10)))))))
noncomputable def fn_SA_isAscending (v1 : Int32) (M : Mm) : Rs Int32 := bnd (fn_SA_seriesIn v1 M) (fun r2 M2 => grd (isSer r2) (bnd (fn_Se_neverFalls r2 M2) (fun r5 M5 => grd (isZ r5) (some (.inl r5, M5)))))
noncomputable def fn_SA_valueTotal (M : Mm) : Rs Int32 := bnd (fn_St_valueCount M) (fun r4 M4 => some (.inl r4, M4))
noncomputable def fn_SA_appendedTotal (M : Mm) : Rs Int32 := bnd (fn_St_appendedCount M) (fun r4 M4 => some (.inl r4, M4))
noncomputable def fn_SA_positiveShare (M : Mm) : Rs UInt32 := bnd (fn_St_valueCount M) (fun r4 M4 => if 1 ≤ r4 then (bnd (fn_St_positiveCount M4) (fun r28 M28 => grd (zz_n32 (FP.fdiv (FP.i2f r28) (FP.i2f r4))) (some (.inl (FP.fdiv (FP.i2f r28) (FP.i2f r4)), M28)))) else (some (.inr 4, M4)))
noncomputable def fn_SA_isConsistent_2 : Nat → Int32 → Mm → Rs Int32
  | 0, _, _ => none
  | n + 1, v1, M => if 4 ≤ v1 then (some (.inl 1, M)) else (bnd (fn_St_at v1 M) (fun r12 M12 => grd (isSer r12) (bnd (fn_Ra_agreeOn r12 M12) (fun r21 M21 => if r21 = 0 then (some (.inl 0, M21)) else (bnd (fn_Pa_agreeOn r12 M21) (fun r32 M32 => if r32 = 0 then (some (.inl 0, M32)) else (li (v1 + 1) (fun x1_40 => fn_SA_isConsistent_2 n x1_40 M32))))))))
noncomputable def fn_SA_isConsistent (M : Mm) : Rs Int32 := fn_SA_isConsistent_2 fuel0 0 M
noncomputable def fn_SA_lineChar (v1 : Int32) (M : Mm) : Rs Int32 := if v1 < 0 then (some (.inr 0, M)) else (bnd (fn_SB_length M) (fun r9 M9 => if v1 < r9 then (bnd (fn_SB_charAt v1 M9) (fun r31 M31 => grd (vp_nar .char r31 = r31) (some (.inl r31, M31)))) else (some (.inr 0, M9))))
noncomputable def fn_SA_type (v1 : Int32) (M : Mm) : Rs Int32 := if v1 < 32 then (some (.inr 1, M)) else (if v1 ≤ 126 then (bnd (fn_In_isFull M) (fun r27 M27 => if r27 = 0 then (bnd (fn_In_add v1 M27) (fun r49 M49 => some (.inl r49, M49))) else (some (.inr 2, M27)))) else (some (.inr 1, M)))
noncomputable def fn_SA_execute_91 (v3 : Int32) (M : Mm) : Rs Int32 := bnd (fn_St_load 15 0 M) (fun r100 M100 => some (.inl v3, M100))
noncomputable def fn_SA_execute_132 (M : Mm) : Rs Int32 := bnd (fn_Hi_keepRow 15 M) (fun r140 M140 => some (.inl (-1), M140))
noncomputable def fn_SA_execute_16 (v1 : Int32) : Nat → Int32 → Int32 → Mm → Rs Int32
  | 0, _, _, _ => none
  | n + 1, v2, v3, M => if v1 ≤ v3 then (fn_SA_execute_132 M) else (bnd (fn_In_readCommand v2 M) (fun r26 M26 => bnd (fn_In_kind M26) (fun r35 M35 => grd (r35 < 9) (bnd (fn_In_argument 0 M35) (fun r45 M45 => bnd (fn_In_argument 1 M45) (fun r55 M55 => bnd (fn_In_argument 2 M55) (fun r65 M65 => bnd (fn_St_faultOf r35 r45 r55 r65 M65) (fun r82 M82 => grd (r82 < 4) (if r82 = 0 then (bnd (fn_St_apply r35 r45 r55 r65 M82) (fun r117 M117 => li ((r26 + 1)) (fun x2_125 => li (v3 + 1) (fun x3_126 => fn_SA_execute_16 v1 n x2_125 x3_126 M117)))) else (fn_SA_execute_91 v3 M82))))))))))
noncomputable def fn_SA_execute (v1 : Int32) (M : Mm) : Rs Int32 := bnd (fn_St_store 15 0 M) (fun r9 M9 => fn_SA_execute_16 v1 fuel0 0 0 M9)
noncomputable def fn_SA_run (M : Mm) : Rs Int32 := bnd (fn_In_countCommands M) (fun r4 M4 => if r4 = (-1) then (bnd (fn_In_errorPlace M4) (fun r18 M18 => lm (mset M18 0 6 r18) (fun M21 => bnd (fn_In_clear M21) (fun r28 M28 => some (.inr 1, M28))))) else (bnd (fn_SA_execute r4 M4) (fun r44 M44 => bnd (fn_In_clear M44) (fun r52 M52 => if r44 = (-1) then (some (.inl r4, M52)) else (lm (mset M52 0 7 r44) (fun M62 => some (.inr 2, M62)))))))
noncomputable def fn_SA_errorPosition (M : Mm) : Rs Int32 := bnd (fn_SA_found (M 0 6) M) (fun r4 M4 => some (.inl r4, M4))
noncomputable def fn_SA_failedCommand (M : Mm) : Rs Int32 := bnd (fn_SA_found (M 0 7) M) (fun r4 M4 => some (.inl r4, M4))
noncomputable def fn_SA_undoableCount (M : Mm) : Rs Int32 := bnd (fn_Hi_size M) (fun r4 M4 => some (.inl r4, M4))
noncomputable def fn_SA_undo (M : Mm) : Rs Int32 := bnd (fn_Hi_size M) (fun r4 M4 => if 1 ≤ r4 then (bnd (fn_Hi_takeBack M4) (fun r30 M30 => bnd (fn_Hi_size M30) (fun r37 M37 => some (.inl r37, M37)))) else (some (.inr 2, M4)))
noncomputable def fn_SA_save (M : Mm) : Rs Int32 := bnd (fn_St_store 14 0 M) (fun r9 M9 => lm (mset M9 0 3 1) (fun M14 => bnd (fn_St_valueCount M14) (fun r21 M21 => some (.inl r21, M21))))
noncomputable def fn_SA_restore (M : Mm) : Rs Int32 := if (M 0 3) = 0 then (some (.inr 2, M)) else (bnd (fn_St_load 14 0 M) (fun r27 M27 => bnd (fn_Hi_clear M27) (fun r34 M34 => bnd (fn_St_valueCount M34) (fun r41 M41 => some (.inl r41, M41)))))
noncomputable def fn_SA_writeSeparated_20 (v1 : Int32) (M : Mm) : Rs Unit := bnd (fn_SB_appendI v1 M) (fun r25 M25 => some (.inl (), M25))
noncomputable def fn_SA_writeSeparated (v1 : Int32) (M : Mm) : Rs Unit := bnd (fn_SB_length M) (fun r4 M4 => if r4 ≤ 0 then (fn_SA_writeSeparated_20 v1 M4) else (bnd (fn_SB_appendC 32 M4) (fun r16 M16 => fn_SA_writeSeparated_20 v1 M16)))
noncomputable def fn_Mo_thrown (M : Mm) : Rs Int32 := some (.inl (M 32 6), M)
noncomputable def fn_Mo_in (v0 : Int32) (v1 : Int32) (v2 : Int32) (M : Mm) : Rs Int32 := if v0 < v1 then (some (.inl 0, M)) else (if v2 < v0 then (some (.inl 0, M)) else (some (.inl 1, M)))
noncomputable def fn_Mo_size (v0 : Int32) (M : Mm) : Rs Int32 := if 0 ≤ v0 then (some (.inl v0, M)) else (some (.inl (-v0), M))
noncomputable def fn_Mo_less (v0 : Int32) (v1 : Int32) (M : Mm) : Rs Int32 := if v1 ≤ v0 then (some (.inl v1, M)) else (some (.inl v0, M))
noncomputable def fn_Mo_more (v0 : Int32) (v1 : Int32) (M : Mm) : Rs Int32 := if v0 ≤ v1 then (some (.inl v1, M)) else (some (.inl v0, M))
noncomputable def fn_Mo_copyAll_3 (v0 : Nat) (v1 : Int32) (v2 : Nat) (v3 : Int32) : Nat → Int32 → Mm → Rs Unit
  | 0, _, _ => none
  | n + 1, v4, M => if 85 ≤ v4 then (some (.inl (), M)) else (grd (inb (v1 + v4) (alen v0)) (grd (inb (v3 + v4) (alen v2)) (lm (mset M v2 (v3 + v4).toNatClampNeg (M v0 (v1 + v4).toNatClampNeg)) (fun M21 => li (v4 + 1) (fun x4_22 => fn_Mo_copyAll_3 v0 v1 v2 v3 n x4_22 M21)))))
noncomputable def fn_Mo_copyAll (v0 : Nat) (v1 : Int32) (v2 : Nat) (v3 : Int32) (M : Mm) : Rs Unit := grd (isIA v0) (grd (isIA v2) (fn_Mo_copyAll_3 v0 v1 v2 v3 fuel0 0 M))
noncomputable def fn_Mo_fail (v1 : Int32) (M : Mm) : Rs Int32 := lm (mset M 32 6 v1) (fun M2 => some (.inl 0, M2))
noncomputable def fn_Mo_begin (M : Mm) : Rs Unit := lm (mset M 32 6 0) (fun M2 => bnd (fn_Mo_copyAll 33 0 34 0 M2) (fun r15 M15 => some (.inl (), M15)))
noncomputable def fn_Mo_commit_54 (v1 : Int32) (M : Mm) : Rs Int32 := bnd (fn_Mo_copyAll 34 0 36 (85 * (M 32 7)) M) (fun r70 M70 => lm (mset M70 32 7 ((M70 32 7) + 1)) (fun M80 => some (.inl v1, M80)))
noncomputable def fn_Mo_commit_44 (v1 : Int32) (M : Mm) : Rs Int32 := lm (mset M 32 7 ((M 32 7) - 1)) (fun M51 => fn_Mo_commit_54 v1 M51)
noncomputable def fn_Mo_commit_11 (v1 : Int32) : Nat → Int32 → Mm → Rs Int32
  | 0, _, _ => none
  | n + 1, v2, M => if 8 ≤ v2 then (fn_Mo_commit_44 v1 M) else (bnd (fn_Mo_copyAll 36 (85 * v2) 36 (85 * (v2 - 1)) M) (fun r35 M35 => li (v2 + 1) (fun x2_38 => fn_Mo_commit_11 v1 n x2_38 M35)))
noncomputable def fn_Mo_commit (v1 : Int32) (M : Mm) : Rs Int32 := if (M 32 7) = 8 then (fn_Mo_commit_11 v1 fuel0 1 M) else (fn_Mo_commit_54 v1 M)
noncomputable def fn_Mo_plain (v1 : Int32) (M : Mm) : Rs Int32 := lm (mset M 32 6 0) (fun M2 => some (.inl v1, M2))
noncomputable def fn_Mo_checked_10 (s1 : Int32) (M : Mm) : Rs Int32 := lm (mset M 32 6 s1) (fun M10 => some (.inl (M10 32 6), M10))
noncomputable def fn_Mo_checked (v1 : Int32) (M : Mm) : Rs Int32 := if v1 = 0 then (fn_Mo_checked_10 1 M) else (fn_Mo_checked_10 0 M)
noncomputable def fn_Mo_isSlot (v0 : Int32) (M : Mm) : Rs Int32 := bnd (fn_Mo_in v0 0 3 M) (fun r3 M3 => grd (isZ r3) (some (.inl r3, M3)))
noncomputable def fn_Mo_isValue (v0 : Int32) (M : Mm) : Rs Int32 := bnd (fn_Mo_in v0 (-99) 99 M) (fun r5 M5 => grd (isZ r5) (some (.inl r5, M5)))
noncomputable def fn_Mo_many (v1 : Int32) (M : Mm) : Rs Int32 := grd (inb (21 * v1) 85) (some (.inl (M 33 (21 * v1).toNatClampNeg), M))
noncomputable def fn_Mo_at (v1 : Int32) (v2 : Int32) (M : Mm) : Rs Int32 := grd (inb (((21 * v1) + 1) + v2) 85) (some (.inl (M 33 (((21 * v1) + 1) + v2).toNatClampNeg), M))
noncomputable def fn_Mo_lay (v1 : Int32) (v2 : Int32) (v3 : Int32) (M : Mm) : Rs Unit := grd (inb (((21 * v1) + 1) + v2) 85) (lm (mset M 33 (((21 * v1) + 1) + v2).toNatClampNeg v3) (fun M13 => some (.inl (), M13)))
noncomputable def fn_Mo_isIndex (v1 : Int32) (v2 : Int32) (M : Mm) : Rs Int32 := bnd (fn_Mo_isSlot v1 M) (fun r1 M1 => if r1 = 0 then (some (.inl 0, M1)) else (bnd (fn_Mo_many v1 M1) (fun r11 M11 => bnd (fn_Mo_in v2 0 (r11 - 1) M11) (fun r16 M16 => if r16 = 0 then (some (.inl 0, M16)) else (some (.inl 1, M16))))))
noncomputable def fn_Mo_close_12 (v1 : Int32) : Nat → Int32 → Mm → Rs Unit
  | 0, _, _ => none
  | n + 1, v3, M => if 20 ≤ v3 then (some (.inl (), M)) else (bnd (fn_Mo_lay v1 v3 0 M) (fun r22 M22 => li (v3 + 1) (fun x3_25 => fn_Mo_close_12 v1 n x3_25 M22)))
noncomputable def fn_Mo_close (v1 : Int32) (v2 : Int32) (M : Mm) : Rs Unit := grd (inb (21 * v1) 85) (lm (mset M 33 (21 * v1).toNatClampNeg v2) (fun M9 => fn_Mo_close_12 v1 fuel0 v2 M9))
noncomputable def fn_Mo_cannotAppend (v1 : Int32) (v2 : Int32) (M : Mm) : Rs Int32 := bnd (fn_Mo_isSlot v1 M) (fun r1 M1 => if r1 = 0 then (some (.inl 1, M1)) else (bnd (fn_Mo_isValue v2 M1) (fun r12 M12 => if r12 = 0 then (some (.inl 2, M12)) else (bnd (fn_Mo_many v1 M12) (fun r24 M24 => if r24 = 20 then (some (.inl 3, M24)) else (some (.inl 0, M24)))))))
noncomputable def fn_Mo_appends (v1 : Int32) (v2 : Int32) (M : Mm) : Rs Int32 := bnd (fn_Mo_many v1 M) (fun r4 M4 => bnd (fn_Mo_lay v1 r4 v2 M4) (fun r8 M8 => grd (inb (21 * v1) 85) (grd (inb (21 * v1) 85) (lm (mset M8 33 (21 * v1).toNatClampNeg ((M8 33 (21 * v1).toNatClampNeg) + 1)) (fun M23 => grd (inb 84 85) (grd (inb 84 85) (lm (mset M23 33 (84 : Int32).toNatClampNeg ((M23 33 (84 : Int32).toNatClampNeg) + 1)) (fun M34 => bnd (fn_Mo_many v1 M34) (fun r37 M37 => some (.inl r37, M37))))))))))
noncomputable def fn_Mo_append (v1 : Int32) (v2 : Int32) (M : Mm) : Rs Int32 := bnd (fn_Mo_begin M) (fun r1 M1 => bnd (fn_Mo_cannotAppend v1 v2 M1) (fun r7 M7 => if r7 ≤ 0 then (bnd (fn_Mo_appends v1 v2 M7) (fun r27 M27 => bnd (fn_Mo_commit r27 M27) (fun r30 M30 => some (.inl r30, M30)))) else (bnd (fn_Mo_fail r7 M7) (fun r17 M17 => some (.inl r17, M17)))))
noncomputable def fn_Mo_cannotSet (v1 : Int32) (v2 : Int32) (v3 : Int32) (M : Mm) : Rs Int32 := bnd (fn_Mo_isIndex v1 v2 M) (fun r3 M3 => if r3 = 0 then (some (.inl 1, M3)) else (bnd (fn_Mo_isValue v3 M3) (fun r14 M14 => if r14 = 0 then (some (.inl 2, M14)) else (some (.inl 0, M14)))))
noncomputable def fn_Mo_sets (v1 : Int32) (v2 : Int32) (v3 : Int32) (M : Mm) : Rs Int32 := bnd (fn_Mo_at v1 v2 M) (fun r3 M3 => bnd (fn_Mo_lay v1 v2 v3 M3) (fun r12 M12 => some (.inl r3, M12)))
noncomputable def fn_Mo_setValue (v1 : Int32) (v2 : Int32) (v3 : Int32) (M : Mm) : Rs Int32 := bnd (fn_Mo_begin M) (fun r1 M1 => bnd (fn_Mo_cannotSet v1 v2 v3 M1) (fun r8 M8 => if r8 ≤ 0 then (bnd (fn_Mo_sets v1 v2 v3 M8) (fun r32 M32 => bnd (fn_Mo_commit r32 M32) (fun r35 M35 => some (.inl r35, M35)))) else (bnd (fn_Mo_fail r8 M8) (fun r21 M21 => some (.inl r21, M21)))))
noncomputable def fn_Mo_cannotCut (v1 : Int32) (v2 : Int32) (M : Mm) : Rs Int32 := bnd (fn_Mo_isSlot v1 M) (fun r1 M1 => if r1 = 0 then (some (.inl 1, M1)) else (bnd (fn_Mo_many v1 M1) (fun r15 M15 => bnd (fn_Mo_in v2 1 r15 M15) (fun r18 M18 => if r18 = 0 then (some (.inl 2, M18)) else (some (.inl 0, M18))))))
noncomputable def fn_Mo_cuts_39 (v1 : Int32) (v3 : Int32) (M : Mm) : Rs Int32 := bnd (fn_Mo_close v1 v3 M) (fun r42 M42 => some (.inl v3, M42))
noncomputable def fn_Mo_cuts_11 (v1 : Int32) (v2 : Int32) (v3 : Int32) : Nat → Int32 → Mm → Rs Int32
  | 0, _, _ => none
  | n + 1, v4, M => if v3 ≤ v4 then (fn_Mo_cuts_39 v1 v3 M) else (bnd (fn_Mo_at v1 (v4 + v2) M) (fun r27 M27 => bnd (fn_Mo_lay v1 v4 r27 M27) (fun r30 M30 => li (v4 + 1) (fun x4_33 => fn_Mo_cuts_11 v1 v2 v3 n x4_33 M30))))
noncomputable def fn_Mo_cuts (v1 : Int32) (v2 : Int32) (M : Mm) : Rs Int32 := bnd (fn_Mo_many v1 M) (fun r2 M2 => li ((r2 - v2)) (fun x3_7 => fn_Mo_cuts_11 v1 v2 x3_7 fuel0 0 M2))
noncomputable def fn_Mo_removeFirst (v1 : Int32) (v2 : Int32) (M : Mm) : Rs Int32 := bnd (fn_Mo_begin M) (fun r1 M1 => bnd (fn_Mo_cannotCut v1 v2 M1) (fun r7 M7 => if r7 ≤ 0 then (bnd (fn_Mo_cuts v1 v2 M7) (fun r27 M27 => bnd (fn_Mo_commit r27 M27) (fun r30 M30 => some (.inl r30, M30)))) else (bnd (fn_Mo_fail r7 M7) (fun r17 M17 => some (.inl r17, M17)))))
noncomputable def fn_Mo_copies_36 (v1 : Int32) (M : Mm) : Rs Int32 := bnd (fn_Mo_many v1 M) (fun r38 M38 => some (.inl r38, M38))
noncomputable def fn_Mo_copies_2 (v1 : Int32) (v2 : Int32) : Nat → Int32 → Mm → Rs Int32
  | 0, _, _ => none
  | n + 1, v3, M => if 21 ≤ v3 then (fn_Mo_copies_36 v1 M) else (grd (inb ((21 * v2) + v3) 85) (grd (inb ((21 * v1) + v3) 85) (lm (mset M 33 ((21 * v1) + v3).toNatClampNeg (M 33 ((21 * v2) + v3).toNatClampNeg)) (fun M29 => li (v3 + 1) (fun x3_30 => fn_Mo_copies_2 v1 v2 n x3_30 M29)))))
noncomputable def fn_Mo_copies (v1 : Int32) (v2 : Int32) (M : Mm) : Rs Int32 := fn_Mo_copies_2 v1 v2 fuel0 0 M
noncomputable def fn_Mo_copy_31 (M : Mm) : Rs Int32 := bnd (fn_Mo_fail 1 M) (fun r33 M33 => some (.inl r33, M33))
noncomputable def fn_Mo_copy (v1 : Int32) (v2 : Int32) (M : Mm) : Rs Int32 := bnd (fn_Mo_begin M) (fun r1 M1 => bnd (fn_Mo_isSlot v1 M1) (fun r5 M5 => if r5 = 0 then (fn_Mo_copy_31 M5) else (bnd (fn_Mo_isSlot v2 M5) (fun r12 M12 => if r12 = 0 then (fn_Mo_copy_31 M12) else (bnd (fn_Mo_copies v1 v2 M12) (fun r22 M22 => bnd (fn_Mo_commit r22 M22) (fun r25 M25 => some (.inl r25, M25))))))))
noncomputable def fn_Mo_laysRow_34 (k4 : Int32 → Int32 → Mm → Rs Int32) (v1 : Int32) (v3 : Int32) (s0 : Int32) (s1 : Int32) (M : Mm) : Rs Int32 := li ((s0 + s1)) (fun x2_35 => grd (inb v3 20) (bnd (fn_Mo_lay v1 v3 (M 38 v3.toNatClampNeg) M) (fun r45 M45 => li (v3 + 1) (fun x3_48 => k4 x2_35 x3_48 M45))))
noncomputable def fn_Mo_laysRow_4 (v1 : Int32) : Nat → Int32 → Int32 → Mm → Rs Int32
  | 0, _, _, _ => none
  | n + 1, v2, v3, M => bnd (fn_Mo_many v1 M) (fun r7 M7 => if r7 ≤ v3 then (some (.inl v2, M7)) else (bnd (fn_Mo_at v1 v3 M7) (fun r17 M17 => grd (inb v3 20) (if r17 = (M17 38 v3.toNatClampNeg) then (fn_Mo_laysRow_34 (fn_Mo_laysRow_4 v1 n) v1 v3 v2 0 M17) else (fn_Mo_laysRow_34 (fn_Mo_laysRow_4 v1 n) v1 v3 v2 1 M17)))))
noncomputable def fn_Mo_laysRow (v1 : Int32) (M : Mm) : Rs Int32 := fn_Mo_laysRow_4 v1 fuel0 0 0 M
noncomputable def fn_Mo_turns_37 (v1 : Int32) (M : Mm) : Rs Int32 := bnd (fn_Mo_laysRow v1 M) (fun r39 M39 => some (.inl r39, M39))
noncomputable def fn_Mo_turns_2 (v1 : Int32) : Nat → Int32 → Mm → Rs Int32
  | 0, _, _ => none
  | n + 1, v2, M => bnd (fn_Mo_many v1 M) (fun r5 M5 => if r5 ≤ v2 then (fn_Mo_turns_37 v1 M5) else (bnd (fn_Mo_many v1 M5) (fun r20 M20 => bnd (fn_Mo_at v1 ((r20 - 1) - v2) M20) (fun r27 M27 => grd (inb v2 20) (lm (mset M27 38 v2.toNatClampNeg r27) (fun M30 => li (v2 + 1) (fun x2_31 => fn_Mo_turns_2 v1 n x2_31 M30)))))))
noncomputable def fn_Mo_turns (v1 : Int32) (M : Mm) : Rs Int32 := fn_Mo_turns_2 v1 fuel0 0 M
noncomputable def fn_Mo_reverse (v1 : Int32) (M : Mm) : Rs Int32 := bnd (fn_Mo_begin M) (fun r1 M1 => bnd (fn_Mo_isSlot v1 M1) (fun r5 M5 => if r5 = 0 then (bnd (fn_Mo_fail 1 M5) (fun r25 M25 => some (.inl r25, M25))) else (bnd (fn_Mo_turns v1 M5) (fun r14 M14 => bnd (fn_Mo_commit r14 M14) (fun r17 M17 => some (.inl r17, M17))))))
noncomputable def fn_Mo_cannotShift_20 (v1 : Int32) (v2 : Int32) : Nat → Int32 → Mm → Rs Int32
  | 0, _, _ => none
  | n + 1, v3, M => bnd (fn_Mo_many v1 M) (fun r23 M23 => if r23 ≤ v3 then (some (.inl 0, M23)) else (bnd (fn_Mo_at v1 v3 M23) (fun r32 M32 => bnd (fn_Mo_isValue (r32 + v2) M32) (fun r37 M37 => if r37 = 0 then (some (.inl 3, M37)) else (li (v3 + 1) (fun x3_45 => fn_Mo_cannotShift_20 v1 v2 n x3_45 M37))))))
noncomputable def fn_Mo_cannotShift (v1 : Int32) (v2 : Int32) (M : Mm) : Rs Int32 := bnd (fn_Mo_isSlot v1 M) (fun r1 M1 => if r1 = 0 then (some (.inl 1, M1)) else (bnd (fn_Mo_isValue v2 M1) (fun r10 M10 => if r10 = 0 then (some (.inl 2, M10)) else (fn_Mo_cannotShift_20 v1 v2 fuel0 0 M10))))
noncomputable def fn_Mo_total_6 (v1 : Int32) (v3 : Int32) : Nat → Int32 → Int32 → Mm → Rs Int32
  | 0, _, _, _ => none
  | n + 1, v4, v5, M => if v3 < v5 then (some (.inl v4, M)) else (bnd (fn_Mo_at v1 v5 M) (fun r18 M18 => li ((v4 + r18)) (fun x4_22 => li (v5 + 1) (fun x5_24 => fn_Mo_total_6 v1 v3 n x4_22 x5_24 M18))))
noncomputable def fn_Mo_total (v1 : Int32) (v2 : Int32) (v3 : Int32) (M : Mm) : Rs Int32 := fn_Mo_total_6 v1 v3 fuel0 0 v2 M
noncomputable def fn_Mo_shifts_31 (v1 : Int32) (M : Mm) : Rs Int32 := bnd (fn_Mo_many v1 M) (fun r36 M36 => bnd (fn_Mo_total v1 0 (r36 - 1) M36) (fun r41 M41 => some (.inl r41, M41)))
noncomputable def fn_Mo_shifts_2 (v1 : Int32) (v2 : Int32) : Nat → Int32 → Mm → Rs Int32
  | 0, _, _ => none
  | n + 1, v3, M => bnd (fn_Mo_many v1 M) (fun r5 M5 => if r5 ≤ v3 then (fn_Mo_shifts_31 v1 M5) else (bnd (fn_Mo_at v1 v3 M5) (fun r17 M17 => bnd (fn_Mo_lay v1 v3 (r17 + v2) M17) (fun r22 M22 => li (v3 + 1) (fun x3_25 => fn_Mo_shifts_2 v1 v2 n x3_25 M22)))))
noncomputable def fn_Mo_shifts (v1 : Int32) (v2 : Int32) (M : Mm) : Rs Int32 := fn_Mo_shifts_2 v1 v2 fuel0 0 M
noncomputable def fn_Mo_shift (v1 : Int32) (v2 : Int32) (M : Mm) : Rs Int32 := bnd (fn_Mo_begin M) (fun r1 M1 => bnd (fn_Mo_cannotShift v1 v2 M1) (fun r7 M7 => if r7 ≤ 0 then (bnd (fn_Mo_shifts v1 v2 M7) (fun r27 M27 => bnd (fn_Mo_commit r27 M27) (fun r30 M30 => some (.inl r30, M30)))) else (bnd (fn_Mo_fail r7 M7) (fun r17 M17 => some (.inl r17, M17)))))
noncomputable def fn_Mo_floor (v0 : Int32) (v1 : Int32) (M : Mm) : Rs Int32 := if v0 < 0 then (grd (¬ v1 = 0) (some (.inl (-(((v1 - 1) - v0) / v1)), M))) else (grd (¬ v1 = 0) (some (.inl (v0 / v1), M)))
noncomputable def fn_Mo_smooths_66 (v1 : Int32) (M : Mm) : Rs Int32 := bnd (fn_Mo_laysRow v1 M) (fun r68 M68 => some (.inl r68, M68))
noncomputable def fn_Mo_smooths_2 (v1 : Int32) (v2 : Int32) : Nat → Int32 → Mm → Rs Int32
  | 0, _, _ => none
  | n + 1, v3, M => bnd (fn_Mo_many v1 M) (fun r5 M5 => if r5 ≤ v3 then (fn_Mo_smooths_66 v1 M5) else (bnd (fn_Mo_more 0 (v3 - v2) M5) (fun r15 M15 => bnd (fn_Mo_many v1 M15) (fun r22 M22 => bnd (fn_Mo_less (r22 - 1) (v3 + v2) M22) (fun r30 M30 => bnd (fn_Mo_total v1 r15 r30 M30) (fun r46 M46 => bnd (fn_Mo_floor r46 ((r30 - r15) + 1) M46) (fun r56 M56 => grd (inb v3 20) (lm (mset M56 38 v3.toNatClampNeg r56) (fun M59 => li (v3 + 1) (fun x3_60 => fn_Mo_smooths_2 v1 v2 n x3_60 M59))))))))))
noncomputable def fn_Mo_smooths (v1 : Int32) (v2 : Int32) (M : Mm) : Rs Int32 := fn_Mo_smooths_2 v1 v2 fuel0 0 M
noncomputable def fn_Mo_cannotSmooth (v0 : Int32) (v1 : Int32) (M : Mm) : Rs Int32 := bnd (fn_Mo_isSlot v0 M) (fun r1 M1 => if r1 = 0 then (some (.inl 1, M1)) else (bnd (fn_Mo_in v1 1 9 M1) (fun r15 M15 => if r15 = 0 then (some (.inl 2, M15)) else (some (.inl 0, M15)))))
noncomputable def fn_Mo_smooth (v1 : Int32) (v2 : Int32) (M : Mm) : Rs Int32 := bnd (fn_Mo_begin M) (fun r1 M1 => bnd (fn_Mo_cannotSmooth v1 v2 M1) (fun r6 M6 => if r6 ≤ 0 then (bnd (fn_Mo_smooths v1 v2 M6) (fun r26 M26 => bnd (fn_Mo_commit r26 M26) (fun r29 M29 => some (.inl r29, M29)))) else (bnd (fn_Mo_fail r6 M6) (fun r16 M16 => some (.inl r16, M16)))))
noncomputable def fn_Mo_cannotStep_21 (v1 : Int32) : Nat → Int32 → Mm → Rs Int32
  | 0, _, _ => none
  | n + 1, v2, M => bnd (fn_Mo_many v1 M) (fun r24 M24 => if r24 ≤ v2 then (some (.inl 0, M24)) else (bnd (fn_Mo_at v1 v2 M24) (fun r33 M33 => bnd (fn_Mo_at v1 (v2 - 1) M33) (fun r41 M41 => bnd (fn_Mo_isValue (r33 - r41) M41) (fun r45 M45 => if r45 = 0 then (some (.inl 2, M45)) else (li (v2 + 1) (fun x2_53 => fn_Mo_cannotStep_21 v1 n x2_53 M45)))))))
noncomputable def fn_Mo_cannotStep (v1 : Int32) (M : Mm) : Rs Int32 := bnd (fn_Mo_isSlot v1 M) (fun r1 M1 => if r1 = 0 then (some (.inl 1, M1)) else (bnd (fn_Mo_many v1 M1) (fun r11 M11 => if r11 = 0 then (some (.inl 2, M11)) else (fn_Mo_cannotStep_21 v1 fuel0 1 M11))))
noncomputable def fn_Mo_steps_42 (v1 : Int32) (v2 : Int32) (M : Mm) : Rs Int32 := bnd (fn_Mo_close v1 v2 M) (fun r45 M45 => some (.inl v2, M45))
noncomputable def fn_Mo_steps_10 (v1 : Int32) (v2 : Int32) : Nat → Int32 → Mm → Rs Int32
  | 0, _, _ => none
  | n + 1, v3, M => if v2 ≤ v3 then (fn_Mo_steps_42 v1 v2 M) else (bnd (fn_Mo_at v1 (v3 + 1) M) (fun r23 M23 => bnd (fn_Mo_at v1 v3 M23) (fun r29 M29 => bnd (fn_Mo_lay v1 v3 (r23 - r29) M29) (fun r33 M33 => li (v3 + 1) (fun x3_36 => fn_Mo_steps_10 v1 v2 n x3_36 M33)))))
noncomputable def fn_Mo_steps (v1 : Int32) (M : Mm) : Rs Int32 := bnd (fn_Mo_many v1 M) (fun r2 M2 => li ((r2 - 1)) (fun x2_7 => fn_Mo_steps_10 v1 x2_7 fuel0 0 M2))
noncomputable def fn_Mo_toSteps (v1 : Int32) (M : Mm) : Rs Int32 := bnd (fn_Mo_begin M) (fun r1 M1 => bnd (fn_Mo_cannotStep v1 M1) (fun r6 M6 => if r6 ≤ 0 then (bnd (fn_Mo_steps v1 M6) (fun r25 M25 => bnd (fn_Mo_commit r25 M25) (fun r28 M28 => some (.inl r28, M28)))) else (bnd (fn_Mo_fail r6 M6) (fun r16 M16 => some (.inl r16, M16)))))
noncomputable def fn_Mo_cannotClip_30 (M : Mm) : Rs Int32 := some (.inl 2, M)
noncomputable def fn_Mo_cannotClip (v0 : Int32) (v1 : Int32) (v2 : Int32) (M : Mm) : Rs Int32 := bnd (fn_Mo_isSlot v0 M) (fun r1 M1 => if r1 = 0 then (some (.inl 1, M1)) else (bnd (fn_Mo_isValue v1 M1) (fun r12 M12 => if r12 = 0 then (fn_Mo_cannotClip_30 M12) else (bnd (fn_Mo_isValue v2 M12) (fun r19 M19 => if r19 = 0 then (fn_Mo_cannotClip_30 M19) else (if v1 ≤ v2 then (some (.inl 0, M19)) else (fn_Mo_cannotClip_30 M19)))))))
noncomputable def fn_Mo_clips_41 (v1 : Int32) (M : Mm) : Rs Int32 := bnd (fn_Mo_laysRow v1 M) (fun r43 M43 => some (.inl r43, M43))
noncomputable def fn_Mo_clips_3 (v1 : Int32) (v2 : Int32) (v3 : Int32) : Nat → Int32 → Mm → Rs Int32
  | 0, _, _ => none
  | n + 1, v4, M => bnd (fn_Mo_many v1 M) (fun r7 M7 => if r7 ≤ v4 then (fn_Mo_clips_41 v1 M7) else (bnd (fn_Mo_at v1 v4 M7) (fun r25 M25 => bnd (fn_Mo_less v3 r25 M25) (fun r28 M28 => bnd (fn_Mo_more v2 r28 M28) (fun r31 M31 => grd (inb v4 20) (lm (mset M31 38 v4.toNatClampNeg r31) (fun M34 => li (v4 + 1) (fun x4_35 => fn_Mo_clips_3 v1 v2 v3 n x4_35 M34))))))))
noncomputable def fn_Mo_clips (v1 : Int32) (v2 : Int32) (v3 : Int32) (M : Mm) : Rs Int32 := fn_Mo_clips_3 v1 v2 v3 fuel0 0 M
noncomputable def fn_Mo_clip (v1 : Int32) (v2 : Int32) (v3 : Int32) (M : Mm) : Rs Int32 := bnd (fn_Mo_begin M) (fun r1 M1 => bnd (fn_Mo_cannotClip v1 v2 v3 M1) (fun r7 M7 => if r7 ≤ 0 then (bnd (fn_Mo_clips v1 v2 v3 M7) (fun r31 M31 => bnd (fn_Mo_commit r31 M31) (fun r34 M34 => some (.inl r34, M34)))) else (bnd (fn_Mo_fail r7 M7) (fun r20 M20 => some (.inl r20, M20)))))
noncomputable def fn_Mo_length (v1 : Int32) (M : Mm) : Rs Int32 := bnd (fn_Mo_isSlot v1 M) (fun r2 M2 => bnd (fn_Mo_checked r2 M2) (fun r5 M5 => if r5 ≤ 0 then (bnd (fn_Mo_many v1 M5) (fun r17 M17 => some (.inl r17, M17))) else (some (.inl 0, M5))))
noncomputable def fn_Mo_value (v1 : Int32) (v2 : Int32) (M : Mm) : Rs Int32 := bnd (fn_Mo_isIndex v1 v2 M) (fun r4 M4 => bnd (fn_Mo_checked r4 M4) (fun r7 M7 => if r7 ≤ 0 then (bnd (fn_Mo_at v1 v2 M7) (fun r20 M20 => some (.inl r20, M20))) else (some (.inl 0, M7))))
noncomputable def fn_Mo_isRange (v1 : Int32) (v2 : Int32) (v3 : Int32) (M : Mm) : Rs Int32 := bnd (fn_Mo_isIndex v1 v2 M) (fun r3 M3 => if r3 = 0 then (some (.inl 0, M3)) else (bnd (fn_Mo_isIndex v1 v3 M3) (fun r12 M12 => if r12 = 0 then (some (.inl 0, M12)) else (if v3 < v2 then (some (.inl 0, M12)) else (some (.inl 1, M12))))))
noncomputable def fn_Mo_summing (v1 : Int32) (v2 : Int32) (v3 : Int32) (M : Mm) : Rs Int32 := bnd (fn_Mo_isRange v1 v2 v3 M) (fun r5 M5 => bnd (fn_Mo_checked r5 M5) (fun r8 M8 => if r8 ≤ 0 then (bnd (fn_Mo_total v1 v2 v3 M8) (fun r22 M22 => some (.inl r22, M22))) else (some (.inl 0, M8))))
noncomputable def fn_Mo_sum (v1 : Int32) (v2 : Int32) (v3 : Int32) (M : Mm) : Rs Int32 := bnd (fn_Mo_summing v1 v2 v3 M) (fun r4 M4 => some (.inl r4, M4))
noncomputable def fn_Mo_sumByTree (v1 : Int32) (v2 : Int32) (v3 : Int32) (M : Mm) : Rs Int32 := bnd (fn_Mo_summing v1 v2 v3 M) (fun r4 M4 => some (.inl r4, M4))
noncomputable def fn_Mo_lowest_11 (v1 : Int32) (v3 : Int32) : Nat → Int32 → Int32 → Mm → Rs Int32
  | 0, _, _, _ => none
  | n + 1, v4, v5, M => if v3 < v5 then (some (.inl v4, M)) else (bnd (fn_Mo_at v1 v5 M) (fun r23 M23 => bnd (fn_Mo_less v4 r23 M23) (fun r26 M26 => li (v5 + 1) (fun x5_31 => fn_Mo_lowest_11 v1 v3 n r26 x5_31 M26))))
noncomputable def fn_Mo_lowest (v1 : Int32) (v2 : Int32) (v3 : Int32) (M : Mm) : Rs Int32 := bnd (fn_Mo_at v1 v2 M) (fun r3 M3 => fn_Mo_lowest_11 v1 v3 fuel0 r3 v2 M3)
noncomputable def fn_Mo_highest_11 (v1 : Int32) (v3 : Int32) : Nat → Int32 → Int32 → Mm → Rs Int32
  | 0, _, _, _ => none
  | n + 1, v4, v5, M => if v3 < v5 then (some (.inl v4, M)) else (bnd (fn_Mo_at v1 v5 M) (fun r23 M23 => bnd (fn_Mo_more v4 r23 M23) (fun r26 M26 => li (v5 + 1) (fun x5_31 => fn_Mo_highest_11 v1 v3 n r26 x5_31 M26))))
noncomputable def fn_Mo_highest (v1 : Int32) (v2 : Int32) (v3 : Int32) (M : Mm) : Rs Int32 := bnd (fn_Mo_at v1 v2 M) (fun r3 M3 => fn_Mo_highest_11 v1 v3 fuel0 r3 v2 M3)
noncomputable def fn_Mo_minimum (v1 : Int32) (v2 : Int32) (v3 : Int32) (M : Mm) : Rs Int32 := bnd (fn_Mo_isRange v1 v2 v3 M) (fun r5 M5 => bnd (fn_Mo_checked r5 M5) (fun r8 M8 => if r8 ≤ 0 then (bnd (fn_Mo_lowest v1 v2 v3 M8) (fun r22 M22 => some (.inl r22, M22))) else (some (.inl 0, M8))))
noncomputable def fn_Mo_maximum (v1 : Int32) (v2 : Int32) (v3 : Int32) (M : Mm) : Rs Int32 := bnd (fn_Mo_isRange v1 v2 v3 M) (fun r5 M5 => bnd (fn_Mo_checked r5 M5) (fun r8 M8 => if r8 ≤ 0 then (bnd (fn_Mo_highest v1 v2 v3 M8) (fun r22 M22 => some (.inl r22, M22))) else (some (.inl 0, M8))))
noncomputable def fn_Mo_countAbove_45 (k18 : Int32 → Int32 → Mm → Rs Int32) (v1 : Int32) (v2 : Int32) (v4 : Int32) (s0 : Int32) (s1 : Int32) (M : Mm) : Rs Int32 := li ((s0 + s1)) (fun x3_46 => li (v4 + 1) (fun x4_47 => k18 x3_46 x4_47 M))
noncomputable def fn_Mo_countAbove_18 (v1 : Int32) (v2 : Int32) : Nat → Int32 → Int32 → Mm → Rs Int32
  | 0, _, _, _ => none
  | n + 1, v3, v4, M => bnd (fn_Mo_many v1 M) (fun r22 M22 => if r22 ≤ v4 then (some (.inl v3, M22)) else (bnd (fn_Mo_at v1 v4 M22) (fun r33 M33 => if r33 ≤ v2 then (fn_Mo_countAbove_45 (fn_Mo_countAbove_18 v1 v2 n) v1 v2 v4 v3 0 M33) else (fn_Mo_countAbove_45 (fn_Mo_countAbove_18 v1 v2 n) v1 v2 v4 v3 1 M33))))
noncomputable def fn_Mo_countAbove (v1 : Int32) (v2 : Int32) (M : Mm) : Rs Int32 := bnd (fn_Mo_isSlot v1 M) (fun r2 M2 => bnd (fn_Mo_checked r2 M2) (fun r5 M5 => if r5 ≤ 0 then (fn_Mo_countAbove_18 v1 v2 fuel0 0 0 M5) else (some (.inl 0, M5))))
noncomputable def fn_Mo_valueByRank_116 (k46 : Int32 → Mm → Rs Int32) (k61 : Int32 → Int32 → Mm → Rs Int32) (v1 : Int32) (v2 : Int32) (v3 : Int32) (v5 : Int32) (s0 : Int32) (s1 : Int32) (M : Mm) : Rs Int32 := li ((s0 + s1)) (fun x4_117 => li (v5 + 1) (fun x5_119 => k61 x4_117 x5_119 M))
noncomputable def fn_Mo_valueByRank_111 (k46 : Int32 → Mm → Rs Int32) (k61 : Int32 → Int32 → Mm → Rs Int32) (v1 : Int32) (v2 : Int32) (v3 : Int32) (v5 : Int32) (s0 : Int32) (M : Mm) : Rs Int32 := fn_Mo_valueByRank_116 k46 k61 v1 v2 v3 v5 s0 1 M
noncomputable def fn_Mo_valueByRank_115 (k46 : Int32 → Mm → Rs Int32) (k61 : Int32 → Int32 → Mm → Rs Int32) (v1 : Int32) (v2 : Int32) (v3 : Int32) (v5 : Int32) (s0 : Int32) (M : Mm) : Rs Int32 := fn_Mo_valueByRank_116 k46 k61 v1 v2 v3 v5 s0 0 M
noncomputable def fn_Mo_valueByRank_131 (v1 : Int32) (v3 : Int32) (M : Mm) : Rs Int32 := bnd (fn_Mo_at v1 v3 M) (fun r134 M134 => some (.inl r134, M134))
noncomputable def fn_Mo_valueByRank_125 (k46 : Int32 → Mm → Rs Int32) (v1 : Int32) (v2 : Int32) (v3 : Int32) (v4 : Int32) (M : Mm) : Rs Int32 := if v4 = v2 then (fn_Mo_valueByRank_131 v1 v3 M) else (li (v3 + 1) (fun x3_138 => k46 x3_138 M))
noncomputable def fn_Mo_valueByRank_61 (k46 : Int32 → Mm → Rs Int32) (v1 : Int32) (v2 : Int32) (v3 : Int32) : Nat → Int32 → Int32 → Mm → Rs Int32
  | 0, _, _, _ => none
  | n + 1, v4, v5, M => bnd (fn_Mo_many v1 M) (fun r65 M65 => if r65 ≤ v5 then (fn_Mo_valueByRank_125 k46 v1 v2 v3 v4 M65) else (bnd (fn_Mo_at v1 v5 M65) (fun r77 M77 => bnd (fn_Mo_at v1 v3 M77) (fun r83 M83 => if r77 < r83 then (fn_Mo_valueByRank_111 k46 (fn_Mo_valueByRank_61 k46 v1 v2 v3 n) v1 v2 v3 v5 v4 M83) else (bnd (fn_Mo_at v1 v5 M83) (fun r93 M93 => bnd (fn_Mo_at v1 v3 M93) (fun r99 M99 => if r93 = r99 then (if v3 ≤ v5 then (fn_Mo_valueByRank_115 k46 (fn_Mo_valueByRank_61 k46 v1 v2 v3 n) v1 v2 v3 v5 v4 M99) else (fn_Mo_valueByRank_111 k46 (fn_Mo_valueByRank_61 k46 v1 v2 v3 n) v1 v2 v3 v5 v4 M99)) else (fn_Mo_valueByRank_115 k46 (fn_Mo_valueByRank_61 k46 v1 v2 v3 n) v1 v2 v3 v5 v4 M99))))))))
noncomputable def fn_Mo_valueByRank_46 (v1 : Int32) (v2 : Int32) : Nat → Int32 → Mm → Rs Int32
  | 0, _, _ => none
  | n + 1, v3, M => bnd (fn_Mo_many v1 M) (fun r49 M49 => if r49 ≤ v3 then (some (.inl 0, M49)) else (fn_Mo_valueByRank_61 (fn_Mo_valueByRank_46 v1 v2 n) v1 v2 v3 fuel0 0 0 M49))
noncomputable def fn_Mo_valueByRank_32 (v1 : Int32) (v2 : Int32) (s1 : Int32) (M : Mm) : Rs Int32 := lm (mset M 32 6 s1) (fun M32 => if (M32 32 6) ≤ 0 then (fn_Mo_valueByRank_46 v1 v2 fuel0 0 M32) else (some (.inl 0, M32)))
noncomputable def fn_Mo_valueByRank (v1 : Int32) (v2 : Int32) (M : Mm) : Rs Int32 := bnd (fn_Mo_isSlot v1 M) (fun r2 M2 => if r2 = 0 then (fn_Mo_valueByRank_32 v1 v2 1 M2) else (bnd (fn_Mo_many v1 M2) (fun r16 M16 => bnd (fn_Mo_in v2 0 (r16 - 1) M16) (fun r21 M21 => if r21 = 0 then (fn_Mo_valueByRank_32 v1 v2 2 M21) else (fn_Mo_valueByRank_32 v1 v2 0 M21)))))
noncomputable def fn_Mo_mean_25 (v1 : Int32) (s1 : Int32) (M : Mm) : Rs UInt64 := lm (mset M 32 6 s1) (fun M25 => if (M25 32 6) ≤ 0 then (bnd (fn_Mo_many v1 M25) (fun r44 M44 => bnd (fn_Mo_total v1 0 (r44 - 1) M44) (fun r49 M49 => bnd (fn_Mo_many v1 M49) (fun r55 M55 => grd (zz_n64 (FP.ddiv (FP.i2d r49) (FP.i2d r55))) (some (.inl (FP.ddiv (FP.i2d r49) (FP.i2d r55)), M55)))))) else (some (.inl FP.dconst0, M25)))
noncomputable def fn_Mo_mean (v1 : Int32) (M : Mm) : Rs UInt64 := bnd (fn_Mo_isSlot v1 M) (fun r2 M2 => if r2 = 0 then (fn_Mo_mean_25 v1 1 M2) else (bnd (fn_Mo_many v1 M2) (fun r14 M14 => if r14 = 0 then (fn_Mo_mean_25 v1 2 M14) else (fn_Mo_mean_25 v1 0 M14))))
noncomputable def fn_Mo_window_43 (v1 : Int32) (v2 : Int32) (v3 : Int32) (s1 : Int32) (M : Mm) : Rs Int32 := lm (mset M 32 6 s1) (fun M43 => if (M43 32 6) ≤ 0 then (bnd (fn_Mo_highest v1 ((v3 - v2) + 1) v3 M43) (fun r65 M65 => some (.inl r65, M65))) else (some (.inl 0, M43)))
noncomputable def fn_Mo_window (v1 : Int32) (v2 : Int32) (v3 : Int32) (M : Mm) : Rs Int32 := bnd (fn_Mo_isIndex v1 v3 M) (fun r4 M4 => if r4 = 0 then (fn_Mo_window_43 v1 v2 v3 1 M4) else (bnd (fn_Mo_many v1 M4) (fun r18 M18 => bnd (fn_Mo_in v2 1 r18 M18) (fun r21 M21 => if r21 = 0 then (fn_Mo_window_43 v1 v2 v3 2 M21) else (if (v2 - 1) ≤ v3 then (fn_Mo_window_43 v1 v2 v3 0 M21) else (fn_Mo_window_43 v1 v2 v3 3 M21))))))
noncomputable def fn_Mo_windowMaximum (v1 : Int32) (v2 : Int32) (v3 : Int32) (M : Mm) : Rs Int32 := bnd (fn_Mo_window v1 v2 v3 M) (fun r4 M4 => some (.inl r4, M4))
noncomputable def fn_Mo_windowMaximumByScan (v1 : Int32) (v2 : Int32) (v3 : Int32) (M : Mm) : Rs Int32 := bnd (fn_Mo_window v1 v2 v3 M) (fun r4 M4 => some (.inl r4, M4))
noncomputable def fn_Mo_later_51 (M : Mm) : Rs Int32 := bnd (fn_Mo_fail 2 M) (fun r53 M53 => some (.inl r53, M53))
noncomputable def fn_Mo_later_19 (v1 : Int32) (v2 : Int32) : Nat → Int32 → Mm → Rs Int32
  | 0, _, _ => none
  | n + 1, v3, M => bnd (fn_Mo_many v1 M) (fun r22 M22 => if r22 ≤ v3 then (fn_Mo_later_51 M22) else (bnd (fn_Mo_at v1 v3 M22) (fun r31 M31 => bnd (fn_Mo_at v1 v2 M31) (fun r37 M37 => if r31 ≤ r37 then (li (v3 + 1) (fun x3_45 => fn_Mo_later_19 v1 v2 n x3_45 M37)) else (some (.inl v3, M37))))))
noncomputable def fn_Mo_later (v1 : Int32) (v2 : Int32) (M : Mm) : Rs Int32 := bnd (fn_Mo_isIndex v1 v2 M) (fun r4 M4 => bnd (fn_Mo_checked r4 M4) (fun r7 M7 => if r7 ≤ 0 then (li ((v2 + 1)) (fun x3_18 => fn_Mo_later_19 v1 v2 fuel0 x3_18 M7)) else (some (.inl 0, M7))))
noncomputable def fn_Mo_nextGreater (v1 : Int32) (v2 : Int32) (M : Mm) : Rs Int32 := bnd (fn_Mo_later v1 v2 M) (fun r3 M3 => some (.inl r3, M3))
noncomputable def fn_Mo_nextGreaterByScan (v1 : Int32) (v2 : Int32) (M : Mm) : Rs Int32 := bnd (fn_Mo_later v1 v2 M) (fun r3 M3 => some (.inl r3, M3))
noncomputable def fn_Mo_peaks_59 (M : Mm) : Rs Int32 := some (.inl 1, M)
noncomputable def fn_Mo_peaks_26 (v1 : Int32) (v2 : Int32) (s0 : Int32) (M : Mm) : Rs Int32 := if s0 = 0 then (some (.inl 0, M)) else (bnd (fn_Mo_many v1 M) (fun r34 M34 => if v2 = (r34 - 1) then (fn_Mo_peaks_59 M34) else (bnd (fn_Mo_at v1 (v2 + 1) M34) (fun r47 M47 => bnd (fn_Mo_at v1 v2 M47) (fun r53 M53 => if r53 ≤ r47 then (some (.inl 0, M53)) else (fn_Mo_peaks_59 M53))))))
noncomputable def fn_Mo_peaks_21 (v1 : Int32) (v2 : Int32) (M : Mm) : Rs Int32 := fn_Mo_peaks_26 v1 v2 1 M
noncomputable def fn_Mo_peaks (v1 : Int32) (v2 : Int32) (M : Mm) : Rs Int32 := if v2 = 0 then (fn_Mo_peaks_21 v1 v2 M) else (bnd (fn_Mo_at v1 (v2 - 1) M) (fun r9 M9 => bnd (fn_Mo_at v1 v2 M9) (fun r15 M15 => if r15 ≤ r9 then (fn_Mo_peaks_26 v1 v2 0 M15) else (fn_Mo_peaks_21 v1 v2 M15))))
noncomputable def fn_Mo_peakCount_41 (k17 : Int32 → Int32 → Mm → Rs Int32) (v1 : Int32) (v3 : Int32) (s0 : Int32) (s1 : Int32) (M : Mm) : Rs Int32 := li ((s0 + s1)) (fun x2_42 => li (v3 + 1) (fun x3_43 => k17 x2_42 x3_43 M))
noncomputable def fn_Mo_peakCount_17 (v1 : Int32) : Nat → Int32 → Int32 → Mm → Rs Int32
  | 0, _, _, _ => none
  | n + 1, v2, v3, M => bnd (fn_Mo_many v1 M) (fun r20 M20 => if r20 ≤ v3 then (some (.inl v2, M20)) else (bnd (fn_Mo_peaks v1 v3 M20) (fun r30 M30 => if r30 = 0 then (fn_Mo_peakCount_41 (fn_Mo_peakCount_17 v1 n) v1 v3 v2 0 M30) else (fn_Mo_peakCount_41 (fn_Mo_peakCount_17 v1 n) v1 v3 v2 1 M30))))
noncomputable def fn_Mo_peakCount (v1 : Int32) (M : Mm) : Rs Int32 := bnd (fn_Mo_isSlot v1 M) (fun r2 M2 => bnd (fn_Mo_checked r2 M2) (fun r5 M5 => if r5 ≤ 0 then (fn_Mo_peakCount_17 v1 fuel0 0 0 M5) else (some (.inl 0, M5))))
noncomputable def fn_Mo_isPeak (v1 : Int32) (v2 : Int32) (M : Mm) : Rs Int32 := bnd (fn_Mo_isIndex v1 v2 M) (fun r4 M4 => bnd (fn_Mo_checked r4 M4) (fun r7 M7 => if r7 = 0 then (bnd (fn_Mo_peaks v1 v2 M7) (fun r16 M16 => if r16 = 0 then (some (.inl 0, M16)) else (some (.inl 1, M16)))) else (some (.inl 0, M7))))
noncomputable def fn_Mo_pit_63 (v4 : Int32) (M : Mm) : Rs Int32 := if v4 = 1000000000 then (some (.inl (-1000000000), M)) else (some (.inl v4, M))
noncomputable def fn_Mo_pit_9 (v1 : Int32) (v2 : Int32) (v3 : Int32) : Nat → Int32 → Int32 → Mm → Rs Int32
  | 0, _, _, _ => none
  | n + 1, v4, v5, M => if v5 < 0 then (fn_Mo_pit_63 v4 M) else (bnd (fn_Mo_many v1 M) (fun r18 M18 => if r18 ≤ v5 then (fn_Mo_pit_63 v4 M18) else (bnd (fn_Mo_at v1 v5 M18) (fun r28 M28 => bnd (fn_Mo_at v1 v2 M28) (fun r34 M34 => if r34 < r28 then (fn_Mo_pit_63 v4 M34) else (bnd (fn_Mo_at v1 v5 M34) (fun r46 M46 => bnd (fn_Mo_less v4 r46 M46) (fun r49 M49 => li ((v5 + v3)) (fun x5_58 => fn_Mo_pit_9 v1 v2 v3 n r49 x5_58 M49)))))))))
noncomputable def fn_Mo_pit (v1 : Int32) (v2 : Int32) (v3 : Int32) (M : Mm) : Rs Int32 := li ((v2 + v3)) (fun x5_7 => fn_Mo_pit_9 v1 v2 v3 fuel0 1000000000 x5_7 M)
noncomputable def fn_Mo_rise (v1 : Int32) (v2 : Int32) (M : Mm) : Rs Int32 := bnd (fn_Mo_many v1 M) (fun r2 M2 => if r2 = 1 then (some (.inl 0, M2)) else (bnd (fn_Mo_at v1 v2 M2) (fun r14 M14 => bnd (fn_Mo_pit v1 v2 (-1) M14) (fun r21 M21 => bnd (fn_Mo_pit v1 v2 1 M21) (fun r28 M28 => bnd (fn_Mo_more r21 r28 M28) (fun r31 M31 => some (.inl (r14 - r31), M31)))))))
noncomputable def fn_Mo_standing_28 (v1 : Int32) (v2 : Int32) (s1 : Int32) (M : Mm) : Rs Int32 := lm (mset M 32 6 s1) (fun M28 => if (M28 32 6) ≤ 0 then (bnd (fn_Mo_rise v1 v2 M28) (fun r45 M45 => some (.inl r45, M45))) else (some (.inl 0, M28)))
noncomputable def fn_Mo_standing (v1 : Int32) (v2 : Int32) (M : Mm) : Rs Int32 := bnd (fn_Mo_isIndex v1 v2 M) (fun r4 M4 => if r4 = 0 then (fn_Mo_standing_28 v1 v2 1 M4) else (bnd (fn_Mo_peaks v1 v2 M4) (fun r17 M17 => if r17 = 0 then (fn_Mo_standing_28 v1 v2 2 M17) else (fn_Mo_standing_28 v1 v2 0 M17))))
noncomputable def fn_Mo_prominence (v1 : Int32) (v2 : Int32) (M : Mm) : Rs Int32 := bnd (fn_Mo_standing v1 v2 M) (fun r3 M3 => some (.inl r3, M3))
noncomputable def fn_Mo_prominenceByLevels (v1 : Int32) (v2 : Int32) (M : Mm) : Rs Int32 := bnd (fn_Mo_standing v1 v2 M) (fun r3 M3 => some (.inl r3, M3))
noncomputable def fn_Mo_peakByProminence_124 (k15 : Int32 → Mm → Rs Int32) (v1 : Int32) (v2 : Int32) (v3 : Int32) (M : Mm) : Rs Int32 := li (v3 + 1) (fun x3_124 => k15 x3_124 M)
noncomputable def fn_Mo_peakByProminence_107 (k15 : Int32 → Mm → Rs Int32) (k42 : Int32 → Int32 → Mm → Rs Int32) (v1 : Int32) (v2 : Int32) (v3 : Int32) (v5 : Int32) (s0 : Int32) (s1 : Int32) (M : Mm) : Rs Int32 := li ((s0 + s1)) (fun x4_108 => li (v5 + 1) (fun x5_110 => k42 x4_108 x5_110 M))
noncomputable def fn_Mo_peakByProminence_102 (k15 : Int32 → Mm → Rs Int32) (k42 : Int32 → Int32 → Mm → Rs Int32) (v1 : Int32) (v2 : Int32) (v3 : Int32) (v5 : Int32) (s0 : Int32) (M : Mm) : Rs Int32 := fn_Mo_peakByProminence_107 k15 k42 v1 v2 v3 v5 s0 1 M
noncomputable def fn_Mo_peakByProminence_106 (k15 : Int32 → Mm → Rs Int32) (k42 : Int32 → Int32 → Mm → Rs Int32) (v1 : Int32) (v2 : Int32) (v3 : Int32) (v5 : Int32) (s0 : Int32) (M : Mm) : Rs Int32 := fn_Mo_peakByProminence_107 k15 k42 v1 v2 v3 v5 s0 0 M
noncomputable def fn_Mo_peakByProminence_116 (k15 : Int32 → Mm → Rs Int32) (v1 : Int32) (v2 : Int32) (v3 : Int32) (v4 : Int32) (M : Mm) : Rs Int32 := if v4 = v2 then (some (.inl v3, M)) else (fn_Mo_peakByProminence_124 k15 v1 v2 v3 M)
noncomputable def fn_Mo_peakByProminence_42 (k15 : Int32 → Mm → Rs Int32) (v1 : Int32) (v2 : Int32) (v3 : Int32) : Nat → Int32 → Int32 → Mm → Rs Int32
  | 0, _, _, _ => none
  | n + 1, v4, v5, M => bnd (fn_Mo_many v1 M) (fun r46 M46 => if r46 ≤ v5 then (fn_Mo_peakByProminence_116 k15 v1 v2 v3 v4 M46) else (bnd (fn_Mo_peaks v1 v5 M46) (fun r58 M58 => if r58 = 0 then (fn_Mo_peakByProminence_106 k15 (fn_Mo_peakByProminence_42 k15 v1 v2 v3 n) v1 v2 v3 v5 v4 M58) else (bnd (fn_Mo_rise v1 v5 M58) (fun r68 M68 => bnd (fn_Mo_rise v1 v3 M68) (fun r74 M74 => if r74 < r68 then (fn_Mo_peakByProminence_102 k15 (fn_Mo_peakByProminence_42 k15 v1 v2 v3 n) v1 v2 v3 v5 v4 M74) else (bnd (fn_Mo_rise v1 v5 M74) (fun r84 M84 => bnd (fn_Mo_rise v1 v3 M84) (fun r90 M90 => if r84 = r90 then (if v3 ≤ v5 then (fn_Mo_peakByProminence_106 k15 (fn_Mo_peakByProminence_42 k15 v1 v2 v3 n) v1 v2 v3 v5 v4 M90) else (fn_Mo_peakByProminence_102 k15 (fn_Mo_peakByProminence_42 k15 v1 v2 v3 n) v1 v2 v3 v5 v4 M90)) else (fn_Mo_peakByProminence_106 k15 (fn_Mo_peakByProminence_42 k15 v1 v2 v3 n) v1 v2 v3 v5 v4 M90))))))))))
noncomputable def fn_Mo_peakByProminence_130 (M : Mm) : Rs Int32 := bnd (fn_Mo_fail 2 M) (fun r132 M132 => some (.inl r132, M132))
noncomputable def fn_Mo_peakByProminence_15 (v1 : Int32) (v2 : Int32) : Nat → Int32 → Mm → Rs Int32
  | 0, _, _ => none
  | n + 1, v3, M => bnd (fn_Mo_many v1 M) (fun r18 M18 => if r18 ≤ v3 then (fn_Mo_peakByProminence_130 M18) else (bnd (fn_Mo_peaks v1 v3 M18) (fun r27 M27 => if r27 = 0 then (fn_Mo_peakByProminence_124 (fn_Mo_peakByProminence_15 v1 v2 n) v1 v2 v3 M27) else (fn_Mo_peakByProminence_42 (fn_Mo_peakByProminence_15 v1 v2 n) v1 v2 v3 fuel0 0 0 M27))))
noncomputable def fn_Mo_peakByProminence (v1 : Int32) (v2 : Int32) (M : Mm) : Rs Int32 := bnd (fn_Mo_isSlot v1 M) (fun r2 M2 => bnd (fn_Mo_checked r2 M2) (fun r5 M5 => if r5 ≤ 0 then (fn_Mo_peakByProminence_15 v1 v2 fuel0 0 M5) else (some (.inl 0, M5))))
noncomputable def fn_Mo_filled_25 (s1 : Int32) (M : Mm) : Rs Int32 := lm (mset M 32 6 s1) (fun M25 => some (.inl (M25 32 6), M25))
noncomputable def fn_Mo_filled (v1 : Int32) (M : Mm) : Rs Int32 := bnd (fn_Mo_isSlot v1 M) (fun r2 M2 => if r2 = 0 then (fn_Mo_filled_25 1 M2) else (bnd (fn_Mo_many v1 M2) (fun r14 M14 => if r14 = 0 then (fn_Mo_filled_25 2 M14) else (fn_Mo_filled_25 0 M14))))
noncomputable def fn_Mo_best_67 (k8 : Int32 → Int32 → Int32 → Mm → Rs Int32) (k22 : Int32 → Int32 → Int32 → Mm → Rs Int32) (v1 : Int32) (v2 : Int32) (v3 : Int32) (v4 : Int32) (v5 : Int32) (M : Mm) : Rs Int32 := li (v5 + 1) (fun x5_67 => k22 v2 v3 x5_67 M)
noncomputable def fn_Mo_best_73 (k8 : Int32 → Int32 → Int32 → Mm → Rs Int32) (v1 : Int32) (v2 : Int32) (v3 : Int32) (v4 : Int32) (M : Mm) : Rs Int32 := li (v4 + 1) (fun x4_73 => k8 v2 v3 x4_73 M)
noncomputable def fn_Mo_best_22 (k8 : Int32 → Int32 → Int32 → Mm → Rs Int32) (v1 : Int32) (v4 : Int32) : Nat → Int32 → Int32 → Int32 → Mm → Rs Int32
  | 0, _, _, _, _ => none
  | n + 1, v2, v3, v5, M => bnd (fn_Mo_many v1 M) (fun r26 M26 => if r26 ≤ v5 then (fn_Mo_best_73 k8 v1 v2 v3 v4 M26) else (bnd (fn_Mo_total v1 v4 v5 M26) (fun r38 M38 => if v3 < r38 then (bnd (fn_Mo_total v1 v4 v5 M38) (fun r54 M54 => li (((20 * v4) + v5)) (fun x2_66 => fn_Mo_best_67 k8 (fn_Mo_best_22 k8 v1 v4 n) v1 x2_66 r54 v4 v5 M54))) else (fn_Mo_best_67 k8 (fn_Mo_best_22 k8 v1 v4 n) v1 v2 v3 v4 v5 M38))))
noncomputable def fn_Mo_best_8 (v1 : Int32) : Nat → Int32 → Int32 → Int32 → Mm → Rs Int32
  | 0, _, _, _, _ => none
  | n + 1, v2, v3, v4, M => bnd (fn_Mo_many v1 M) (fun r12 M12 => if r12 ≤ v4 then (some (.inl v2, M12)) else (fn_Mo_best_22 (fn_Mo_best_8 v1 n) v1 v4 fuel0 v2 v3 v4 M12))
noncomputable def fn_Mo_best (v1 : Int32) (M : Mm) : Rs Int32 := fn_Mo_best_8 v1 fuel0 0 (-1000000000) 0 M
noncomputable def fn_Mo_bestOf (v1 : Int32) (M : Mm) : Rs Int32 := bnd (fn_Mo_filled v1 M) (fun r2 M2 => if r2 ≤ 0 then (bnd (fn_Mo_best v1 M2) (fun r16 M16 => bnd (fn_Mo_best v1 M16) (fun r24 M24 => bnd (fn_Mo_total v1 (r16 / 20) (r24 - r24 / 20 * 20) M24) (fun r30 M30 => some (.inl r30, M30))))) else (some (.inl 0, M2)))
noncomputable def fn_Mo_bestSum (v1 : Int32) (M : Mm) : Rs Int32 := bnd (fn_Mo_bestOf v1 M) (fun r2 M2 => some (.inl r2, M2))
noncomputable def fn_Mo_bestSumByRanges (v1 : Int32) (M : Mm) : Rs Int32 := bnd (fn_Mo_bestOf v1 M) (fun r2 M2 => some (.inl r2, M2))
noncomputable def fn_Mo_bestStart (v1 : Int32) (M : Mm) : Rs Int32 := bnd (fn_Mo_filled v1 M) (fun r2 M2 => if r2 ≤ 0 then (bnd (fn_Mo_best v1 M2) (fun r14 M14 => some (.inl (r14 / 20), M14))) else (some (.inl 0, M2)))
noncomputable def fn_Mo_bestEnd (v1 : Int32) (M : Mm) : Rs Int32 := bnd (fn_Mo_filled v1 M) (fun r2 M2 => if r2 ≤ 0 then (bnd (fn_Mo_best v1 M2) (fun r14 M14 => some (.inl (r14 - r14 / 20 * 20), M14))) else (some (.inl 0, M2)))
noncomputable def fn_Mo_falling_57 (k17 : Int32 → Int32 → Mm → Rs Int32) (k29 : Int32 → Int32 → Mm → Rs Int32) (v1 : Int32) (v3 : Int32) (v4 : Int32) (s0 : Int32) (s1 : Int32) (M : Mm) : Rs Int32 := li ((s0 + s1)) (fun x2_58 => li (v4 + 1) (fun x4_59 => k29 x2_58 x4_59 M))
noncomputable def fn_Mo_falling_65 (k17 : Int32 → Int32 → Mm → Rs Int32) (v1 : Int32) (v2 : Int32) (v3 : Int32) (M : Mm) : Rs Int32 := li (v3 + 1) (fun x3_65 => k17 v2 x3_65 M)
noncomputable def fn_Mo_falling_29 (k17 : Int32 → Int32 → Mm → Rs Int32) (v1 : Int32) (v3 : Int32) : Nat → Int32 → Int32 → Mm → Rs Int32
  | 0, _, _, _ => none
  | n + 1, v2, v4, M => if v3 ≤ v4 then (fn_Mo_falling_65 k17 v1 v2 v3 M) else (bnd (fn_Mo_at v1 v4 M) (fun r40 M40 => bnd (fn_Mo_at v1 v3 M40) (fun r46 M46 => if r40 ≤ r46 then (fn_Mo_falling_57 k17 (fn_Mo_falling_29 k17 v1 v3 n) v1 v3 v4 v2 0 M46) else (fn_Mo_falling_57 k17 (fn_Mo_falling_29 k17 v1 v3 n) v1 v3 v4 v2 1 M46))))
noncomputable def fn_Mo_falling_17 (v1 : Int32) : Nat → Int32 → Int32 → Mm → Rs Int32
  | 0, _, _, _ => none
  | n + 1, v2, v3, M => bnd (fn_Mo_many v1 M) (fun r20 M20 => if r20 ≤ v3 then (some (.inl v2, M20)) else (fn_Mo_falling_29 (fn_Mo_falling_17 v1 n) v1 v3 fuel0 v2 0 M20))
noncomputable def fn_Mo_falling (v1 : Int32) (M : Mm) : Rs Int32 := bnd (fn_Mo_isSlot v1 M) (fun r2 M2 => bnd (fn_Mo_checked r2 M2) (fun r5 M5 => if r5 ≤ 0 then (fn_Mo_falling_17 v1 fuel0 0 0 M5) else (some (.inl 0, M5))))
noncomputable def fn_Mo_inversions (v1 : Int32) (M : Mm) : Rs Int32 := bnd (fn_Mo_falling v1 M) (fun r2 M2 => some (.inl r2, M2))
noncomputable def fn_Mo_inversionsByPairs (v1 : Int32) (M : Mm) : Rs Int32 := bnd (fn_Mo_falling v1 M) (fun r2 M2 => some (.inl r2, M2))
noncomputable def fn_Mo_period_50 (k14 : Int32 → Int32 → Mm → Rs Int32) (v1 : Int32) (v2 : Int32) (v3 : Int32) (M : Mm) : Rs Int32 := li (v3 + 1) (fun x3_50 => k14 v2 x3_50 M)
noncomputable def fn_Mo_period_14 (v1 : Int32) : Nat → Int32 → Int32 → Mm → Rs Int32
  | 0, _, _, _ => none
  | n + 1, v2, v3, M => bnd (fn_Mo_many v1 M) (fun r19 M19 => if r19 ≤ (v3 + v2) then (some (.inl v2, M19)) else (bnd (fn_Mo_at v1 v3 M19) (fun r28 M28 => bnd (fn_Mo_at v1 (v3 + v2) M28) (fun r36 M36 => if r28 = r36 then (fn_Mo_period_50 (fn_Mo_period_14 v1 n) v1 v2 v3 M36) else (li (v2 + 1) (fun x2_45 => fn_Mo_period_50 (fn_Mo_period_14 v1 n) v1 x2_45 (-1) M36))))))
noncomputable def fn_Mo_period (v1 : Int32) (M : Mm) : Rs Int32 := bnd (fn_Mo_filled v1 M) (fun r2 M2 => if r2 ≤ 0 then (fn_Mo_period_14 v1 fuel0 1 0 M2) else (some (.inl 0, M2)))
noncomputable def fn_Mo_leastPeriod (v1 : Int32) (M : Mm) : Rs Int32 := bnd (fn_Mo_period v1 M) (fun r2 M2 => some (.inl r2, M2))
noncomputable def fn_Mo_leastPeriodByTrial (v1 : Int32) (M : Mm) : Rs Int32 := bnd (fn_Mo_period v1 M) (fun r2 M2 => some (.inl r2, M2))
noncomputable def fn_Mo_isThere_3 (v1 : Int32) (v2 : Int32) (v3 : Int32) : Nat → Int32 → Mm → Rs Int32
  | 0, _, _ => none
  | n + 1, v4, M => bnd (fn_Mo_many v2 M) (fun r7 M7 => if r7 ≤ v4 then (some (.inl 1, M7)) else (bnd (fn_Mo_at v1 (v3 + v4) M7) (fun r19 M19 => bnd (fn_Mo_at v2 v4 M19) (fun r26 M26 => if r19 = r26 then (li (v4 + 1) (fun x4_34 => fn_Mo_isThere_3 v1 v2 v3 n x4_34 M26)) else (some (.inl 0, M26))))))
noncomputable def fn_Mo_isThere (v1 : Int32) (v2 : Int32) (v3 : Int32) (M : Mm) : Rs Int32 := fn_Mo_isThere_3 v1 v2 v3 fuel0 0 M
noncomputable def fn_Mo_places_82 (k49 : Int32 → Int32 → Mm → Rs Int32) (v1 : Int32) (v2 : Int32) (v4 : Int32) (s0 : Int32) (s1 : Int32) (M : Mm) : Rs Int32 := li ((s0 + s1)) (fun x3_83 => li (v4 + 1) (fun x4_84 => k49 x3_83 x4_84 M))
noncomputable def fn_Mo_places_49 (v1 : Int32) (v2 : Int32) : Nat → Int32 → Int32 → Mm → Rs Int32
  | 0, _, _, _ => none
  | n + 1, v3, v4, M => bnd (fn_Mo_many v2 M) (fun r53 M53 => bnd (fn_Mo_many v1 M53) (fun r59 M59 => if r59 < (v4 + r53) then (some (.inl v3, M59)) else (bnd (fn_Mo_isThere v1 v2 v4 M59) (fun r71 M71 => if r71 = 0 then (fn_Mo_places_82 (fn_Mo_places_49 v1 v2 n) v1 v2 v4 v3 0 M71) else (fn_Mo_places_82 (fn_Mo_places_49 v1 v2 n) v1 v2 v4 v3 1 M71)))))
noncomputable def fn_Mo_places_32 (v1 : Int32) (v2 : Int32) (s1 : Int32) (M : Mm) : Rs Int32 := lm (mset M 32 6 s1) (fun M32 => if (M32 32 6) ≤ 0 then (fn_Mo_places_49 v1 v2 fuel0 0 0 M32) else (some (.inl 0, M32)))
noncomputable def fn_Mo_places_15 (v1 : Int32) (v2 : Int32) (M : Mm) : Rs Int32 := fn_Mo_places_32 v1 v2 1 M
noncomputable def fn_Mo_places (v1 : Int32) (v2 : Int32) (M : Mm) : Rs Int32 := bnd (fn_Mo_isSlot v1 M) (fun r2 M2 => if r2 = 0 then (fn_Mo_places_15 v1 v2 M2) else (bnd (fn_Mo_isSlot v2 M2) (fun r9 M9 => if r9 = 0 then (fn_Mo_places_15 v1 v2 M9) else (bnd (fn_Mo_many v2 M9) (fun r21 M21 => if r21 = 0 then (fn_Mo_places_32 v1 v2 2 M21) else (fn_Mo_places_32 v1 v2 0 M21))))))
noncomputable def fn_Mo_occurrences (v1 : Int32) (v2 : Int32) (M : Mm) : Rs Int32 := bnd (fn_Mo_places v1 v2 M) (fun r3 M3 => some (.inl r3, M3))
noncomputable def fn_Mo_occurrencesByScan (v1 : Int32) (v2 : Int32) (M : Mm) : Rs Int32 := bnd (fn_Mo_places v1 v2 M) (fun r3 M3 => some (.inl r3, M3))
noncomputable def fn_Mo_error (v1 : Int32) (v2 : Int32) (v3 : Int32) (M : Mm) : Rs Int32 := bnd (fn_Mo_highest v1 v2 v3 M) (fun r4 M4 => bnd (fn_Mo_lowest v1 v2 v3 M4) (fun r11 M11 => some (.inl (r4 - r11), M11)))
noncomputable def fn_Mo_withFirst (v1 : Int32) (v2 : Int32) (v3 : Int32) (v4 : Int32) (M : Mm) : Rs Int32 := bnd (fn_Mo_error v1 v3 v4 M) (fun r5 M5 => grd (inb (((21 * (v2 - 1)) + v4) + 1) 105) (some (.inl (r5 + (M5 37 (((21 * (v2 - 1)) + v4) + 1).toNatClampNeg)), M5)))
noncomputable def fn_Mo_divide_28 (k2 : Int32 → Mm → Rs Unit) (v1 : Int32) (v2 : Int32) (s1 : Int32) (s2 : Int32) (M : Mm) : Rs Unit := grd (inb s1 105) (lm (mset M 37 s1.toNatClampNeg s2) (fun M28 => li (v2 + 1) (fun x2_29 => k2 x2_29 M28)))
noncomputable def fn_Mo_divide_89 (k37 : Int32 → Mm → Rs Unit) (k44 : Int32 → Mm → Rs Unit) (v1 : Int32) (v2 : Int32) (v3 : Int32) (v4 : Int32) (M : Mm) : Rs Unit := grd (inb ((21 * v2) + v3) 105) (lm (mset M 37 ((21 * v2) + v3).toNatClampNeg v4) (fun M101 => li (v3 + 1) (fun x3_102 => k44 x3_102 M101)))
noncomputable def fn_Mo_divide_57 (k37 : Int32 → Mm → Rs Unit) (k44 : Int32 → Mm → Rs Unit) (v1 : Int32) (v2 : Int32) (v3 : Int32) : Nat → Int32 → Int32 → Mm → Rs Unit
  | 0, _, _, _ => none
  | n + 1, v4, v5, M => bnd (fn_Mo_many v1 M) (fun r61 M61 => if r61 ≤ v5 then (fn_Mo_divide_89 k37 k44 v1 v2 v3 v4 M61) else (bnd (fn_Mo_withFirst v1 v2 v3 v5 M61) (fun r75 M75 => bnd (fn_Mo_less v4 r75 M75) (fun r78 M78 => li (v5 + 1) (fun x5_83 => fn_Mo_divide_57 k37 k44 v1 v2 v3 n r78 x5_83 M78)))))
noncomputable def fn_Mo_divide_108 (k37 : Int32 → Mm → Rs Unit) (v1 : Int32) (v2 : Int32) (M : Mm) : Rs Unit := li (v2 + 1) (fun x2_108 => k37 x2_108 M)
noncomputable def fn_Mo_divide_44 (k37 : Int32 → Mm → Rs Unit) (v1 : Int32) (v2 : Int32) : Nat → Int32 → Mm → Rs Unit
  | 0, _, _ => none
  | n + 1, v3, M => if 20 < v3 then (fn_Mo_divide_108 k37 v1 v2 M) else (fn_Mo_divide_57 k37 (fn_Mo_divide_44 k37 v1 v2 n) v1 v2 v3 fuel0 1000000000 v3 M)
noncomputable def fn_Mo_divide_37 (v1 : Int32) : Nat → Int32 → Mm → Rs Unit
  | 0, _, _ => none
  | n + 1, v2, M => if 5 ≤ v2 then (some (.inl (), M)) else (fn_Mo_divide_44 (fn_Mo_divide_37 v1 n) v1 v2 fuel0 0 M)
noncomputable def fn_Mo_divide_35 (v1 : Int32) (M : Mm) : Rs Unit := fn_Mo_divide_37 v1 fuel0 1 M
noncomputable def fn_Mo_divide_2 (v1 : Int32) : Nat → Int32 → Mm → Rs Unit
  | 0, _, _ => none
  | n + 1, v2, M => if 20 < v2 then (fn_Mo_divide_35 v1 M) else (bnd (fn_Mo_many v1 M) (fun r16 M16 => if v2 = r16 then (fn_Mo_divide_28 (fn_Mo_divide_2 v1 n) v1 v2 v2 0 M16) else (fn_Mo_divide_28 (fn_Mo_divide_2 v1 n) v1 v2 v2 1000000000 M16)))
noncomputable def fn_Mo_divide (v1 : Int32) (M : Mm) : Rs Unit := fn_Mo_divide_2 v1 fuel0 0 M
noncomputable def fn_Mo_cannotDivide (v1 : Int32) (v2 : Int32) (M : Mm) : Rs Int32 := bnd (fn_Mo_isSlot v1 M) (fun r1 M1 => if r1 = 0 then (some (.inl 1, M1)) else (bnd (fn_Mo_in v2 1 4 M1) (fun r14 M14 => if r14 = 0 then (some (.inl 2, M14)) else (bnd (fn_Mo_many v1 M14) (fun r26 M26 => if v2 ≤ r26 then (some (.inl 0, M26)) else (some (.inl 3, M26)))))))
noncomputable def fn_Mo_errorOf (v1 : Int32) (v2 : Int32) (M : Mm) : Rs Int32 := bnd (fn_Mo_cannotDivide v1 v2 M) (fun r4 M4 => lm (mset M4 32 6 r4) (fun M7 => if (M7 32 6) ≤ 0 then (bnd (fn_Mo_divide v1 M7) (fun r21 M21 => grd (inb (21 * v2) 105) (some (.inl (M21 37 (21 * v2).toNatClampNeg), M21)))) else (some (.inl 0, M7))))
noncomputable def fn_Mo_leastError (v1 : Int32) (v2 : Int32) (M : Mm) : Rs Int32 := bnd (fn_Mo_errorOf v1 v2 M) (fun r3 M3 => some (.inl r3, M3))
noncomputable def fn_Mo_leastErrorByCuts (v1 : Int32) (v2 : Int32) (M : Mm) : Rs Int32 := bnd (fn_Mo_errorOf v1 v2 M) (fun r3 M3 => some (.inl r3, M3))
noncomputable def fn_Mo_segmentStart_100 (k53 : Int32 → Int32 → Mm → Rs Int32) (v1 : Int32) (v2 : Int32) (v3 : Int32) (v5 : Int32) (v6 : Int32) (M : Mm) : Rs Int32 := li ((v6 + 1)) (fun x4_104 => li (v5 + 1) (fun x5_106 => k53 x4_104 x5_106 M))
noncomputable def fn_Mo_segmentStart_63 (k53 : Int32 → Int32 → Mm → Rs Int32) (v1 : Int32) (v2 : Int32) (v3 : Int32) (v4 : Int32) (v5 : Int32) : Nat → Int32 → Mm → Rs Int32
  | 0, _, _ => none
  | n + 1, v6, M => bnd (fn_Mo_withFirst v1 (v2 - v5) v4 v6 M) (fun r73 M73 => grd (inb ((21 * (v2 - v5)) + v4) 105) (if r73 = (M73 37 ((21 * (v2 - v5)) + v4).toNatClampNeg) then (fn_Mo_segmentStart_100 k53 v1 v2 v3 v5 v6 M73) else (li (v6 + 1) (fun x6_94 => fn_Mo_segmentStart_63 k53 v1 v2 v3 v4 v5 n x6_94 M73))))
noncomputable def fn_Mo_segmentStart_53 (v1 : Int32) (v2 : Int32) (v3 : Int32) : Nat → Int32 → Int32 → Mm → Rs Int32
  | 0, _, _, _ => none
  | n + 1, v4, v5, M => if v3 ≤ v5 then (some (.inl v4, M)) else (fn_Mo_segmentStart_63 (fn_Mo_segmentStart_53 v1 v2 v3 n) v1 v2 v3 v4 v5 fuel0 v4 M)
noncomputable def fn_Mo_segmentStart_33 (v1 : Int32) (v2 : Int32) (v3 : Int32) (M : Mm) : Rs Int32 := if (M 32 6) ≤ 0 then (bnd (fn_Mo_divide v1 M) (fun r44 M44 => fn_Mo_segmentStart_53 v1 v2 v3 fuel0 0 0 M44)) else (some (.inl 0, M))
noncomputable def fn_Mo_segmentStart (v1 : Int32) (v2 : Int32) (v3 : Int32) (M : Mm) : Rs Int32 := bnd (fn_Mo_cannotDivide v1 v2 M) (fun r4 M4 => lm (mset M4 32 6 r4) (fun M7 => if (M7 32 6) = 0 then (bnd (fn_Mo_in v3 0 (v2 - 1) M7) (fun r22 M22 => if r22 = 0 then (lm (mset M22 32 6 4) (fun M30 => fn_Mo_segmentStart_33 v1 v2 v3 M30)) else (fn_Mo_segmentStart_33 v1 v2 v3 M22))) else (fn_Mo_segmentStart_33 v1 v2 v3 M7)))
noncomputable def fn_Mo_walk_148 (k54 : Int32 → Mm → Rs Int32) (k69 : Int32 → Int32 → Mm → Rs Int32) (v1 : Int32) (v2 : Int32) (v3 : Int32) (v5 : Int32) (v6 : Int32) (M : Mm) : Rs Int32 := grd (inb v5 20) (li (M 38 v5.toNatClampNeg) (fun x4_155 => bnd (fn_Mo_at v1 v3 M) (fun r168 M168 => bnd (fn_Mo_at v2 v5 M168) (fun r175 M175 => bnd (fn_Mo_size (r168 - r175) M175) (fun r179 M179 => grd (inb v5 20) (lm (mset M179 38 v5.toNatClampNeg (v6 + r179)) (fun M183 => li (v5 + 1) (fun x5_184 => k69 x4_155 x5_184 M183))))))))
noncomputable def fn_Mo_walk_130 (k54 : Int32 → Mm → Rs Int32) (k69 : Int32 → Int32 → Mm → Rs Int32) (v1 : Int32) (v2 : Int32) (v3 : Int32) (v4 : Int32) (v5 : Int32) (v6 : Int32) (M : Mm) : Rs Int32 := if v3 ≤ 0 then (fn_Mo_walk_148 k54 k69 v1 v2 v3 v5 v6 M) else (if v5 ≤ 0 then (fn_Mo_walk_148 k54 k69 v1 v2 v3 v5 v6 M) else (bnd (fn_Mo_less v6 v4 M) (fun r143 M143 => fn_Mo_walk_148 k54 k69 v1 v2 v3 v5 r143 M143)))
noncomputable def fn_Mo_walk_109 (k54 : Int32 → Mm → Rs Int32) (k69 : Int32 → Int32 → Mm → Rs Int32) (v1 : Int32) (v2 : Int32) (v3 : Int32) (v4 : Int32) (v5 : Int32) (v6 : Int32) (M : Mm) : Rs Int32 := if v5 ≤ 0 then (fn_Mo_walk_130 k54 k69 v1 v2 v3 v4 v5 v6 M) else (grd (inb (v5 - 1) 20) (bnd (fn_Mo_less v6 (M 38 (v5 - 1).toNatClampNeg) M) (fun r125 M125 => fn_Mo_walk_130 k54 k69 v1 v2 v3 v4 v5 r125 M125)))
noncomputable def fn_Mo_walk_94 (k54 : Int32 → Mm → Rs Int32) (k69 : Int32 → Int32 → Mm → Rs Int32) (v1 : Int32) (v2 : Int32) (v3 : Int32) (v4 : Int32) (v5 : Int32) (s0 : Int32) (M : Mm) : Rs Int32 := if v3 ≤ 0 then (fn_Mo_walk_109 k54 k69 v1 v2 v3 v4 v5 s0 M) else (grd (inb v5 20) (li (M 38 v5.toNatClampNeg) (fun x6_107 => fn_Mo_walk_109 k54 k69 v1 v2 v3 v4 v5 x6_107 M)))
noncomputable def fn_Mo_walk_92 (k54 : Int32 → Mm → Rs Int32) (k69 : Int32 → Int32 → Mm → Rs Int32) (v1 : Int32) (v2 : Int32) (v3 : Int32) (v4 : Int32) (v5 : Int32) (M : Mm) : Rs Int32 := fn_Mo_walk_94 k54 k69 v1 v2 v3 v4 v5 1000000000 M
noncomputable def fn_Mo_walk_190 (k54 : Int32 → Mm → Rs Int32) (v1 : Int32) (v2 : Int32) (v3 : Int32) (M : Mm) : Rs Int32 := li (v3 + 1) (fun x3_190 => k54 x3_190 M)
noncomputable def fn_Mo_walk_69 (k54 : Int32 → Mm → Rs Int32) (v1 : Int32) (v2 : Int32) (v3 : Int32) : Nat → Int32 → Int32 → Mm → Rs Int32
  | 0, _, _, _ => none
  | n + 1, v4, v5, M => bnd (fn_Mo_many v2 M) (fun r73 M73 => if r73 ≤ v5 then (fn_Mo_walk_190 k54 v1 v2 v3 M73) else (if v3 = 0 then (if v5 = 0 then (fn_Mo_walk_94 k54 (fn_Mo_walk_69 k54 v1 v2 v3 n) v1 v2 v3 v4 v5 0 M73) else (fn_Mo_walk_92 k54 (fn_Mo_walk_69 k54 v1 v2 v3 n) v1 v2 v3 v4 v5 M73)) else (fn_Mo_walk_92 k54 (fn_Mo_walk_69 k54 v1 v2 v3 n) v1 v2 v3 v4 v5 M73)))
noncomputable def fn_Mo_walk_196 (v2 : Int32) (M : Mm) : Rs Int32 := bnd (fn_Mo_many v2 M) (fun r202 M202 => grd (inb (r202 - 1) 20) (some (.inl (M202 38 (r202 - 1).toNatClampNeg), M202)))
noncomputable def fn_Mo_walk_54 (v1 : Int32) (v2 : Int32) : Nat → Int32 → Mm → Rs Int32
  | 0, _, _ => none
  | n + 1, v3, M => bnd (fn_Mo_many v1 M) (fun r57 M57 => if r57 ≤ v3 then (fn_Mo_walk_196 v2 M57) else (fn_Mo_walk_69 (fn_Mo_walk_54 v1 v2 n) v1 v2 v3 fuel0 0 0 M57))
noncomputable def fn_Mo_walk_40 (v1 : Int32) (v2 : Int32) (s1 : Int32) (M : Mm) : Rs Int32 := lm (mset M 32 6 s1) (fun M40 => if (M40 32 6) ≤ 0 then (fn_Mo_walk_54 v1 v2 fuel0 0 M40) else (some (.inl 0, M40)))
noncomputable def fn_Mo_walk_15 (v1 : Int32) (v2 : Int32) (M : Mm) : Rs Int32 := fn_Mo_walk_40 v1 v2 1 M
noncomputable def fn_Mo_walk_35 (v1 : Int32) (v2 : Int32) (M : Mm) : Rs Int32 := fn_Mo_walk_40 v1 v2 2 M
noncomputable def fn_Mo_walk (v1 : Int32) (v2 : Int32) (M : Mm) : Rs Int32 := bnd (fn_Mo_isSlot v1 M) (fun r2 M2 => if r2 = 0 then (fn_Mo_walk_15 v1 v2 M2) else (bnd (fn_Mo_isSlot v2 M2) (fun r9 M9 => if r9 = 0 then (fn_Mo_walk_15 v1 v2 M9) else (bnd (fn_Mo_many v1 M9) (fun r21 M21 => if r21 = 0 then (fn_Mo_walk_35 v1 v2 M21) else (bnd (fn_Mo_many v2 M21) (fun r29 M29 => if r29 = 0 then (fn_Mo_walk_35 v1 v2 M29) else (fn_Mo_walk_40 v1 v2 0 M29))))))))
noncomputable def fn_Mo_distance (v1 : Int32) (v2 : Int32) (M : Mm) : Rs Int32 := bnd (fn_Mo_walk v1 v2 M) (fun r3 M3 => some (.inl r3, M3))
noncomputable def fn_Mo_distanceByWalks (v1 : Int32) (v2 : Int32) (M : Mm) : Rs Int32 := bnd (fn_Mo_walk v1 v2 M) (fun r3 M3 => some (.inl r3, M3))
noncomputable def fn_Mo_areParallelBy_18 (v1 : Int32) (v2 : Int32) (v3 : Int32) : Nat → Int32 → Mm → Rs Int32
  | 0, _, _ => none
  | n + 1, v4, M => bnd (fn_Mo_many v1 M) (fun r22 M22 => if r22 ≤ v4 then (some (.inl 1, M22)) else (bnd (fn_Mo_at v1 v4 M22) (fun r32 M32 => bnd (fn_Mo_at v2 v4 M32) (fun r39 M39 => if (r32 - r39) = v3 then (li (v4 + 1) (fun x4_49 => fn_Mo_areParallelBy_18 v1 v2 v3 n x4_49 M39)) else (some (.inl 0, M39))))))
noncomputable def fn_Mo_areParallelBy (v1 : Int32) (v2 : Int32) (v3 : Int32) (M : Mm) : Rs Int32 := bnd (fn_Mo_many v1 M) (fun r2 M2 => bnd (fn_Mo_many v2 M2) (fun r7 M7 => if r2 = r7 then (fn_Mo_areParallelBy_18 v1 v2 v3 fuel0 0 M7) else (some (.inl 0, M7))))
noncomputable def fn_Mo_areEqual_20 (v1 : Int32) (v2 : Int32) (s1 : Int32) (M : Mm) : Rs Int32 := bnd (fn_Mo_checked s1 M) (fun r20 M20 => if r20 = 0 then (bnd (fn_Mo_areParallelBy v1 v2 0 M20) (fun r30 M30 => if r30 = 0 then (some (.inl 0, M30)) else (some (.inl 1, M30)))) else (some (.inl 0, M20)))
noncomputable def fn_Mo_areEqual_19 (v1 : Int32) (v2 : Int32) (M : Mm) : Rs Int32 := fn_Mo_areEqual_20 v1 v2 0 M
noncomputable def fn_Mo_areEqual (v1 : Int32) (v2 : Int32) (M : Mm) : Rs Int32 := bnd (fn_Mo_isSlot v1 M) (fun r2 M2 => if r2 = 0 then (fn_Mo_areEqual_19 v1 v2 M2) else (bnd (fn_Mo_isSlot v2 M2) (fun r9 M9 => if r9 = 0 then (fn_Mo_areEqual_19 v1 v2 M9) else (fn_Mo_areEqual_20 v1 v2 1 M9))))
noncomputable def fn_Mo_areParallel_20 (v1 : Int32) (v2 : Int32) (s1 : Int32) (M : Mm) : Rs Int32 := bnd (fn_Mo_checked s1 M) (fun r20 M20 => if r20 = 0 then (bnd (fn_Mo_at v1 0 M20) (fun r32 M32 => bnd (fn_Mo_at v2 0 M32) (fun r38 M38 => bnd (fn_Mo_areParallelBy v1 v2 (r32 - r38) M38) (fun r42 M42 => if r42 = 0 then (some (.inl 0, M42)) else (some (.inl 1, M42)))))) else (some (.inl 0, M20)))
noncomputable def fn_Mo_areParallel_19 (v1 : Int32) (v2 : Int32) (M : Mm) : Rs Int32 := fn_Mo_areParallel_20 v1 v2 0 M
noncomputable def fn_Mo_areParallel (v1 : Int32) (v2 : Int32) (M : Mm) : Rs Int32 := bnd (fn_Mo_isSlot v1 M) (fun r2 M2 => if r2 = 0 then (fn_Mo_areParallel_19 v1 v2 M2) else (bnd (fn_Mo_isSlot v2 M2) (fun r9 M9 => if r9 = 0 then (fn_Mo_areParallel_19 v1 v2 M9) else (fn_Mo_areParallel_20 v1 v2 1 M9))))
noncomputable def fn_Mo_isAscending_15 (v1 : Int32) : Nat → Int32 → Mm → Rs Int32
  | 0, _, _ => none
  | n + 1, v2, M => bnd (fn_Mo_many v1 M) (fun r18 M18 => if r18 ≤ v2 then (some (.inl 1, M18)) else (bnd (fn_Mo_at v1 v2 M18) (fun r27 M27 => bnd (fn_Mo_at v1 (v2 - 1) M27) (fun r35 M35 => if r35 ≤ r27 then (li (v2 + 1) (fun x2_43 => fn_Mo_isAscending_15 v1 n x2_43 M35)) else (some (.inl 0, M35))))))
noncomputable def fn_Mo_isAscending (v1 : Int32) (M : Mm) : Rs Int32 := bnd (fn_Mo_isSlot v1 M) (fun r2 M2 => bnd (fn_Mo_checked r2 M2) (fun r5 M5 => if r5 ≤ 0 then (fn_Mo_isAscending_15 v1 fuel0 1 M5) else (some (.inl 0, M5))))
noncomputable def fn_Mo_all_4 : Nat → Int32 → Int32 → Mm → Rs Int32
  | 0, _, _, _ => none
  | n + 1, v1, v2, M => if 4 ≤ v2 then (some (.inl v1, M)) else (bnd (fn_Mo_many v2 M) (fun r12 M12 => li ((v1 + r12)) (fun x1_16 => li (v2 + 1) (fun x2_17 => fn_Mo_all_4 n x1_16 x2_17 M12))))
noncomputable def fn_Mo_all (M : Mm) : Rs Int32 := fn_Mo_all_4 fuel0 0 0 M
noncomputable def fn_Mo_valueTotal (M : Mm) : Rs Int32 := bnd (fn_Mo_all M) (fun r2 M2 => bnd (fn_Mo_plain r2 M2) (fun r5 M5 => some (.inl r5, M5)))
noncomputable def fn_Mo_appendedTotal (M : Mm) : Rs Int32 := grd (inb 84 85) (bnd (fn_Mo_plain (M 33 (84 : Int32).toNatClampNeg) M) (fun r8 M8 => some (.inl r8, M8)))
noncomputable def fn_Mo_positiveShare_56 (k25 : Int32 → Int32 → Mm → Rs UInt32) (k32 : Int32 → Int32 → Mm → Rs UInt32) (v2 : Int32) (v3 : Int32) (s0 : Int32) (s1 : Int32) (M : Mm) : Rs UInt32 := li ((s0 + s1)) (fun x1_57 => li (v3 + 1) (fun x3_58 => k32 x1_57 x3_58 M))
noncomputable def fn_Mo_positiveShare_64 (k25 : Int32 → Int32 → Mm → Rs UInt32) (v1 : Int32) (v2 : Int32) (M : Mm) : Rs UInt32 := li (v2 + 1) (fun x2_64 => k25 v1 x2_64 M)
noncomputable def fn_Mo_positiveShare_32 (k25 : Int32 → Int32 → Mm → Rs UInt32) (v2 : Int32) : Nat → Int32 → Int32 → Mm → Rs UInt32
  | 0, _, _, _ => none
  | n + 1, v1, v3, M => bnd (fn_Mo_many v2 M) (fun r35 M35 => if r35 ≤ v3 then (fn_Mo_positiveShare_64 k25 v1 v2 M35) else (bnd (fn_Mo_at v2 v3 M35) (fun r45 M45 => if r45 ≤ 0 then (fn_Mo_positiveShare_56 k25 (fn_Mo_positiveShare_32 k25 v2 n) v2 v3 v1 0 M45) else (fn_Mo_positiveShare_56 k25 (fn_Mo_positiveShare_32 k25 v2 n) v2 v3 v1 1 M45))))
noncomputable def fn_Mo_positiveShare_70 (v1 : Int32) (M : Mm) : Rs UInt32 := bnd (fn_Mo_all M) (fun r73 M73 => grd (zz_n32 (FP.fdiv (FP.i2f v1) (FP.i2f r73))) (some (.inl (FP.fdiv (FP.i2f v1) (FP.i2f r73)), M73)))
noncomputable def fn_Mo_positiveShare_25 : Nat → Int32 → Int32 → Mm → Rs UInt32
  | 0, _, _, _ => none
  | n + 1, v1, v2, M => if 4 ≤ v2 then (fn_Mo_positiveShare_70 v1 M) else (fn_Mo_positiveShare_32 (fn_Mo_positiveShare_25 n) v2 fuel0 v1 0 M)
noncomputable def fn_Mo_positiveShare_13 (s1 : Int32) (M : Mm) : Rs UInt32 := bnd (fn_Mo_checked s1 M) (fun r13 M13 => if r13 ≤ 0 then (fn_Mo_positiveShare_25 fuel0 0 0 M13) else (some (.inl FP.fconst0, M13)))
noncomputable def fn_Mo_positiveShare (M : Mm) : Rs UInt32 := bnd (fn_Mo_all M) (fun r2 M2 => if r2 ≤ 0 then (fn_Mo_positiveShare_13 0 M2) else (fn_Mo_positiveShare_13 1 M2))
noncomputable def fn_Mo_isConsistent (M : Mm) : Rs Int32 := bnd (fn_Mo_plain 1 M) (fun r2 M2 => if r2 = 1 then (some (.inl 1, M2)) else (some (.inl 0, M2)))
noncomputable def fn_Mo_write (v1 : Int32) (M : Mm) : Rs Unit := grd (inb (M 32 12) 140) (lm (mset M 39 (M 32 12).toNatClampNeg v1) (fun M9 => lm (mset M9 32 12 ((M9 32 12) + 1)) (fun M17 => some (.inl (), M17))))
noncomputable def fn_Mo_writeNumber_33 (v1 : Int32) (M : Mm) : Rs Unit := bnd (fn_Mo_size v1 M) (fun r37 M37 => bnd (fn_Mo_write (48 + (r37 - r37 / 10 * 10)) M37) (fun r44 M44 => some (.inl (), M44)))
noncomputable def fn_Mo_writeNumber_10 (v1 : Int32) (M : Mm) : Rs Unit := bnd (fn_Mo_size v1 M) (fun r11 M11 => if r11 ≤ 9 then (fn_Mo_writeNumber_33 v1 M11) else (bnd (fn_Mo_size v1 M11) (fun r23 M23 => bnd (fn_Mo_write (48 + (r23 / 10)) M23) (fun r30 M30 => fn_Mo_writeNumber_33 v1 M30))))
noncomputable def fn_Mo_writeNumber (v1 : Int32) (M : Mm) : Rs Unit := if 0 ≤ v1 then (fn_Mo_writeNumber_10 v1 M) else (bnd (fn_Mo_write 45 M) (fun r7 M7 => fn_Mo_writeNumber_10 v1 M7))
noncomputable def fn_Mo_formatSeries_39 (k20 : Int32 → Mm → Rs Int32) (v1 : Int32) (v2 : Int32) (M : Mm) : Rs Int32 := bnd (fn_Mo_at v1 v2 M) (fun r43 M43 => bnd (fn_Mo_writeNumber r43 M43) (fun r46 M46 => li (v2 + 1) (fun x2_49 => k20 x2_49 M46)))
noncomputable def fn_Mo_formatSeries_55 (M : Mm) : Rs Int32 := some (.inl (M 32 12), M)
noncomputable def fn_Mo_formatSeries_20 (v1 : Int32) : Nat → Int32 → Mm → Rs Int32
  | 0, _, _ => none
  | n + 1, v2, M => bnd (fn_Mo_many v1 M) (fun r23 M23 => if r23 ≤ v2 then (fn_Mo_formatSeries_55 M23) else (if v2 ≤ 0 then (fn_Mo_formatSeries_39 (fn_Mo_formatSeries_20 v1 n) v1 v2 M23) else (bnd (fn_Mo_write 32 M23) (fun r36 M36 => fn_Mo_formatSeries_39 (fn_Mo_formatSeries_20 v1 n) v1 v2 M36))))
noncomputable def fn_Mo_formatSeries (v1 : Int32) (M : Mm) : Rs Int32 := bnd (fn_Mo_isSlot v1 M) (fun r2 M2 => bnd (fn_Mo_checked r2 M2) (fun r5 M5 => if r5 ≤ 0 then (lm (mset M5 32 12 0) (fun M15 => fn_Mo_formatSeries_20 v1 fuel0 0 M15)) else (some (.inl 0, M5))))
noncomputable def fn_Mo_formatRuns_71 (k20 : Int32 → Mm → Rs Int32) (v1 : Int32) (v2 : Int32) (v3 : Int32) (M : Mm) : Rs Int32 := bnd (fn_Mo_at v1 v2 M) (fun r75 M75 => bnd (fn_Mo_writeNumber r75 M75) (fun r78 M78 => bnd (fn_Mo_write 120 M78) (fun r84 M84 => bnd (fn_Mo_writeNumber (v3 - v2) M84) (fun r91 M91 => k20 v3 M91))))
noncomputable def fn_Mo_formatRuns_61 (k20 : Int32 → Mm → Rs Int32) (v1 : Int32) (v2 : Int32) (v3 : Int32) (M : Mm) : Rs Int32 := if v2 ≤ 0 then (fn_Mo_formatRuns_71 k20 v1 v2 v3 M) else (bnd (fn_Mo_write 32 M) (fun r68 M68 => fn_Mo_formatRuns_71 k20 v1 v2 v3 M68))
noncomputable def fn_Mo_formatRuns_31 (k20 : Int32 → Mm → Rs Int32) (v1 : Int32) (v2 : Int32) : Nat → Int32 → Mm → Rs Int32
  | 0, _, _ => none
  | n + 1, v3, M => bnd (fn_Mo_many v1 M) (fun r34 M34 => if r34 ≤ v3 then (fn_Mo_formatRuns_61 k20 v1 v2 v3 M34) else (bnd (fn_Mo_at v1 v3 M34) (fun r43 M43 => bnd (fn_Mo_at v1 v2 M43) (fun r49 M49 => if r43 = r49 then (li (v3 + 1) (fun x3_55 => fn_Mo_formatRuns_31 k20 v1 v2 n x3_55 M49)) else (fn_Mo_formatRuns_61 k20 v1 v2 v3 M49)))))
noncomputable def fn_Mo_formatRuns_99 (M : Mm) : Rs Int32 := some (.inl (M 32 12), M)
noncomputable def fn_Mo_formatRuns_20 (v1 : Int32) : Nat → Int32 → Mm → Rs Int32
  | 0, _, _ => none
  | n + 1, v2, M => bnd (fn_Mo_many v1 M) (fun r23 M23 => if r23 ≤ v2 then (fn_Mo_formatRuns_99 M23) else (fn_Mo_formatRuns_31 (fn_Mo_formatRuns_20 v1 n) v1 v2 fuel0 v2 M23))
noncomputable def fn_Mo_formatRuns (v1 : Int32) (M : Mm) : Rs Int32 := bnd (fn_Mo_isSlot v1 M) (fun r2 M2 => bnd (fn_Mo_checked r2 M2) (fun r5 M5 => if r5 ≤ 0 then (lm (mset M5 32 12 0) (fun M15 => fn_Mo_formatRuns_20 v1 fuel0 0 M15)) else (some (.inl 0, M5))))
noncomputable def fn_Mo_lineChar (v1 : Int32) (M : Mm) : Rs Int32 := bnd (fn_Mo_in v1 0 ((M 32 12) - 1) M) (fun r9 M9 => bnd (fn_Mo_checked r9 M9) (fun r12 M12 => if r12 ≤ 0 then (grd (inb v1 140) (grd (vp_nar .char (((M12 39 v1.toNatClampNeg).toUInt32 % 65536).toInt32) = (((M12 39 v1.toNatClampNeg).toUInt32 % 65536).toInt32)) (some (.inl (((M12 39 v1.toNatClampNeg).toUInt32 % 65536).toInt32), M12)))) else (some (.inl 32, M12))))
noncomputable def fn_Mo_type_30 (v1 : Int32) (s1 : Int32) (M : Mm) : Rs Int32 := lm (mset M 32 6 s1) (fun M30 => if (M30 32 6) ≤ 0 then (grd (inb (M30 32 18) 60) (lm (mset M30 40 (M30 32 18).toNatClampNeg v1) (fun M51 => lm (mset M51 32 18 ((M51 32 18) + 1)) (fun M59 => some (.inl (M59 32 18), M59))))) else (some (.inl 0, M30)))
noncomputable def fn_Mo_type (v1 : Int32) (M : Mm) : Rs Int32 := bnd (fn_Mo_in v1 32 126 M) (fun r6 M6 => if r6 = 0 then (fn_Mo_type_30 v1 1 M6) else (if (M6 32 18) = 60 then (fn_Mo_type_30 v1 2 M6) else (fn_Mo_type_30 v1 0 M6)))
noncomputable def fn_Mo_mark (M : Mm) : Rs Int32 := if (M 32 22) = 0 then (if (M 32 19) ≤ (M 32 20) then (some (.inl (-1), M)) else (grd (inb (M 32 20) 60) (some (.inl (M 40 (M 32 20).toNatClampNeg), M)))) else (some (.inl (-1), M))
noncomputable def fn_Mo_expect_39 (s1 : Int32) (s2 : Int32) (M : Mm) : Rs Unit := lm (mset M 32 20 (s1 + s2)) (fun M40 => some (.inl (), M40))
noncomputable def fn_Mo_expect_18 (s1 : Int32) (s2 : Int32) (M : Mm) : Rs Unit := grd (isZ (s1 ||| s2)) (lm (mset M 32 22 (s1 ||| s2)) (fun M19 => if (M19 32 22) = 0 then (fn_Mo_expect_39 (M19 32 20) 1 M19) else (fn_Mo_expect_39 (M19 32 20) 0 M19)))
noncomputable def fn_Mo_expect (v1 : Int32) (M : Mm) : Rs Unit := bnd (fn_Mo_mark M) (fun r6 M6 => if r6 = v1 then (fn_Mo_expect_18 (M 32 22) 0 M6) else (fn_Mo_expect_18 (M 32 22) 1 M6))
noncomputable def fn_Mo_digits_32 (v1 : Int32) : Nat → Int32 → Int32 → Mm → Rs Int32
  | 0, _, _, _ => none
  | n + 1, v2, v3, M => if v1 ≤ v3 then (some (.inl v2, M)) else (bnd (fn_Mo_mark M) (fun r38 M38 => bnd (fn_Mo_in r38 48 57 M38) (fun r45 M45 => if r45 = 0 then (some (.inl v2, M45)) else (grd (inb (M45 32 20) 60) (li ((((10 * v2) + (M45 40 (M45 32 20).toNatClampNeg)) - 48)) (fun x2_68 => lm (mset M45 32 20 ((M45 32 20) + 1)) (fun M76 => li (v3 + 1) (fun x3_79 => fn_Mo_digits_32 v1 n x2_68 x3_79 M76))))))))
noncomputable def fn_Mo_digits_24 (v1 : Int32) (s1 : Int32) (s2 : Int32) (M : Mm) : Rs Int32 := grd (isZ (s1 ||| s2)) (lm (mset M 32 22 (s1 ||| s2)) (fun M25 => fn_Mo_digits_32 v1 fuel0 0 0 M25))
noncomputable def fn_Mo_digits (v1 : Int32) (M : Mm) : Rs Int32 := bnd (fn_Mo_mark M) (fun r6 M6 => bnd (fn_Mo_in r6 48 57 M6) (fun r13 M13 => if r13 = 0 then (fn_Mo_digits_24 v1 (M 32 22) 1 M13) else (fn_Mo_digits_24 v1 (M 32 22) 0 M13)))
noncomputable def fn_Mo_digitsBehind (v1 : Int32) (v2 : Int32) (M : Mm) : Rs Int32 := bnd (fn_Mo_expect v1 M) (fun r2 M2 => bnd (fn_Mo_digits v2 M2) (fun r7 M7 => some (.inl r7, M7)))
noncomputable def fn_Mo_numberBehind_34 (v2 : Int32) (s1 : Int32) (s2 : Int32) (M : Mm) : Rs Int32 := lm (mset M 32 20 (s1 + s2)) (fun M35 => bnd (fn_Mo_digits 2 M35) (fun r40 M40 => if v2 = 0 then (some (.inl r40, M40)) else (some (.inl (-r40), M40))))
noncomputable def fn_Mo_numberBehind_19 (s0 : Int32) (M : Mm) : Rs Int32 := if s0 = 0 then (fn_Mo_numberBehind_34 s0 (M 32 20) 0 M) else (fn_Mo_numberBehind_34 s0 (M 32 20) 1 M)
noncomputable def fn_Mo_numberBehind (v1 : Int32) (M : Mm) : Rs Int32 := bnd (fn_Mo_expect v1 M) (fun r2 M2 => bnd (fn_Mo_mark M2) (fun r6 M6 => if r6 = 45 then (fn_Mo_numberBehind_19 1 M6) else (fn_Mo_numberBehind_19 0 M6)))
noncomputable def fn_Mo_pick (v0 : Int32) (v1 : Int32) (v2 : Int32) (v3 : Int32) (v4 : Int32) (v5 : Int32) (v6 : Int32) (M : Mm) : Rs Int32 := if v0 = 0 then (some (.inl v1, M)) else if v0 = 1 then (some (.inl v2, M)) else if v0 = 2 then (some (.inl v3, M)) else if v0 = 3 then (some (.inl v4, M)) else if v0 = 4 then (some (.inl v5, M)) else if v0 = 5 then (some (.inl v6, M)) else (some (.inl 0, M))
noncomputable def fn_Mo_spelled (v0 : Int32) (v1 : Int32) (M : Mm) : Rs Int32 := if v0 = 0 then (bnd (fn_Mo_pick v1 112 117 116 0 0 0 M) (fun r58 M58 => some (.inl r58, M58))) else if v0 = 1 then (bnd (fn_Mo_pick v1 115 101 116 0 0 0 M) (fun r72 M72 => some (.inl r72, M72))) else if v0 = 2 then (bnd (fn_Mo_pick v1 99 117 116 0 0 0 M) (fun r86 M86 => some (.inl r86, M86))) else if v0 = 3 then (bnd (fn_Mo_pick v1 99 111 112 121 0 0 M) (fun r101 M101 => some (.inl r101, M101))) else if v0 = 4 then (bnd (fn_Mo_pick v1 116 117 114 110 0 0 M) (fun r116 M116 => some (.inl r116, M116))) else if v0 = 5 then (bnd (fn_Mo_pick v1 115 104 105 102 116 0 M) (fun r132 M132 => some (.inl r132, M132))) else if v0 = 6 then (bnd (fn_Mo_pick v1 115 109 111 111 116 104 M) (fun r149 M149 => some (.inl r149, M149))) else if v0 = 7 then (bnd (fn_Mo_pick v1 115 116 101 112 115 0 M) (fun r165 M165 => some (.inl r165, M165))) else (bnd (fn_Mo_pick v1 99 108 105 112 0 0 M) (fun r180 M180 => some (.inl r180, M180)))
noncomputable def fn_Mo_word_66 (v2 : Int32) (v3 : Int32) (M : Mm) : Rs Int32 := lm (mset M 32 20 ((M 32 20) + v3)) (fun M73 => some (.inl v2, M73))
noncomputable def fn_Mo_word_58 (k4 : Int32 → Int32 → Mm → Rs Int32) (v1 : Int32) (v2 : Int32) (v3 : Int32) (M : Mm) : Rs Int32 := bnd (fn_Mo_spelled v2 v3 M) (fun r60 M60 => if r60 = 0 then (fn_Mo_word_66 v2 v3 M60) else (bnd (fn_Mo_more v3 v1 M60) (fun r80 M80 => li (v2 + 1) (fun x2_84 => k4 r80 x2_84 M80))))
noncomputable def fn_Mo_word_12 (k4 : Int32 → Int32 → Mm → Rs Int32) (v1 : Int32) (v2 : Int32) : Nat → Int32 → Mm → Rs Int32
  | 0, _, _ => none
  | n + 1, v3, M => bnd (fn_Mo_spelled v2 v3 M) (fun r14 M14 => if r14 ≤ 0 then (fn_Mo_word_58 k4 v1 v2 v3 M14) else (if (M14 32 19) ≤ ((M14 32 20) + v3) then (fn_Mo_word_58 k4 v1 v2 v3 M14) else (grd (inb ((M14 32 20) + v3) 60) (bnd (fn_Mo_spelled v2 v3 M14) (fun r46 M46 => if (M14 40 ((M14 32 20) + v3).toNatClampNeg) = r46 then (li (v3 + 1) (fun x3_52 => fn_Mo_word_12 k4 v1 v2 n x3_52 M46)) else (fn_Mo_word_58 k4 v1 v2 v3 M46))))))
noncomputable def fn_Mo_word_90 (v1 : Int32) (M : Mm) : Rs Int32 := lm (mset M 32 20 ((M 32 20) + v1)) (fun M97 => lm (mset M97 32 22 1) (fun M102 => some (.inl 0, M102)))
noncomputable def fn_Mo_word_4 : Nat → Int32 → Int32 → Mm → Rs Int32
  | 0, _, _, _ => none
  | n + 1, v1, v2, M => if 9 ≤ v2 then (fn_Mo_word_90 v1 M) else (fn_Mo_word_12 (fn_Mo_word_4 n) v1 v2 fuel0 0 M)
noncomputable def fn_Mo_word (M : Mm) : Rs Int32 := fn_Mo_word_4 fuel0 0 0 M
noncomputable def fn_Mo_readsRest_52 (M : Mm) : Rs Unit := bnd (fn_Mo_numberBehind 32 M) (fun r63 M63 => grd (inb (M 32 21) 32) (lm (mset M63 43 (M 32 21).toNatClampNeg r63) (fun M66 => some (.inl (), M66))))
noncomputable def fn_Mo_readsRest (v1 : Int32) (M : Mm) : Rs Unit := if v1 = 0 then (fn_Mo_readsRest_52 M) else if v1 = 1 then (bnd (fn_Mo_digitsBehind 32 2 M) (fun r82 M82 => grd (inb (M 32 21) 32) (lm (mset M82 43 (M 32 21).toNatClampNeg r82) (fun M85 => bnd (fn_Mo_numberBehind 61 M85) (fun r97 M97 => grd (inb (M85 32 21) 32) (lm (mset M97 44 (M85 32 21).toNatClampNeg r97) (fun M100 => some (.inl (), M100)))))))) else if v1 = 2 then (bnd (fn_Mo_digitsBehind 32 2 M) (fun r116 M116 => grd (inb (M 32 21) 32) (lm (mset M116 43 (M 32 21).toNatClampNeg r116) (fun M119 => some (.inl (), M119))))) else if v1 = 3 then (bnd (fn_Mo_digitsBehind 60 1 M) (fun r135 M135 => grd (inb (M 32 21) 32) (lm (mset M135 43 (M 32 21).toNatClampNeg r135) (fun M138 => some (.inl (), M138))))) else if v1 = 4 then (some (.inl (), M)) else if v1 = 5 then (fn_Mo_readsRest_52 M) else if v1 = 6 then (bnd (fn_Mo_digitsBehind 32 1 M) (fun r154 M154 => grd (inb (M 32 21) 32) (lm (mset M154 43 (M 32 21).toNatClampNeg r154) (fun M157 => some (.inl (), M157))))) else if v1 = 7 then (some (.inl (), M)) else if v1 = 8 then (bnd (fn_Mo_numberBehind 32 M) (fun r172 M172 => grd (inb (M 32 21) 32) (lm (mset M172 43 (M 32 21).toNatClampNeg r172) (fun M175 => bnd (fn_Mo_numberBehind 32 M175) (fun r187 M187 => grd (inb (M175 32 21) 32) (lm (mset M187 44 (M175 32 21).toNatClampNeg r187) (fun M190 => some (.inl (), M190)))))))) else (some (.inl (), M))
noncomputable def fn_Mo_command (M : Mm) : Rs Unit := bnd (fn_Mo_word M) (fun r1 M1 => if (M1 32 22) = 0 then (bnd (fn_Mo_digitsBehind 32 1 M1) (fun r25 M25 => grd (inb (M1 32 21) 32) (lm (mset M25 42 (M1 32 21).toNatClampNeg r25) (fun M28 => bnd (fn_Mo_readsRest r1 M28) (fun r31 M31 => if (M31 32 22) = 0 then (grd (inb (M31 32 21) 32) (lm (mset M31 41 (M31 32 21).toNatClampNeg r1) (fun M51 => lm (mset M51 32 21 ((M51 32 21) + 1)) (fun M59 => some (.inl (), M59))))) else (some (.inl (), M31))))))) else (some (.inl (), M1)))
noncomputable def fn_Mo_parse_79 (s1 : Int32) (s2 : Int32) (M : Mm) : Rs Unit := grd (isZ (s1 ||| s2)) (lm (mset M 32 22 (s1 ||| s2)) (fun M80 => some (.inl (), M80)))
noncomputable def fn_Mo_parse_58 (M : Mm) : Rs Unit := if (M 32 19) ≤ (M 32 20) then (fn_Mo_parse_79 (M 32 22) 0 M) else (fn_Mo_parse_79 (M 32 22) 1 M)
noncomputable def fn_Mo_parse_32 : Nat → Mm → Rs Unit
  | 0, _ => none
  | n + 1, M => bnd (fn_Mo_mark M) (fun r33 M33 => if r33 = 59 then (lm (mset M33 32 20 ((M33 32 20) + 1)) (fun M48 => bnd (fn_Mo_command M48) (fun r52 M52 => fn_Mo_parse_32 n M52))) else (fn_Mo_parse_58 M33))
noncomputable def fn_Mo_parse (M : Mm) : Rs Unit := lm (mset M 32 19 (M 32 18)) (fun M5 => lm (mset M5 32 18 0) (fun M10 => lm (mset M10 32 20 0) (fun M15 => lm (mset M15 32 21 0) (fun M20 => lm (mset M20 32 22 0) (fun M25 => bnd (fn_Mo_command M25) (fun r29 M29 => fn_Mo_parse_32 fuel0 M29))))))
noncomputable def fn_Mo_why (v1 : Int32) (v2 : Int32) (v3 : Int32) (v4 : Int32) (M : Mm) : Rs Int32 := if v1 = 0 then (bnd (fn_Mo_cannotAppend v2 v3 M) (fun r51 M51 => some (.inl r51, M51))) else if v1 = 1 then (bnd (fn_Mo_cannotSet v2 v3 v4 M) (fun r60 M60 => some (.inl r60, M60))) else if v1 = 2 then (bnd (fn_Mo_cannotCut v2 v3 M) (fun r67 M67 => some (.inl r67, M67))) else if v1 = 3 then (bnd (fn_Mo_isSlot v2 M) (fun r72 M72 => if r72 = 0 then (some (.inl 1, M72)) else (bnd (fn_Mo_isSlot v3 M72) (fun r79 M79 => if r79 = 0 then (some (.inl 1, M79)) else (some (.inl 0, M79)))))) else if v1 = 4 then (bnd (fn_Mo_isSlot v2 M) (fun r92 M92 => if r92 = 0 then (some (.inl 1, M92)) else (some (.inl 0, M92)))) else if v1 = 5 then (bnd (fn_Mo_cannotShift v2 v3 M) (fun r107 M107 => some (.inl r107, M107))) else if v1 = 6 then (bnd (fn_Mo_cannotSmooth v2 v3 M) (fun r113 M113 => some (.inl r113, M113))) else if v1 = 7 then (bnd (fn_Mo_cannotStep v2 M) (fun r119 M119 => some (.inl r119, M119))) else (bnd (fn_Mo_cannotClip v2 v3 v4 M) (fun r127 M127 => some (.inl r127, M127)))
noncomputable def fn_Mo_does (v1 : Int32) (v2 : Int32) (v3 : Int32) (v4 : Int32) (M : Mm) : Rs Int32 := if v1 = 0 then (bnd (fn_Mo_appends v2 v3 M) (fun r51 M51 => some (.inl r51, M51))) else if v1 = 1 then (bnd (fn_Mo_sets v2 v3 v4 M) (fun r60 M60 => some (.inl r60, M60))) else if v1 = 2 then (bnd (fn_Mo_cuts v2 v3 M) (fun r67 M67 => some (.inl r67, M67))) else if v1 = 3 then (bnd (fn_Mo_copies v2 v3 M) (fun r74 M74 => some (.inl r74, M74))) else if v1 = 4 then (bnd (fn_Mo_turns v2 M) (fun r80 M80 => some (.inl r80, M80))) else if v1 = 5 then (bnd (fn_Mo_shifts v2 v3 M) (fun r87 M87 => some (.inl r87, M87))) else if v1 = 6 then (bnd (fn_Mo_smooths v2 v3 M) (fun r94 M94 => some (.inl r94, M94))) else if v1 = 7 then (bnd (fn_Mo_steps v2 M) (fun r100 M100 => some (.inl r100, M100))) else (bnd (fn_Mo_clips v2 v3 v4 M) (fun r109 M109 => some (.inl r109, M109)))
noncomputable def fn_Mo_run_104 (v2 : Int32) (M : Mm) : Rs Int32 := bnd (fn_Mo_copyAll 34 0 33 0 M) (fun r114 M114 => lm (mset M114 32 9 v2) (fun M119 => bnd (fn_Mo_fail 2 M119) (fun r124 M124 => some (.inl r124, M124))))
noncomputable def fn_Mo_run_134 (M : Mm) : Rs Int32 := bnd (fn_Mo_commit (M 32 21) M) (fun r139 M139 => some (.inl r139, M139))
noncomputable def fn_Mo_run_33 : Nat → Int32 → Mm → Rs Int32
  | 0, _, _ => none
  | n + 1, v2, M => if (M 32 21) ≤ v2 then (fn_Mo_run_134 M) else (grd (inb v2 32) (grd (inb v2 32) (grd (inb v2 32) (grd (inb v2 32) (bnd (fn_Mo_why (M 41 v2.toNatClampNeg) (M 42 v2.toNatClampNeg) (M 43 v2.toNatClampNeg) (M 44 v2.toNatClampNeg) M) (fun r66 M66 => if r66 = 0 then (grd (inb v2 32) (grd (inb v2 32) (grd (inb v2 32) (grd (inb v2 32) (bnd (fn_Mo_does (M66 41 v2.toNatClampNeg) (M66 42 v2.toNatClampNeg) (M66 43 v2.toNatClampNeg) (M66 44 v2.toNatClampNeg) M66) (fun r97 M97 => li (v2 + 1) (fun x2_128 => fn_Mo_run_33 n x2_128 M97))))))) else (fn_Mo_run_104 v2 M66)))))))
noncomputable def fn_Mo_run (M : Mm) : Rs Int32 := bnd (fn_Mo_begin M) (fun r1 M1 => bnd (fn_Mo_parse M1) (fun r5 M5 => if (M5 32 22) = 0 then (fn_Mo_run_33 fuel0 0 M5) else (lm (mset M5 32 8 (M5 32 20)) (fun M20 => bnd (fn_Mo_fail 1 M20) (fun r25 M25 => some (.inl r25, M25))))))
noncomputable def fn_Mo_present_10 (v1 : Int32) (s1 : Int32) (M : Mm) : Rs Int32 := bnd (fn_Mo_checked s1 M) (fun r10 M10 => if r10 ≤ 0 then (some (.inl v1, M10)) else (some (.inl 0, M10)))
noncomputable def fn_Mo_present (v1 : Int32) (M : Mm) : Rs Int32 := if v1 < 0 then (fn_Mo_present_10 v1 0 M) else (fn_Mo_present_10 v1 1 M)
noncomputable def fn_Mo_errorPosition (M : Mm) : Rs Int32 := bnd (fn_Mo_present (M 32 8) M) (fun r5 M5 => some (.inl r5, M5))
noncomputable def fn_Mo_failedCommand (M : Mm) : Rs Int32 := bnd (fn_Mo_present (M 32 9) M) (fun r5 M5 => some (.inl r5, M5))
noncomputable def fn_Mo_undoableCount (M : Mm) : Rs Int32 := bnd (fn_Mo_plain (M 32 7) M) (fun r5 M5 => some (.inl r5, M5))
noncomputable def fn_Mo_undo_13 (s1 : Int32) (M : Mm) : Rs Int32 := bnd (fn_Mo_checked s1 M) (fun r13 M13 => if r13 ≤ 0 then (lm (mset M13 32 7 ((M13 32 7) - 1)) (fun M28 => bnd (fn_Mo_copyAll 36 (85 * (M28 32 7)) 33 0 M28) (fun r47 M47 => some (.inl (M47 32 7), M47)))) else (some (.inl 0, M13)))
noncomputable def fn_Mo_undo (M : Mm) : Rs Int32 := if (M 32 7) ≤ 0 then (fn_Mo_undo_13 0 M) else (fn_Mo_undo_13 1 M)
noncomputable def fn_Mo_save (M : Mm) : Rs Int32 := lm (mset M 32 6 0) (fun M2 => bnd (fn_Mo_copyAll 33 0 35 0 M2) (fun r15 M15 => lm (mset M15 32 10 1) (fun M20 => bnd (fn_Mo_all M20) (fun r24 M24 => some (.inl r24, M24)))))
noncomputable def fn_Mo_restore (M : Mm) : Rs Int32 := bnd (fn_Mo_checked (M 32 10) M) (fun r5 M5 => if r5 ≤ 0 then (bnd (fn_Mo_copyAll 35 0 33 0 M5) (fun r23 M23 => lm (mset M23 32 7 0) (fun M28 => bnd (fn_Mo_all M28) (fun r32 M32 => some (.inl r32, M32))))) else (some (.inl 0, M5)))
