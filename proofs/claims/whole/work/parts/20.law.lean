/-! the law's loop: the script, and the walk of every case -/
def SC (K : KT) (X : XT) (b sl : Nat) (xs : Nat → Int32) : Prop := va_X b sl xs X.2.2.1 X.2.2.1.heap ∧ b < X.2.2.1.heap.size ∧ ¬ kF K b
section SCR
variable {α : Type} {l : Launch} {K : KT} {d nL mc ms : Nat} {rv : α → Option Value} {X : XT} {cc : ByteArray} {own : String} {ret : Option FieldType} {hh : List (Nat × Nat × Nat × Nat)} {L : zz_L}
variable {x : Rs α} {cells slots : Nat} {M : Mm} {pc : Nat} {lc : List (Nat × Value)} {st : List Value} {b sl : Nat} {xs : Nat → Int32}
theorem V_sld (hX : Cx l K d nL mc ms X cc own ret hh L) (hSc : SC K X b sl xs) (k q : Nat) {i : Int32} {t : Rs α} {dg : Decidable (inb i sl)} (hk : L[k]? = some (pc, .iaload, 1)) (hq : pc + 1 = q) (kk : inb i sl → VV l K d nL mc ms rv X t cells slots M q lc (.int (xs i.toNatClampNeg) :: st)) : VV l K d nL mc ms rv X (@grd _ (inb i sl) dg t) cells slots M pc lc (.int i :: .ref b :: st) := by
  subst hq
  refine VV_grd (fun g => ?_)
  intro o M' ho H locs ls hI hS hl
  exact va_sld (cx_x hX) (cx_b hX) hSc.1 hSc.2.1 hSc.2.2 hS g (zz_at (cx_d hX) k hk) (kk g o M' ho H locs ls hI hS hl)
theorem V_slen9 (hX : Cx l K d nL mc ms X cc own ret hh L) (hSc : SC K X b sl xs) (k q : Nat) (hk : L[k]? = some (pc, .arraylength, 1)) (hq : pc + 1 = q) (kk : VV l K d nL mc ms rv X x cells slots M q lc (.int (nI sl) :: st)) : VV l K d nL mc ms rv X x cells slots M pc lc (.ref b :: st) := by
  subst hq
  intro o M' ho H locs ls hI hS hl
  exact va_slen (cx_x hX) (cx_b hX) hSc.1 hSc.2.1 hSc.2.2 hS (zz_at (cx_d hX) k hk) (kk o M' ho H locs ls hI hS hl)
end SCR
theorem cx_L {l : Launch} {K : KT} {d nL mc ms : Nat} {X : XT} {cc : ByteArray} {own : String} {ret : Option FieldType} {hh : List (Nat × Nat × Nat × Nat)} {L : zz_L} (h : Cx l K d nL mc ms X cc own ret hh L) {L1 : zz_L} (h1 : zz_decAll cc L1 = true) : Cx l K d nL mc ms X cc own ret hh L1 := ⟨h.1, h.2.1, h1, h.2.2.2⟩
theorem ml_La_198 : Cond.methodLink "SeriesArchiveLaw" 198 y_La_append ∈ zz_good := zz_c2 154 (by decide +kernel) rfl
theorem ml_La_203 : Cond.methodLink "SeriesArchiveLaw" 203 y_Mo_append ∈ zz_good := zz_c8 125 (by decide +kernel) rfl
theorem ml_La_204 : Cond.methodLink "SeriesArchiveLaw" 204 y_Mo_thrown ∈ zz_good := zz_c8 121 (by decide +kernel) rfl
theorem ml_La_207 : Cond.methodLink "SeriesArchiveLaw" 207 y_La_setValue ∈ zz_good := zz_c3 176 (by decide +kernel) rfl
theorem ml_La_210 : Cond.methodLink "SeriesArchiveLaw" 210 y_Mo_setValue ∈ zz_good := zz_c8 169 (by decide +kernel) rfl
theorem ml_La_211 : Cond.methodLink "SeriesArchiveLaw" 211 y_La_removeFirst ∈ zz_good := zz_c3 185 (by decide +kernel) rfl
theorem ml_La_213 : Cond.methodLink "SeriesArchiveLaw" 213 y_Mo_removeFirst ∈ zz_good := zz_c8 189 (by decide +kernel) rfl
theorem ml_La_214 : Cond.methodLink "SeriesArchiveLaw" 214 y_La_copy ∈ zz_good := zz_c3 194 (by decide +kernel) rfl
theorem ml_La_216 : Cond.methodLink "SeriesArchiveLaw" 216 y_Mo_copy ∈ zz_good := zz_c8 205 (by decide +kernel) rfl
theorem ml_La_217 : Cond.methodLink "SeriesArchiveLaw" 217 y_La_reverse ∈ zz_good := zz_c3 203 (by decide +kernel) rfl
theorem ml_La_220 : Cond.methodLink "SeriesArchiveLaw" 220 y_Mo_reverse ∈ zz_good := zz_c8 213 (by decide +kernel) rfl
theorem ml_La_221 : Cond.methodLink "SeriesArchiveLaw" 221 y_La_shift ∈ zz_good := zz_c3 212 (by decide +kernel) rfl
theorem ml_La_223 : Cond.methodLink "SeriesArchiveLaw" 223 y_Mo_shift ∈ zz_good := zz_c8 225 (by decide +kernel) rfl
theorem ml_La_224 : Cond.methodLink "SeriesArchiveLaw" 224 y_La_smooth ∈ zz_good := zz_c3 221 (by decide +kernel) rfl
theorem ml_La_226 : Cond.methodLink "SeriesArchiveLaw" 226 y_Mo_smooth ∈ zz_good := zz_c9 1 (by decide +kernel) rfl
theorem ml_La_227 : Cond.methodLink "SeriesArchiveLaw" 227 y_La_toSteps ∈ zz_good := zz_c3 230 (by decide +kernel) rfl
theorem ml_La_229 : Cond.methodLink "SeriesArchiveLaw" 229 y_Mo_toSteps ∈ zz_good := zz_c9 21 (by decide +kernel) rfl
theorem ml_La_230 : Cond.methodLink "SeriesArchiveLaw" 230 y_La_clip ∈ zz_good := zz_c3 239 (by decide +kernel) rfl
theorem ml_La_232 : Cond.methodLink "SeriesArchiveLaw" 232 y_Mo_clip ∈ zz_good := zz_c9 33 (by decide +kernel) rfl
theorem ml_La_233 : Cond.methodLink "SeriesArchiveLaw" 233 y_La_length ∈ zz_good := zz_c4 8 (by decide +kernel) rfl
theorem ml_La_235 : Cond.methodLink "SeriesArchiveLaw" 235 y_Mo_length ∈ zz_good := zz_c9 44 (by decide +kernel) rfl
theorem ml_La_236 : Cond.methodLink "SeriesArchiveLaw" 236 y_La_value ∈ zz_good := zz_c4 22 (by decide +kernel) rfl
theorem ml_La_238 : Cond.methodLink "SeriesArchiveLaw" 238 y_Mo_value ∈ zz_good := zz_c9 52 (by decide +kernel) rfl
theorem ml_La_239 : Cond.methodLink "SeriesArchiveLaw" 239 y_La_sum ∈ zz_good := zz_c4 36 (by decide +kernel) rfl
theorem ml_La_241 : Cond.methodLink "SeriesArchiveLaw" 241 y_Mo_sum ∈ zz_good := zz_c9 56 (by decide +kernel) rfl
theorem ml_La_242 : Cond.methodLink "SeriesArchiveLaw" 242 y_La_sumByTree ∈ zz_good := zz_c4 49 (by decide +kernel) rfl
theorem ml_La_244 : Cond.methodLink "SeriesArchiveLaw" 244 y_Mo_sumByTree ∈ zz_good := zz_c9 68 (by decide +kernel) rfl
theorem ml_La_245 : Cond.methodLink "SeriesArchiveLaw" 245 y_La_minimum ∈ zz_good := zz_c4 57 (by decide +kernel) rfl
theorem ml_La_247 : Cond.methodLink "SeriesArchiveLaw" 247 y_Mo_minimum ∈ zz_good := zz_c9 72 (by decide +kernel) rfl
theorem ml_La_248 : Cond.methodLink "SeriesArchiveLaw" 248 y_La_maximum ∈ zz_good := zz_c4 68 (by decide +kernel) rfl
theorem ml_La_250 : Cond.methodLink "SeriesArchiveLaw" 250 y_Mo_maximum ∈ zz_good := zz_c9 80 (by decide +kernel) rfl
theorem ml_La_251 : Cond.methodLink "SeriesArchiveLaw" 251 y_La_countAbove ∈ zz_good := zz_c4 79 (by decide +kernel) rfl
theorem ml_La_253 : Cond.methodLink "SeriesArchiveLaw" 253 y_Mo_countAbove ∈ zz_good := zz_c9 88 (by decide +kernel) rfl
theorem ml_La_254 : Cond.methodLink "SeriesArchiveLaw" 254 y_La_valueByRank ∈ zz_good := zz_c4 90 (by decide +kernel) rfl
theorem ml_La_256 : Cond.methodLink "SeriesArchiveLaw" 256 y_Mo_valueByRank ∈ zz_good := zz_c9 92 (by decide +kernel) rfl
theorem ml_La_257 : Cond.methodLink "SeriesArchiveLaw" 257 y_La_mean ∈ zz_good := zz_c4 122 (by decide +kernel) rfl
theorem ml_La_260 : Cond.methodLink "SeriesArchiveLaw" 260 y_Mo_mean ∈ zz_good := zz_c9 96 (by decide +kernel) rfl
theorem ml_La_261 : Cond.methodLink "SeriesArchiveLaw" 261 y_La_windowMaximum ∈ zz_good := zz_c4 147 (by decide +kernel) rfl
theorem ml_La_263 : Cond.methodLink "SeriesArchiveLaw" 263 y_Mo_windowMaximum ∈ zz_good := zz_c9 100 (by decide +kernel) rfl
theorem ml_La_264 : Cond.methodLink "SeriesArchiveLaw" 264 y_La_windowMaximumByScan ∈ zz_good := zz_c4 164 (by decide +kernel) rfl
theorem ml_La_266 : Cond.methodLink "SeriesArchiveLaw" 266 y_Mo_windowMaximumByScan ∈ zz_good := zz_c9 108 (by decide +kernel) rfl
theorem ml_La_267 : Cond.methodLink "SeriesArchiveLaw" 267 y_La_nextGreater ∈ zz_good := zz_c4 171 (by decide +kernel) rfl
theorem ml_La_269 : Cond.methodLink "SeriesArchiveLaw" 269 y_Mo_nextGreater ∈ zz_good := zz_c9 112 (by decide +kernel) rfl
theorem ml_La_270 : Cond.methodLink "SeriesArchiveLaw" 270 y_La_nextGreaterByScan ∈ zz_good := zz_c4 183 (by decide +kernel) rfl
theorem ml_La_272 : Cond.methodLink "SeriesArchiveLaw" 272 y_Mo_nextGreaterByScan ∈ zz_good := zz_c9 120 (by decide +kernel) rfl
theorem ml_La_273 : Cond.methodLink "SeriesArchiveLaw" 273 y_La_peakCount ∈ zz_good := zz_c4 191 (by decide +kernel) rfl
theorem ml_La_275 : Cond.methodLink "SeriesArchiveLaw" 275 y_Mo_peakCount ∈ zz_good := zz_c9 124 (by decide +kernel) rfl
theorem ml_La_276 : Cond.methodLink "SeriesArchiveLaw" 276 y_La_isPeak ∈ zz_good := zz_c4 207 (by decide +kernel) rfl
theorem ml_La_278 : Cond.methodLink "SeriesArchiveLaw" 278 y_Mo_isPeak ∈ zz_good := zz_c9 132 (by decide +kernel) rfl
theorem ml_La_279 : Cond.methodLink "SeriesArchiveLaw" 279 y_La_prominence ∈ zz_good := zz_c4 215 (by decide +kernel) rfl
theorem ml_La_281 : Cond.methodLink "SeriesArchiveLaw" 281 y_Mo_prominence ∈ zz_good := zz_c9 136 (by decide +kernel) rfl
theorem ml_La_282 : Cond.methodLink "SeriesArchiveLaw" 282 y_La_prominenceByLevels ∈ zz_good := zz_c4 235 (by decide +kernel) rfl
theorem ml_La_284 : Cond.methodLink "SeriesArchiveLaw" 284 y_Mo_prominenceByLevels ∈ zz_good := zz_c9 154 (by decide +kernel) rfl
theorem ml_La_285 : Cond.methodLink "SeriesArchiveLaw" 285 y_La_peakByProminence ∈ zz_good := zz_c5 8 (by decide +kernel) rfl
theorem ml_La_287 : Cond.methodLink "SeriesArchiveLaw" 287 y_Mo_peakByProminence ∈ zz_good := zz_c9 158 (by decide +kernel) rfl
theorem ml_La_288 : Cond.methodLink "SeriesArchiveLaw" 288 y_La_bestSum ∈ zz_good := zz_c5 22 (by decide +kernel) rfl
theorem ml_La_290 : Cond.methodLink "SeriesArchiveLaw" 290 y_Mo_bestSum ∈ zz_good := zz_c9 162 (by decide +kernel) rfl
theorem ml_La_291 : Cond.methodLink "SeriesArchiveLaw" 291 y_La_bestSumByRanges ∈ zz_good := zz_c5 34 (by decide +kernel) rfl
theorem ml_La_293 : Cond.methodLink "SeriesArchiveLaw" 293 y_Mo_bestSumByRanges ∈ zz_good := zz_c9 178 (by decide +kernel) rfl
theorem ml_La_294 : Cond.methodLink "SeriesArchiveLaw" 294 y_La_bestStart ∈ zz_good := zz_c5 42 (by decide +kernel) rfl
theorem ml_La_296 : Cond.methodLink "SeriesArchiveLaw" 296 y_Mo_bestStart ∈ zz_good := zz_c9 182 (by decide +kernel) rfl
theorem ml_La_297 : Cond.methodLink "SeriesArchiveLaw" 297 y_La_bestEnd ∈ zz_good := zz_c5 55 (by decide +kernel) rfl
theorem ml_La_299 : Cond.methodLink "SeriesArchiveLaw" 299 y_Mo_bestEnd ∈ zz_good := zz_c9 186 (by decide +kernel) rfl
theorem ml_La_300 : Cond.methodLink "SeriesArchiveLaw" 300 y_La_inversions ∈ zz_good := zz_c5 66 (by decide +kernel) rfl
theorem ml_La_302 : Cond.methodLink "SeriesArchiveLaw" 302 y_Mo_inversions ∈ zz_good := zz_c9 190 (by decide +kernel) rfl
theorem ml_La_303 : Cond.methodLink "SeriesArchiveLaw" 303 y_La_inversionsByPairs ∈ zz_good := zz_c5 74 (by decide +kernel) rfl
theorem ml_La_305 : Cond.methodLink "SeriesArchiveLaw" 305 y_Mo_inversionsByPairs ∈ zz_good := zz_c9 198 (by decide +kernel) rfl
theorem ml_La_306 : Cond.methodLink "SeriesArchiveLaw" 306 y_La_leastPeriod ∈ zz_good := zz_c5 82 (by decide +kernel) rfl
theorem ml_La_308 : Cond.methodLink "SeriesArchiveLaw" 308 y_Mo_leastPeriod ∈ zz_good := zz_c9 202 (by decide +kernel) rfl
theorem ml_La_309 : Cond.methodLink "SeriesArchiveLaw" 309 y_La_leastPeriodByTrial ∈ zz_good := zz_c5 90 (by decide +kernel) rfl
theorem ml_La_311 : Cond.methodLink "SeriesArchiveLaw" 311 y_Mo_leastPeriodByTrial ∈ zz_good := zz_c9 210 (by decide +kernel) rfl
theorem ml_La_312 : Cond.methodLink "SeriesArchiveLaw" 312 y_La_occurrences ∈ zz_good := zz_c5 98 (by decide +kernel) rfl
theorem ml_La_314 : Cond.methodLink "SeriesArchiveLaw" 314 y_Mo_occurrences ∈ zz_good := zz_c9 214 (by decide +kernel) rfl
theorem ml_La_315 : Cond.methodLink "SeriesArchiveLaw" 315 y_La_occurrencesByScan ∈ zz_good := zz_c5 109 (by decide +kernel) rfl
theorem ml_La_317 : Cond.methodLink "SeriesArchiveLaw" 317 y_Mo_occurrencesByScan ∈ zz_good := zz_c9 226 (by decide +kernel) rfl
theorem ml_La_318 : Cond.methodLink "SeriesArchiveLaw" 318 y_La_leastError ∈ zz_good := zz_c5 122 (by decide +kernel) rfl
theorem ml_La_320 : Cond.methodLink "SeriesArchiveLaw" 320 y_Mo_leastError ∈ zz_good := zz_c9 230 (by decide +kernel) rfl
theorem ml_La_321 : Cond.methodLink "SeriesArchiveLaw" 321 y_La_leastErrorByCuts ∈ zz_good := zz_c5 153 (by decide +kernel) rfl
theorem ml_La_323 : Cond.methodLink "SeriesArchiveLaw" 323 y_Mo_leastErrorByCuts ∈ zz_good := zz_c10 14 (by decide +kernel) rfl
theorem ml_La_324 : Cond.methodLink "SeriesArchiveLaw" 324 y_La_segmentStart ∈ zz_good := zz_c5 166 (by decide +kernel) rfl
theorem ml_La_326 : Cond.methodLink "SeriesArchiveLaw" 326 y_Mo_segmentStart ∈ zz_good := zz_c10 18 (by decide +kernel) rfl
theorem ml_La_327 : Cond.methodLink "SeriesArchiveLaw" 327 y_La_distance ∈ zz_good := zz_c5 190 (by decide +kernel) rfl
theorem ml_La_329 : Cond.methodLink "SeriesArchiveLaw" 329 y_Mo_distance ∈ zz_good := zz_c10 22 (by decide +kernel) rfl
theorem ml_La_330 : Cond.methodLink "SeriesArchiveLaw" 330 y_La_distanceByWalks ∈ zz_good := zz_c5 225 (by decide +kernel) rfl
theorem ml_La_332 : Cond.methodLink "SeriesArchiveLaw" 332 y_Mo_distanceByWalks ∈ zz_good := zz_c10 33 (by decide +kernel) rfl
theorem ml_La_333 : Cond.methodLink "SeriesArchiveLaw" 333 y_La_areEqual ∈ zz_good := zz_c6 0 (by decide +kernel) rfl
theorem ml_La_335 : Cond.methodLink "SeriesArchiveLaw" 335 y_Mo_areEqual ∈ zz_good := zz_c10 37 (by decide +kernel) rfl
theorem ml_La_336 : Cond.methodLink "SeriesArchiveLaw" 336 y_La_areParallel ∈ zz_good := zz_c6 15 (by decide +kernel) rfl
theorem ml_La_338 : Cond.methodLink "SeriesArchiveLaw" 338 y_Mo_areParallel ∈ zz_good := zz_c10 45 (by decide +kernel) rfl
theorem ml_La_339 : Cond.methodLink "SeriesArchiveLaw" 339 y_La_isAscending ∈ zz_good := zz_c6 23 (by decide +kernel) rfl
theorem ml_La_341 : Cond.methodLink "SeriesArchiveLaw" 341 y_Mo_isAscending ∈ zz_good := zz_c10 49 (by decide +kernel) rfl
theorem ml_La_342 : Cond.methodLink "SeriesArchiveLaw" 342 y_SA_valueTotal ∈ zz_good := zz_c2 11 (by decide +kernel) rfl
theorem ml_La_345 : Cond.methodLink "SeriesArchiveLaw" 345 y_Mo_valueTotal ∈ zz_good := zz_c10 53 (by decide +kernel) rfl
theorem ml_La_346 : Cond.methodLink "SeriesArchiveLaw" 346 y_SA_appendedTotal ∈ zz_good := zz_c2 27 (by decide +kernel) rfl
theorem ml_La_349 : Cond.methodLink "SeriesArchiveLaw" 349 y_Mo_appendedTotal ∈ zz_good := zz_c10 65 (by decide +kernel) rfl
theorem ml_La_350 : Cond.methodLink "SeriesArchiveLaw" 350 y_La_positiveShare ∈ zz_good := zz_c6 34 (by decide +kernel) rfl
theorem ml_La_353 : Cond.methodLink "SeriesArchiveLaw" 353 y_Mo_positiveShare ∈ zz_good := zz_c10 69 (by decide +kernel) rfl
theorem ml_La_354 : Cond.methodLink "SeriesArchiveLaw" 354 y_SA_isConsistent ∈ zz_good := zz_c2 35 (by decide +kernel) rfl
theorem ml_La_358 : Cond.methodLink "SeriesArchiveLaw" 358 y_Mo_isConsistent ∈ zz_good := zz_c10 73 (by decide +kernel) rfl
theorem ml_La_359 : Cond.methodLink "SeriesArchiveLaw" 359 y_La_formatSeries ∈ zz_good := zz_c6 47 (by decide +kernel) rfl
theorem ml_La_361 : Cond.methodLink "SeriesArchiveLaw" 361 y_Mo_formatSeries ∈ zz_good := zz_c10 77 (by decide +kernel) rfl
theorem ml_La_362 : Cond.methodLink "SeriesArchiveLaw" 362 y_La_formatRuns ∈ zz_good := zz_c7 95 (by decide +kernel) rfl
theorem ml_La_364 : Cond.methodLink "SeriesArchiveLaw" 364 y_Mo_formatRuns ∈ zz_good := zz_c10 89 (by decide +kernel) rfl
theorem ml_La_365 : Cond.methodLink "SeriesArchiveLaw" 365 y_La_lineChar ∈ zz_good := zz_c7 102 (by decide +kernel) rfl
theorem ml_La_367 : Cond.methodLink "SeriesArchiveLaw" 367 y_Mo_lineChar ∈ zz_good := zz_c10 93 (by decide +kernel) rfl
theorem ml_La_368 : Cond.methodLink "SeriesArchiveLaw" 368 y_La_type ∈ zz_good := zz_c7 120 (by decide +kernel) rfl
theorem ml_La_371 : Cond.methodLink "SeriesArchiveLaw" 371 y_Mo_type ∈ zz_good := zz_c10 97 (by decide +kernel) rfl
theorem ml_La_372 : Cond.methodLink "SeriesArchiveLaw" 372 y_La_run ∈ zz_good := zz_c7 138 (by decide +kernel) rfl
theorem ml_La_375 : Cond.methodLink "SeriesArchiveLaw" 375 y_Mo_run ∈ zz_good := zz_c10 101 (by decide +kernel) rfl
theorem ml_La_376 : Cond.methodLink "SeriesArchiveLaw" 376 y_La_errorPosition ∈ zz_good := zz_c8 6 (by decide +kernel) rfl
theorem ml_La_378 : Cond.methodLink "SeriesArchiveLaw" 378 y_Mo_errorPosition ∈ zz_good := zz_c10 155 (by decide +kernel) rfl
theorem ml_La_379 : Cond.methodLink "SeriesArchiveLaw" 379 y_La_failedCommand ∈ zz_good := zz_c8 13 (by decide +kernel) rfl
theorem ml_La_381 : Cond.methodLink "SeriesArchiveLaw" 381 y_Mo_failedCommand ∈ zz_good := zz_c10 163 (by decide +kernel) rfl
theorem ml_La_382 : Cond.methodLink "SeriesArchiveLaw" 382 y_SA_undoableCount ∈ zz_good := zz_c2 132 (by decide +kernel) rfl
theorem ml_La_385 : Cond.methodLink "SeriesArchiveLaw" 385 y_Mo_undoableCount ∈ zz_good := zz_c10 167 (by decide +kernel) rfl
theorem ml_La_386 : Cond.methodLink "SeriesArchiveLaw" 386 y_La_undo ∈ zz_good := zz_c8 20 (by decide +kernel) rfl
theorem ml_La_388 : Cond.methodLink "SeriesArchiveLaw" 388 y_Mo_undo ∈ zz_good := zz_c10 171 (by decide +kernel) rfl
theorem ml_La_389 : Cond.methodLink "SeriesArchiveLaw" 389 y_SA_save ∈ zz_good := zz_c2 140 (by decide +kernel) rfl
theorem ml_La_392 : Cond.methodLink "SeriesArchiveLaw" 392 y_Mo_save ∈ zz_good := zz_c10 175 (by decide +kernel) rfl
theorem ml_La_393 : Cond.methodLink "SeriesArchiveLaw" 393 y_La_restore ∈ zz_good := zz_c8 33 (by decide +kernel) rfl
theorem ml_La_395 : Cond.methodLink "SeriesArchiveLaw" 395 y_Mo_restore ∈ zz_good := zz_c10 179 (by decide +kernel) rfl
set_option maxRecDepth 20000 in
theorem bt_La_law_3926 {l : Launch} {K : KT} {X : XT} (hX : Cx l K 1500 9 603072 7194729 X code "SeriesArchiveLaw" (some .boolean) [] L_La_law_3923) {b sl : Nat} {xs : Nat → Int32} (hSc : SC K X b sl xs) (k28 : Int32 → Mm → Rs Int32) (v5 : Int32) (c9 s9 : Nat) (hk28 : ∀ (v5 : Int32) M, VV l K 1500 9 603072 7194729 rvI X (k28 v5 M) (c9 + 85) (s9 + 11934) M 28 [(0, .ref b), (1, .ref (kA K 0)), (2, .ref (kA K 32)), (3, .ref (kA K 45)), (4, .ref (kA K 46)), (5, .int v5)] []) (hc9 : c9 + 85 ≤ 603072) (hs9 : s9 + 11934 ≤ 7194729) (M : Mm) : VV l K 1500 9 603072 7194729 rvI X (fn_La_law_3926 xs sl k28 v5 M) (c9 + 85) (s9 + 11934) M 3926 [(0, .ref b), (1, .ref (kA K 0)), (2, .ref (kA K 32)), (3, .ref (kA K 45)), (4, .ref (kA K 46)), (5, .int v5)] [] := by
  unfold fn_La_law_3926
  refine V_iincL hX 1 3929 5 rfl rfl rfl rfl (Nat.le_of_ble_eq_true rfl) (fun x5_3926 hx5_3926 => ?_)
  refine VV_lc [(5, .int x5_3926), (0, .ref b), (1, .ref (kA K 0)), (2, .ref (kA K 32)), (3, .ref (kA K 45)), (4, .ref (kA K 46))] rfl ?_
  refine V_goto hX 2 28 rfl (by decide) ?_
  refine VV_sub [1, 2, 3, 4, 5, 0] rfl ?_
  refine VV_wd (c9 + 85) (s9 + 11934) (by omega) (by omega) ?_
  exact hk28 x5_3926 M
set_option maxRecDepth 20000 in
theorem bt_La_law_365 {l : Launch} {K : KT} {X : XT} (hX : Cx l K 1500 9 603072 7194729 X code "SeriesArchiveLaw" (some .boolean) [] L_La_law_300) {b sl : Nat} {xs : Nat → Int32} (hSc : SC K X b sl xs) (k28 : Int32 → Mm → Rs Int32) (v5 : Int32) (c9 s9 : Nat) (hk28 : ∀ (v5 : Int32) M, VV l K 1500 9 603072 7194729 rvI X (k28 v5 M) (c9 + 85) (s9 + 11934) M 28 [(0, .ref b), (1, .ref (kA K 0)), (2, .ref (kA K 32)), (3, .ref (kA K 45)), (4, .ref (kA K 46)), (5, .int v5)] []) (hc9 : c9 + 85 ≤ 603072) (hs9 : s9 + 11934 ≤ 7194729) (M : Mm) : VV l K 1500 9 603072 7194729 rvI X (fn_La_law_365 xs sl k28 v5 M) (c9 + 1) (s9 + 6) M 365 [(0, .ref b), (1, .ref (kA K 0)), (2, .ref (kA K 32)), (3, .ref (kA K 45)), (4, .ref (kA K 46)), (5, .int v5)] [] := by
  unfold fn_La_law_365
  refine V_goto hX 44 3926 rfl (by decide) ?_
  refine VV_wd (c9 + 85) (s9 + 11934) (by omega) (by omega) ?_
  exact bt_La_law_3926 (cx_L hX dec_La_law_3923) hSc k28 v5 c9 s9 hk28 (by omega) (by omega) M
set_option maxRecDepth 20000 in
theorem bt_La_law_300 {l : Launch} {K : KT} {X : XT} (hX : Cx l K 1500 9 603072 7194729 X code "SeriesArchiveLaw" (some .boolean) [] L_La_law_300) {b sl : Nat} {xs : Nat → Int32} (hSc : SC K X b sl xs) (k28 : Int32 → Mm → Rs Int32) (v5 : Int32) (c9 s9 : Nat) (hk28 : ∀ (v5 : Int32) M, VV l K 1500 9 603072 7194729 rvI X (k28 v5 M) (c9 + 85) (s9 + 11934) M 28 [(0, .ref b), (1, .ref (kA K 0)), (2, .ref (kA K 32)), (3, .ref (kA K 45)), (4, .ref (kA K 46)), (5, .int v5)] []) (hc9 : c9 + 85 ≤ 603072) (hs9 : s9 + 11934 ≤ 7194729) (M : Mm) : VV l K 1500 9 603072 7194729 rvI X (fn_La_law_300 xs sl k28 v5 M) (c9 + 0) (s9 + 0) M 300 [(0, .ref b), (1, .ref (kA K 0)), (2, .ref (kA K 32)), (3, .ref (kA K 45)), (4, .ref (kA K 46)), (5, .int v5)] [] := by
  unfold fn_La_law_300
  refine V_aload_n hX (j := 1) (hj := rfl) 0 301 rfl rfl ?_
  refine V_aload_n hX (j := 0) (hj := rfl) 1 302 rfl rfl ?_
  refine V_iload hX (j := 5) (hj := rfl) 2 304 rfl rfl ?_
  refine V_iconst hX (v := 1) (hv := by decide) 3 305 rfl rfl ?_
  refine V_iadd hX 4 306 rfl rfl ?_
  refine V_sld hX hSc 5 307 rfl rfl (fun g306 => ?_)
  refine V_aload_n hX (j := 0) (hj := rfl) 6 308 rfl rfl ?_
  refine V_iload hX (j := 5) (hj := rfl) 7 310 rfl rfl ?_
  refine V_iconst hX (v := 2) (hv := by decide) 8 311 rfl rfl ?_
  refine V_iadd hX 9 312 rfl rfl ?_
  refine V_sld hX hSc 10 313 rfl rfl (fun g312 => ?_)
  refine V_aload_n hX (j := 3) (hj := rfl) 11 314 rfl rfl ?_
  refine V_callI hX 317 (c9 + 1) (s9 + 6) rfl rfl rfl (by omega) (by omega) (VR_SX hX 12 (ct_La_append (cx_t hX) K (xs (v5 + 1).toNatClampNeg) (xs (v5 + 2).toNatClampNeg) M) myw_La_append mt_La_append ml_La_198 (Nat.le_of_ble_eq_true rfl) (Nat.le_of_ble_eq_true rfl) rfl rfl (Nat.le_of_ble_eq_true rfl) rfl (by omega) (by omega)) (fun r314 M314 => ?_)
  refine V_istore hX 13 319 [(6, .int r314), (0, .ref b), (1, .ref (kA K 0)), (2, .ref (kA K 32)), (3, .ref (kA K 45)), (4, .ref (kA K 46)), (5, .int v5)] rfl rfl (Nat.le_of_ble_eq_true rfl) rfl ?_
  refine V_aload_n hX (j := 3) (hj := rfl) 14 320 rfl rfl ?_
  refine V_aload_n hX (j := 1) (hj := rfl) 15 321 rfl rfl ?_
  refine V_iload hX (j := 6) (hj := rfl) 16 323 rfl rfl ?_
  refine V_iconst hX (v := 1) (hv := by decide) 17 324 rfl rfl ?_
  refine V_iadd hX 18 325 rfl rfl ?_
  refine V_sld hX hSc 19 326 rfl rfl (fun g325 => ?_)
  refine V_aload_n hX (j := 1) (hj := rfl) 20 327 rfl rfl ?_
  refine V_iload hX (j := 6) (hj := rfl) 21 329 rfl rfl ?_
  refine V_iconst hX (v := 2) (hv := by decide) 22 330 rfl rfl ?_
  refine V_iadd hX 23 331 rfl rfl ?_
  refine V_sld hX hSc 24 332 rfl rfl (fun g331 => ?_)
  refine V_callI hX 335 (c9 + 1) (s9 + 6) rfl rfl rfl (by omega) (by omega) (VR_V hX 25 (ct_Mo_append (cx_t hX) K (xs (v5 + 1).toNatClampNeg) (xs (v5 + 2).toNatClampNeg) M314) my_Mo_append mi_Mo_append ms_Mo_append ml_La_203 (Nat.le_of_ble_eq_true rfl) (Nat.le_of_ble_eq_true rfl) (by decide) (ent_32 K _) rfl rfl rfl (Nat.le_of_ble_eq_true rfl) rfl (by omega) (by omega)) (fun r332 M332 => ?_)
  refine V_istore hX 26 337 [(7, .int r332), (6, .int r314), (0, .ref b), (1, .ref (kA K 0)), (2, .ref (kA K 32)), (3, .ref (kA K 45)), (4, .ref (kA K 46)), (5, .int v5)] rfl rfl (Nat.le_of_ble_eq_true rfl) rfl ?_
  refine V_aload_n hX (j := 4) (hj := rfl) 27 338 rfl rfl ?_
  refine V_callI hX 341 (c9 + 1) (s9 + 6) rfl rfl rfl (by omega) (by omega) (VR_V hX 28 (ct_Mo_thrown (cx_t hX) K M332) my_Mo_thrown mi_Mo_thrown ms_Mo_thrown ml_La_204 (Nat.le_of_ble_eq_true rfl) (Nat.le_of_ble_eq_true rfl) (by decide) (ent_32 K _) rfl rfl rfl (Nat.le_of_ble_eq_true rfl) rfl (by omega) (by omega)) (fun r338 M338 => ?_)
  refine V_iload hX (j := 1) (hj := rfl) 29 343 rfl rfl ?_
  refine V_icmp_eq hX 30 346 348 rfl rfl (by decide) (fun c343 => ?_) (fun c343 => ?_)
  · refine V_iload hX (j := 1) (hj := rfl) 33 350 rfl rfl ?_
    refine V_if_ne hX 34 353 365 rfl rfl (by decide) (fun c350 => ?_) (fun c350 => ?_)
    · refine VV_sub [2, 3, 4, 5, 6, 7] rfl ?_
      exact bt_La_law_365 hX hSc k28 v5 c9 s9 hk28 (by omega) (by omega) M338
    · refine V_aload_n hX (j := 5) (hj := rfl) 35 354 rfl rfl ?_
      refine V_iconst hX (v := 0) (hv := by decide) 36 355 rfl rfl ?_
      refine V_lald hX 37 356 rfl rfl ?_
      refine V_iload hX (j := 0) (hj := rfl) 38 358 rfl rfl ?_
      refine V_i2l hX 39 359 rfl rfl ?_
      refine V_lcmp hX 40 360 rfl rfl ?_
      refine V_if_eq hX 41 363 365 rfl rfl (by decide) (fun c360 => ?_) (fun c360 => ?_)
      · refine VV_sub [2, 3, 4, 5, 6, 7] rfl ?_
        exact bt_La_law_365 hX hSc k28 v5 c9 s9 hk28 (by omega) (by omega) M338
      · refine V_iconst hX (v := 0) (hv := by decide) 42 364 rfl rfl ?_
        exact V_zret hX 43 rfl rfl (by omega) (by omega) rfl
  · refine V_iconst hX (v := 0) (hv := by decide) 31 347 rfl rfl ?_
    exact V_zret hX 32 rfl rfl (by omega) (by omega) rfl
set_option maxRecDepth 20000 in
theorem bt_La_law_445 {l : Launch} {K : KT} {X : XT} (hX : Cx l K 1500 9 603072 7194729 X code "SeriesArchiveLaw" (some .boolean) [] L_La_law_368) {b sl : Nat} {xs : Nat → Int32} (hSc : SC K X b sl xs) (k28 : Int32 → Mm → Rs Int32) (v5 : Int32) (c9 s9 : Nat) (hk28 : ∀ (v5 : Int32) M, VV l K 1500 9 603072 7194729 rvI X (k28 v5 M) (c9 + 85) (s9 + 11934) M 28 [(0, .ref b), (1, .ref (kA K 0)), (2, .ref (kA K 32)), (3, .ref (kA K 45)), (4, .ref (kA K 46)), (5, .int v5)] []) (hc9 : c9 + 85 ≤ 603072) (hs9 : s9 + 11934 ≤ 7194729) (M : Mm) : VV l K 1500 9 603072 7194729 rvI X (fn_La_law_445 xs sl k28 v5 M) (c9 + 1) (s9 + 6) M 445 [(0, .ref b), (1, .ref (kA K 0)), (2, .ref (kA K 32)), (3, .ref (kA K 45)), (4, .ref (kA K 46)), (5, .int v5)] [] := by
  unfold fn_La_law_445
  refine V_goto hX 54 3926 rfl (by decide) ?_
  refine VV_wd (c9 + 85) (s9 + 11934) (by omega) (by omega) ?_
  exact bt_La_law_3926 (cx_L hX dec_La_law_3923) hSc k28 v5 c9 s9 hk28 (by omega) (by omega) M
set_option maxRecDepth 20000 in
theorem bt_La_law_368 {l : Launch} {K : KT} {X : XT} (hX : Cx l K 1500 9 603072 7194729 X code "SeriesArchiveLaw" (some .boolean) [] L_La_law_368) {b sl : Nat} {xs : Nat → Int32} (hSc : SC K X b sl xs) (k28 : Int32 → Mm → Rs Int32) (v5 : Int32) (c9 s9 : Nat) (hk28 : ∀ (v5 : Int32) M, VV l K 1500 9 603072 7194729 rvI X (k28 v5 M) (c9 + 85) (s9 + 11934) M 28 [(0, .ref b), (1, .ref (kA K 0)), (2, .ref (kA K 32)), (3, .ref (kA K 45)), (4, .ref (kA K 46)), (5, .int v5)] []) (hc9 : c9 + 85 ≤ 603072) (hs9 : s9 + 11934 ≤ 7194729) (M : Mm) : VV l K 1500 9 603072 7194729 rvI X (fn_La_law_368 xs sl k28 v5 M) (c9 + 0) (s9 + 0) M 368 [(0, .ref b), (1, .ref (kA K 0)), (2, .ref (kA K 32)), (3, .ref (kA K 45)), (4, .ref (kA K 46)), (5, .int v5)] [] := by
  unfold fn_La_law_368
  refine V_aload_n hX (j := 1) (hj := rfl) 0 369 rfl rfl ?_
  refine V_aload_n hX (j := 0) (hj := rfl) 1 370 rfl rfl ?_
  refine V_iload hX (j := 5) (hj := rfl) 2 372 rfl rfl ?_
  refine V_iconst hX (v := 1) (hv := by decide) 3 373 rfl rfl ?_
  refine V_iadd hX 4 374 rfl rfl ?_
  refine V_sld hX hSc 5 375 rfl rfl (fun g374 => ?_)
  refine V_aload_n hX (j := 0) (hj := rfl) 6 376 rfl rfl ?_
  refine V_iload hX (j := 5) (hj := rfl) 7 378 rfl rfl ?_
  refine V_iconst hX (v := 2) (hv := by decide) 8 379 rfl rfl ?_
  refine V_iadd hX 9 380 rfl rfl ?_
  refine V_sld hX hSc 10 381 rfl rfl (fun g380 => ?_)
  refine V_aload_n hX (j := 0) (hj := rfl) 11 382 rfl rfl ?_
  refine V_iload hX (j := 5) (hj := rfl) 12 384 rfl rfl ?_
  refine V_iconst hX (v := 3) (hv := by decide) 13 385 rfl rfl ?_
  refine V_iadd hX 14 386 rfl rfl ?_
  refine V_sld hX hSc 15 387 rfl rfl (fun g386 => ?_)
  refine V_aload_n hX (j := 3) (hj := rfl) 16 388 rfl rfl ?_
  refine V_callI hX 391 (c9 + 1) (s9 + 6) rfl rfl rfl (by omega) (by omega) (VR_SX hX 17 (ct_La_setValue (cx_t hX) K (xs (v5 + 1).toNatClampNeg) (xs (v5 + 2).toNatClampNeg) (xs (v5 + 3).toNatClampNeg) M) myw_La_setValue mt_La_setValue ml_La_207 (Nat.le_of_ble_eq_true rfl) (Nat.le_of_ble_eq_true rfl) rfl rfl (Nat.le_of_ble_eq_true rfl) rfl (by omega) (by omega)) (fun r388 M388 => ?_)
  refine V_istore hX 18 393 [(6, .int r388), (0, .ref b), (1, .ref (kA K 0)), (2, .ref (kA K 32)), (3, .ref (kA K 45)), (4, .ref (kA K 46)), (5, .int v5)] rfl rfl (Nat.le_of_ble_eq_true rfl) rfl ?_
  refine V_aload_n hX (j := 3) (hj := rfl) 19 394 rfl rfl ?_
  refine V_aload_n hX (j := 1) (hj := rfl) 20 395 rfl rfl ?_
  refine V_iload hX (j := 6) (hj := rfl) 21 397 rfl rfl ?_
  refine V_iconst hX (v := 1) (hv := by decide) 22 398 rfl rfl ?_
  refine V_iadd hX 23 399 rfl rfl ?_
  refine V_sld hX hSc 24 400 rfl rfl (fun g399 => ?_)
  refine V_aload_n hX (j := 1) (hj := rfl) 25 401 rfl rfl ?_
  refine V_iload hX (j := 6) (hj := rfl) 26 403 rfl rfl ?_
  refine V_iconst hX (v := 2) (hv := by decide) 27 404 rfl rfl ?_
  refine V_iadd hX 28 405 rfl rfl ?_
  refine V_sld hX hSc 29 406 rfl rfl (fun g405 => ?_)
  refine V_aload_n hX (j := 1) (hj := rfl) 30 407 rfl rfl ?_
  refine V_iload hX (j := 6) (hj := rfl) 31 409 rfl rfl ?_
  refine V_iconst hX (v := 3) (hv := by decide) 32 410 rfl rfl ?_
  refine V_iadd hX 33 411 rfl rfl ?_
  refine V_sld hX hSc 34 412 rfl rfl (fun g411 => ?_)
  refine V_callI hX 415 (c9 + 1) (s9 + 6) rfl rfl rfl (by omega) (by omega) (VR_V hX 35 (ct_Mo_setValue (cx_t hX) K (xs (v5 + 1).toNatClampNeg) (xs (v5 + 2).toNatClampNeg) (xs (v5 + 3).toNatClampNeg) M388) my_Mo_setValue mi_Mo_setValue ms_Mo_setValue ml_La_210 (Nat.le_of_ble_eq_true rfl) (Nat.le_of_ble_eq_true rfl) (by decide) (ent_32 K _) rfl rfl rfl (Nat.le_of_ble_eq_true rfl) rfl (by omega) (by omega)) (fun r412 M412 => ?_)
  refine V_istore hX 36 417 [(7, .int r412), (6, .int r388), (0, .ref b), (1, .ref (kA K 0)), (2, .ref (kA K 32)), (3, .ref (kA K 45)), (4, .ref (kA K 46)), (5, .int v5)] rfl rfl (Nat.le_of_ble_eq_true rfl) rfl ?_
  refine V_aload_n hX (j := 4) (hj := rfl) 37 418 rfl rfl ?_
  refine V_callI hX 421 (c9 + 1) (s9 + 6) rfl rfl rfl (by omega) (by omega) (VR_V hX 38 (ct_Mo_thrown (cx_t hX) K M412) my_Mo_thrown mi_Mo_thrown ms_Mo_thrown ml_La_204 (Nat.le_of_ble_eq_true rfl) (Nat.le_of_ble_eq_true rfl) (by decide) (ent_32 K _) rfl rfl rfl (Nat.le_of_ble_eq_true rfl) rfl (by omega) (by omega)) (fun r418 M418 => ?_)
  refine V_iload hX (j := 1) (hj := rfl) 39 423 rfl rfl ?_
  refine V_icmp_eq hX 40 426 428 rfl rfl (by decide) (fun c423 => ?_) (fun c423 => ?_)
  · refine V_iload hX (j := 1) (hj := rfl) 43 430 rfl rfl ?_
    refine V_if_ne hX 44 433 445 rfl rfl (by decide) (fun c430 => ?_) (fun c430 => ?_)
    · refine VV_sub [2, 3, 4, 5, 6, 7] rfl ?_
      exact bt_La_law_445 hX hSc k28 v5 c9 s9 hk28 (by omega) (by omega) M418
    · refine V_aload_n hX (j := 5) (hj := rfl) 45 434 rfl rfl ?_
      refine V_iconst hX (v := 0) (hv := by decide) 46 435 rfl rfl ?_
      refine V_lald hX 47 436 rfl rfl ?_
      refine V_iload hX (j := 0) (hj := rfl) 48 438 rfl rfl ?_
      refine V_i2l hX 49 439 rfl rfl ?_
      refine V_lcmp hX 50 440 rfl rfl ?_
      refine V_if_eq hX 51 443 445 rfl rfl (by decide) (fun c440 => ?_) (fun c440 => ?_)
      · refine VV_sub [2, 3, 4, 5, 6, 7] rfl ?_
        exact bt_La_law_445 hX hSc k28 v5 c9 s9 hk28 (by omega) (by omega) M418
      · refine V_iconst hX (v := 0) (hv := by decide) 52 444 rfl rfl ?_
        exact V_zret hX 53 rfl rfl (by omega) (by omega) rfl
  · refine V_iconst hX (v := 0) (hv := by decide) 41 427 rfl rfl ?_
    exact V_zret hX 42 rfl rfl (by omega) (by omega) rfl
set_option maxRecDepth 20000 in
theorem bt_La_law_513 {l : Launch} {K : KT} {X : XT} (hX : Cx l K 1500 9 603072 7194729 X code "SeriesArchiveLaw" (some .boolean) [] L_La_law_448) {b sl : Nat} {xs : Nat → Int32} (hSc : SC K X b sl xs) (k28 : Int32 → Mm → Rs Int32) (v5 : Int32) (c9 s9 : Nat) (hk28 : ∀ (v5 : Int32) M, VV l K 1500 9 603072 7194729 rvI X (k28 v5 M) (c9 + 85) (s9 + 11934) M 28 [(0, .ref b), (1, .ref (kA K 0)), (2, .ref (kA K 32)), (3, .ref (kA K 45)), (4, .ref (kA K 46)), (5, .int v5)] []) (hc9 : c9 + 85 ≤ 603072) (hs9 : s9 + 11934 ≤ 7194729) (M : Mm) : VV l K 1500 9 603072 7194729 rvI X (fn_La_law_513 xs sl k28 v5 M) (c9 + 1) (s9 + 6) M 513 [(0, .ref b), (1, .ref (kA K 0)), (2, .ref (kA K 32)), (3, .ref (kA K 45)), (4, .ref (kA K 46)), (5, .int v5)] [] := by
  unfold fn_La_law_513
  refine V_goto hX 44 3926 rfl (by decide) ?_
  refine VV_wd (c9 + 85) (s9 + 11934) (by omega) (by omega) ?_
  exact bt_La_law_3926 (cx_L hX dec_La_law_3923) hSc k28 v5 c9 s9 hk28 (by omega) (by omega) M
set_option maxRecDepth 20000 in
theorem bt_La_law_448 {l : Launch} {K : KT} {X : XT} (hX : Cx l K 1500 9 603072 7194729 X code "SeriesArchiveLaw" (some .boolean) [] L_La_law_448) {b sl : Nat} {xs : Nat → Int32} (hSc : SC K X b sl xs) (k28 : Int32 → Mm → Rs Int32) (v5 : Int32) (c9 s9 : Nat) (hk28 : ∀ (v5 : Int32) M, VV l K 1500 9 603072 7194729 rvI X (k28 v5 M) (c9 + 85) (s9 + 11934) M 28 [(0, .ref b), (1, .ref (kA K 0)), (2, .ref (kA K 32)), (3, .ref (kA K 45)), (4, .ref (kA K 46)), (5, .int v5)] []) (hc9 : c9 + 85 ≤ 603072) (hs9 : s9 + 11934 ≤ 7194729) (M : Mm) : VV l K 1500 9 603072 7194729 rvI X (fn_La_law_448 xs sl k28 v5 M) (c9 + 0) (s9 + 0) M 448 [(0, .ref b), (1, .ref (kA K 0)), (2, .ref (kA K 32)), (3, .ref (kA K 45)), (4, .ref (kA K 46)), (5, .int v5)] [] := by
  unfold fn_La_law_448
  refine V_aload_n hX (j := 1) (hj := rfl) 0 449 rfl rfl ?_
  refine V_aload_n hX (j := 0) (hj := rfl) 1 450 rfl rfl ?_
  refine V_iload hX (j := 5) (hj := rfl) 2 452 rfl rfl ?_
  refine V_iconst hX (v := 1) (hv := by decide) 3 453 rfl rfl ?_
  refine V_iadd hX 4 454 rfl rfl ?_
  refine V_sld hX hSc 5 455 rfl rfl (fun g454 => ?_)
  refine V_aload_n hX (j := 0) (hj := rfl) 6 456 rfl rfl ?_
  refine V_iload hX (j := 5) (hj := rfl) 7 458 rfl rfl ?_
  refine V_iconst hX (v := 2) (hv := by decide) 8 459 rfl rfl ?_
  refine V_iadd hX 9 460 rfl rfl ?_
  refine V_sld hX hSc 10 461 rfl rfl (fun g460 => ?_)
  refine V_aload_n hX (j := 3) (hj := rfl) 11 462 rfl rfl ?_
  refine V_callI hX 465 (c9 + 1) (s9 + 6) rfl rfl rfl (by omega) (by omega) (VR_SX hX 12 (ct_La_removeFirst (cx_t hX) K (xs (v5 + 1).toNatClampNeg) (xs (v5 + 2).toNatClampNeg) M) myw_La_removeFirst mt_La_removeFirst ml_La_211 (Nat.le_of_ble_eq_true rfl) (Nat.le_of_ble_eq_true rfl) rfl rfl (Nat.le_of_ble_eq_true rfl) rfl (by omega) (by omega)) (fun r462 M462 => ?_)
  refine V_istore hX 13 467 [(6, .int r462), (0, .ref b), (1, .ref (kA K 0)), (2, .ref (kA K 32)), (3, .ref (kA K 45)), (4, .ref (kA K 46)), (5, .int v5)] rfl rfl (Nat.le_of_ble_eq_true rfl) rfl ?_
  refine V_aload_n hX (j := 3) (hj := rfl) 14 468 rfl rfl ?_
  refine V_aload_n hX (j := 1) (hj := rfl) 15 469 rfl rfl ?_
  refine V_iload hX (j := 6) (hj := rfl) 16 471 rfl rfl ?_
  refine V_iconst hX (v := 1) (hv := by decide) 17 472 rfl rfl ?_
  refine V_iadd hX 18 473 rfl rfl ?_
  refine V_sld hX hSc 19 474 rfl rfl (fun g473 => ?_)
  refine V_aload_n hX (j := 1) (hj := rfl) 20 475 rfl rfl ?_
  refine V_iload hX (j := 6) (hj := rfl) 21 477 rfl rfl ?_
  refine V_iconst hX (v := 2) (hv := by decide) 22 478 rfl rfl ?_
  refine V_iadd hX 23 479 rfl rfl ?_
  refine V_sld hX hSc 24 480 rfl rfl (fun g479 => ?_)
  refine V_callI hX 483 (c9 + 1) (s9 + 6) rfl rfl rfl (by omega) (by omega) (VR_V hX 25 (ct_Mo_removeFirst (cx_t hX) K (xs (v5 + 1).toNatClampNeg) (xs (v5 + 2).toNatClampNeg) M462) my_Mo_removeFirst mi_Mo_removeFirst ms_Mo_removeFirst ml_La_213 (Nat.le_of_ble_eq_true rfl) (Nat.le_of_ble_eq_true rfl) (by decide) (ent_32 K _) rfl rfl rfl (Nat.le_of_ble_eq_true rfl) rfl (by omega) (by omega)) (fun r480 M480 => ?_)
  refine V_istore hX 26 485 [(7, .int r480), (6, .int r462), (0, .ref b), (1, .ref (kA K 0)), (2, .ref (kA K 32)), (3, .ref (kA K 45)), (4, .ref (kA K 46)), (5, .int v5)] rfl rfl (Nat.le_of_ble_eq_true rfl) rfl ?_
  refine V_aload_n hX (j := 4) (hj := rfl) 27 486 rfl rfl ?_
  refine V_callI hX 489 (c9 + 1) (s9 + 6) rfl rfl rfl (by omega) (by omega) (VR_V hX 28 (ct_Mo_thrown (cx_t hX) K M480) my_Mo_thrown mi_Mo_thrown ms_Mo_thrown ml_La_204 (Nat.le_of_ble_eq_true rfl) (Nat.le_of_ble_eq_true rfl) (by decide) (ent_32 K _) rfl rfl rfl (Nat.le_of_ble_eq_true rfl) rfl (by omega) (by omega)) (fun r486 M486 => ?_)
  refine V_iload hX (j := 1) (hj := rfl) 29 491 rfl rfl ?_
  refine V_icmp_eq hX 30 494 496 rfl rfl (by decide) (fun c491 => ?_) (fun c491 => ?_)
  · refine V_iload hX (j := 1) (hj := rfl) 33 498 rfl rfl ?_
    refine V_if_ne hX 34 501 513 rfl rfl (by decide) (fun c498 => ?_) (fun c498 => ?_)
    · refine VV_sub [2, 3, 4, 5, 6, 7] rfl ?_
      exact bt_La_law_513 hX hSc k28 v5 c9 s9 hk28 (by omega) (by omega) M486
    · refine V_aload_n hX (j := 5) (hj := rfl) 35 502 rfl rfl ?_
      refine V_iconst hX (v := 0) (hv := by decide) 36 503 rfl rfl ?_
      refine V_lald hX 37 504 rfl rfl ?_
      refine V_iload hX (j := 0) (hj := rfl) 38 506 rfl rfl ?_
      refine V_i2l hX 39 507 rfl rfl ?_
      refine V_lcmp hX 40 508 rfl rfl ?_
      refine V_if_eq hX 41 511 513 rfl rfl (by decide) (fun c508 => ?_) (fun c508 => ?_)
      · refine VV_sub [2, 3, 4, 5, 6, 7] rfl ?_
        exact bt_La_law_513 hX hSc k28 v5 c9 s9 hk28 (by omega) (by omega) M486
      · refine V_iconst hX (v := 0) (hv := by decide) 42 512 rfl rfl ?_
        exact V_zret hX 43 rfl rfl (by omega) (by omega) rfl
  · refine V_iconst hX (v := 0) (hv := by decide) 31 495 rfl rfl ?_
    exact V_zret hX 32 rfl rfl (by omega) (by omega) rfl
set_option maxRecDepth 20000 in
theorem bt_La_law_581 {l : Launch} {K : KT} {X : XT} (hX : Cx l K 1500 9 603072 7194729 X code "SeriesArchiveLaw" (some .boolean) [] L_La_law_516) {b sl : Nat} {xs : Nat → Int32} (hSc : SC K X b sl xs) (k28 : Int32 → Mm → Rs Int32) (v5 : Int32) (c9 s9 : Nat) (hk28 : ∀ (v5 : Int32) M, VV l K 1500 9 603072 7194729 rvI X (k28 v5 M) (c9 + 85) (s9 + 11934) M 28 [(0, .ref b), (1, .ref (kA K 0)), (2, .ref (kA K 32)), (3, .ref (kA K 45)), (4, .ref (kA K 46)), (5, .int v5)] []) (hc9 : c9 + 85 ≤ 603072) (hs9 : s9 + 11934 ≤ 7194729) (M : Mm) : VV l K 1500 9 603072 7194729 rvI X (fn_La_law_581 xs sl k28 v5 M) (c9 + 1) (s9 + 6) M 581 [(0, .ref b), (1, .ref (kA K 0)), (2, .ref (kA K 32)), (3, .ref (kA K 45)), (4, .ref (kA K 46)), (5, .int v5)] [] := by
  unfold fn_La_law_581
  refine V_goto hX 44 3926 rfl (by decide) ?_
  refine VV_wd (c9 + 85) (s9 + 11934) (by omega) (by omega) ?_
  exact bt_La_law_3926 (cx_L hX dec_La_law_3923) hSc k28 v5 c9 s9 hk28 (by omega) (by omega) M
set_option maxRecDepth 20000 in
theorem bt_La_law_516 {l : Launch} {K : KT} {X : XT} (hX : Cx l K 1500 9 603072 7194729 X code "SeriesArchiveLaw" (some .boolean) [] L_La_law_516) {b sl : Nat} {xs : Nat → Int32} (hSc : SC K X b sl xs) (k28 : Int32 → Mm → Rs Int32) (v5 : Int32) (c9 s9 : Nat) (hk28 : ∀ (v5 : Int32) M, VV l K 1500 9 603072 7194729 rvI X (k28 v5 M) (c9 + 85) (s9 + 11934) M 28 [(0, .ref b), (1, .ref (kA K 0)), (2, .ref (kA K 32)), (3, .ref (kA K 45)), (4, .ref (kA K 46)), (5, .int v5)] []) (hc9 : c9 + 85 ≤ 603072) (hs9 : s9 + 11934 ≤ 7194729) (M : Mm) : VV l K 1500 9 603072 7194729 rvI X (fn_La_law_516 xs sl k28 v5 M) (c9 + 0) (s9 + 0) M 516 [(0, .ref b), (1, .ref (kA K 0)), (2, .ref (kA K 32)), (3, .ref (kA K 45)), (4, .ref (kA K 46)), (5, .int v5)] [] := by
  unfold fn_La_law_516
  refine V_aload_n hX (j := 1) (hj := rfl) 0 517 rfl rfl ?_
  refine V_aload_n hX (j := 0) (hj := rfl) 1 518 rfl rfl ?_
  refine V_iload hX (j := 5) (hj := rfl) 2 520 rfl rfl ?_
  refine V_iconst hX (v := 1) (hv := by decide) 3 521 rfl rfl ?_
  refine V_iadd hX 4 522 rfl rfl ?_
  refine V_sld hX hSc 5 523 rfl rfl (fun g522 => ?_)
  refine V_aload_n hX (j := 0) (hj := rfl) 6 524 rfl rfl ?_
  refine V_iload hX (j := 5) (hj := rfl) 7 526 rfl rfl ?_
  refine V_iconst hX (v := 2) (hv := by decide) 8 527 rfl rfl ?_
  refine V_iadd hX 9 528 rfl rfl ?_
  refine V_sld hX hSc 10 529 rfl rfl (fun g528 => ?_)
  refine V_aload_n hX (j := 3) (hj := rfl) 11 530 rfl rfl ?_
  refine V_callI hX 533 (c9 + 1) (s9 + 6) rfl rfl rfl (by omega) (by omega) (VR_SX hX 12 (ct_La_copy (cx_t hX) K (xs (v5 + 1).toNatClampNeg) (xs (v5 + 2).toNatClampNeg) M) myw_La_copy mt_La_copy ml_La_214 (Nat.le_of_ble_eq_true rfl) (Nat.le_of_ble_eq_true rfl) rfl rfl (Nat.le_of_ble_eq_true rfl) rfl (by omega) (by omega)) (fun r530 M530 => ?_)
  refine V_istore hX 13 535 [(6, .int r530), (0, .ref b), (1, .ref (kA K 0)), (2, .ref (kA K 32)), (3, .ref (kA K 45)), (4, .ref (kA K 46)), (5, .int v5)] rfl rfl (Nat.le_of_ble_eq_true rfl) rfl ?_
  refine V_aload_n hX (j := 3) (hj := rfl) 14 536 rfl rfl ?_
  refine V_aload_n hX (j := 1) (hj := rfl) 15 537 rfl rfl ?_
  refine V_iload hX (j := 6) (hj := rfl) 16 539 rfl rfl ?_
  refine V_iconst hX (v := 1) (hv := by decide) 17 540 rfl rfl ?_
  refine V_iadd hX 18 541 rfl rfl ?_
  refine V_sld hX hSc 19 542 rfl rfl (fun g541 => ?_)
  refine V_aload_n hX (j := 1) (hj := rfl) 20 543 rfl rfl ?_
  refine V_iload hX (j := 6) (hj := rfl) 21 545 rfl rfl ?_
  refine V_iconst hX (v := 2) (hv := by decide) 22 546 rfl rfl ?_
  refine V_iadd hX 23 547 rfl rfl ?_
  refine V_sld hX hSc 24 548 rfl rfl (fun g547 => ?_)
  refine V_callI hX 551 (c9 + 1) (s9 + 6) rfl rfl rfl (by omega) (by omega) (VR_V hX 25 (ct_Mo_copy (cx_t hX) K (xs (v5 + 1).toNatClampNeg) (xs (v5 + 2).toNatClampNeg) M530) my_Mo_copy mi_Mo_copy ms_Mo_copy ml_La_216 (Nat.le_of_ble_eq_true rfl) (Nat.le_of_ble_eq_true rfl) (by decide) (ent_32 K _) rfl rfl rfl (Nat.le_of_ble_eq_true rfl) rfl (by omega) (by omega)) (fun r548 M548 => ?_)
  refine V_istore hX 26 553 [(7, .int r548), (6, .int r530), (0, .ref b), (1, .ref (kA K 0)), (2, .ref (kA K 32)), (3, .ref (kA K 45)), (4, .ref (kA K 46)), (5, .int v5)] rfl rfl (Nat.le_of_ble_eq_true rfl) rfl ?_
  refine V_aload_n hX (j := 4) (hj := rfl) 27 554 rfl rfl ?_
  refine V_callI hX 557 (c9 + 1) (s9 + 6) rfl rfl rfl (by omega) (by omega) (VR_V hX 28 (ct_Mo_thrown (cx_t hX) K M548) my_Mo_thrown mi_Mo_thrown ms_Mo_thrown ml_La_204 (Nat.le_of_ble_eq_true rfl) (Nat.le_of_ble_eq_true rfl) (by decide) (ent_32 K _) rfl rfl rfl (Nat.le_of_ble_eq_true rfl) rfl (by omega) (by omega)) (fun r554 M554 => ?_)
  refine V_iload hX (j := 1) (hj := rfl) 29 559 rfl rfl ?_
  refine V_icmp_eq hX 30 562 564 rfl rfl (by decide) (fun c559 => ?_) (fun c559 => ?_)
  · refine V_iload hX (j := 1) (hj := rfl) 33 566 rfl rfl ?_
    refine V_if_ne hX 34 569 581 rfl rfl (by decide) (fun c566 => ?_) (fun c566 => ?_)
    · refine VV_sub [2, 3, 4, 5, 6, 7] rfl ?_
      exact bt_La_law_581 hX hSc k28 v5 c9 s9 hk28 (by omega) (by omega) M554
    · refine V_aload_n hX (j := 5) (hj := rfl) 35 570 rfl rfl ?_
      refine V_iconst hX (v := 0) (hv := by decide) 36 571 rfl rfl ?_
      refine V_lald hX 37 572 rfl rfl ?_
      refine V_iload hX (j := 0) (hj := rfl) 38 574 rfl rfl ?_
      refine V_i2l hX 39 575 rfl rfl ?_
      refine V_lcmp hX 40 576 rfl rfl ?_
      refine V_if_eq hX 41 579 581 rfl rfl (by decide) (fun c576 => ?_) (fun c576 => ?_)
      · refine VV_sub [2, 3, 4, 5, 6, 7] rfl ?_
        exact bt_La_law_581 hX hSc k28 v5 c9 s9 hk28 (by omega) (by omega) M554
      · refine V_iconst hX (v := 0) (hv := by decide) 42 580 rfl rfl ?_
        exact V_zret hX 43 rfl rfl (by omega) (by omega) rfl
  · refine V_iconst hX (v := 0) (hv := by decide) 31 563 rfl rfl ?_
    exact V_zret hX 32 rfl rfl (by omega) (by omega) rfl
set_option maxRecDepth 20000 in
theorem bt_La_law_637 {l : Launch} {K : KT} {X : XT} (hX : Cx l K 1500 9 603072 7194729 X code "SeriesArchiveLaw" (some .boolean) [] L_La_law_584) {b sl : Nat} {xs : Nat → Int32} (hSc : SC K X b sl xs) (k28 : Int32 → Mm → Rs Int32) (v5 : Int32) (c9 s9 : Nat) (hk28 : ∀ (v5 : Int32) M, VV l K 1500 9 603072 7194729 rvI X (k28 v5 M) (c9 + 85) (s9 + 11934) M 28 [(0, .ref b), (1, .ref (kA K 0)), (2, .ref (kA K 32)), (3, .ref (kA K 45)), (4, .ref (kA K 46)), (5, .int v5)] []) (hc9 : c9 + 85 ≤ 603072) (hs9 : s9 + 11934 ≤ 7194729) (M : Mm) : VV l K 1500 9 603072 7194729 rvI X (fn_La_law_637 xs sl k28 v5 M) (c9 + 1) (s9 + 6) M 637 [(0, .ref b), (1, .ref (kA K 0)), (2, .ref (kA K 32)), (3, .ref (kA K 45)), (4, .ref (kA K 46)), (5, .int v5)] [] := by
  unfold fn_La_law_637
  refine V_goto hX 34 3926 rfl (by decide) ?_
  refine VV_wd (c9 + 85) (s9 + 11934) (by omega) (by omega) ?_
  exact bt_La_law_3926 (cx_L hX dec_La_law_3923) hSc k28 v5 c9 s9 hk28 (by omega) (by omega) M
set_option maxRecDepth 20000 in
theorem bt_La_law_584 {l : Launch} {K : KT} {X : XT} (hX : Cx l K 1500 9 603072 7194729 X code "SeriesArchiveLaw" (some .boolean) [] L_La_law_584) {b sl : Nat} {xs : Nat → Int32} (hSc : SC K X b sl xs) (k28 : Int32 → Mm → Rs Int32) (v5 : Int32) (c9 s9 : Nat) (hk28 : ∀ (v5 : Int32) M, VV l K 1500 9 603072 7194729 rvI X (k28 v5 M) (c9 + 85) (s9 + 11934) M 28 [(0, .ref b), (1, .ref (kA K 0)), (2, .ref (kA K 32)), (3, .ref (kA K 45)), (4, .ref (kA K 46)), (5, .int v5)] []) (hc9 : c9 + 85 ≤ 603072) (hs9 : s9 + 11934 ≤ 7194729) (M : Mm) : VV l K 1500 9 603072 7194729 rvI X (fn_La_law_584 xs sl k28 v5 M) (c9 + 0) (s9 + 0) M 584 [(0, .ref b), (1, .ref (kA K 0)), (2, .ref (kA K 32)), (3, .ref (kA K 45)), (4, .ref (kA K 46)), (5, .int v5)] [] := by
  unfold fn_La_law_584
  refine V_aload_n hX (j := 1) (hj := rfl) 0 585 rfl rfl ?_
  refine V_aload_n hX (j := 0) (hj := rfl) 1 586 rfl rfl ?_
  refine V_iload hX (j := 5) (hj := rfl) 2 588 rfl rfl ?_
  refine V_iconst hX (v := 1) (hv := by decide) 3 589 rfl rfl ?_
  refine V_iadd hX 4 590 rfl rfl ?_
  refine V_sld hX hSc 5 591 rfl rfl (fun g590 => ?_)
  refine V_aload_n hX (j := 3) (hj := rfl) 6 592 rfl rfl ?_
  refine V_callI hX 595 (c9 + 1) (s9 + 6) rfl rfl rfl (by omega) (by omega) (VR_SX hX 7 (ct_La_reverse (cx_t hX) K (xs (v5 + 1).toNatClampNeg) M) myw_La_reverse mt_La_reverse ml_La_217 (Nat.le_of_ble_eq_true rfl) (Nat.le_of_ble_eq_true rfl) rfl rfl (Nat.le_of_ble_eq_true rfl) rfl (by omega) (by omega)) (fun r592 M592 => ?_)
  refine V_istore hX 8 597 [(6, .int r592), (0, .ref b), (1, .ref (kA K 0)), (2, .ref (kA K 32)), (3, .ref (kA K 45)), (4, .ref (kA K 46)), (5, .int v5)] rfl rfl (Nat.le_of_ble_eq_true rfl) rfl ?_
  refine V_aload_n hX (j := 3) (hj := rfl) 9 598 rfl rfl ?_
  refine V_aload_n hX (j := 1) (hj := rfl) 10 599 rfl rfl ?_
  refine V_iload hX (j := 6) (hj := rfl) 11 601 rfl rfl ?_
  refine V_iconst hX (v := 1) (hv := by decide) 12 602 rfl rfl ?_
  refine V_iadd hX 13 603 rfl rfl ?_
  refine V_sld hX hSc 14 604 rfl rfl (fun g603 => ?_)
  refine V_callI hX 607 (c9 + 1) (s9 + 6) rfl rfl rfl (by omega) (by omega) (VR_V hX 15 (ct_Mo_reverse (cx_t hX) K (xs (v5 + 1).toNatClampNeg) M592) my_Mo_reverse mi_Mo_reverse ms_Mo_reverse ml_La_220 (Nat.le_of_ble_eq_true rfl) (Nat.le_of_ble_eq_true rfl) (by decide) (ent_32 K _) rfl rfl rfl (Nat.le_of_ble_eq_true rfl) rfl (by omega) (by omega)) (fun r604 M604 => ?_)
  refine V_istore hX 16 609 [(7, .int r604), (6, .int r592), (0, .ref b), (1, .ref (kA K 0)), (2, .ref (kA K 32)), (3, .ref (kA K 45)), (4, .ref (kA K 46)), (5, .int v5)] rfl rfl (Nat.le_of_ble_eq_true rfl) rfl ?_
  refine V_aload_n hX (j := 4) (hj := rfl) 17 610 rfl rfl ?_
  refine V_callI hX 613 (c9 + 1) (s9 + 6) rfl rfl rfl (by omega) (by omega) (VR_V hX 18 (ct_Mo_thrown (cx_t hX) K M604) my_Mo_thrown mi_Mo_thrown ms_Mo_thrown ml_La_204 (Nat.le_of_ble_eq_true rfl) (Nat.le_of_ble_eq_true rfl) (by decide) (ent_32 K _) rfl rfl rfl (Nat.le_of_ble_eq_true rfl) rfl (by omega) (by omega)) (fun r610 M610 => ?_)
  refine V_iload hX (j := 1) (hj := rfl) 19 615 rfl rfl ?_
  refine V_icmp_eq hX 20 618 620 rfl rfl (by decide) (fun c615 => ?_) (fun c615 => ?_)
  · refine V_iload hX (j := 1) (hj := rfl) 23 622 rfl rfl ?_
    refine V_if_ne hX 24 625 637 rfl rfl (by decide) (fun c622 => ?_) (fun c622 => ?_)
    · refine VV_sub [2, 3, 4, 5, 6, 7] rfl ?_
      exact bt_La_law_637 hX hSc k28 v5 c9 s9 hk28 (by omega) (by omega) M610
    · refine V_aload_n hX (j := 5) (hj := rfl) 25 626 rfl rfl ?_
      refine V_iconst hX (v := 0) (hv := by decide) 26 627 rfl rfl ?_
      refine V_lald hX 27 628 rfl rfl ?_
      refine V_iload hX (j := 0) (hj := rfl) 28 630 rfl rfl ?_
      refine V_i2l hX 29 631 rfl rfl ?_
      refine V_lcmp hX 30 632 rfl rfl ?_
      refine V_if_eq hX 31 635 637 rfl rfl (by decide) (fun c632 => ?_) (fun c632 => ?_)
      · refine VV_sub [2, 3, 4, 5, 6, 7] rfl ?_
        exact bt_La_law_637 hX hSc k28 v5 c9 s9 hk28 (by omega) (by omega) M610
      · refine V_iconst hX (v := 0) (hv := by decide) 32 636 rfl rfl ?_
        exact V_zret hX 33 rfl rfl (by omega) (by omega) rfl
  · refine V_iconst hX (v := 0) (hv := by decide) 21 619 rfl rfl ?_
    exact V_zret hX 22 rfl rfl (by omega) (by omega) rfl
set_option maxRecDepth 20000 in
theorem bt_La_law_705 {l : Launch} {K : KT} {X : XT} (hX : Cx l K 1500 9 603072 7194729 X code "SeriesArchiveLaw" (some .boolean) [] L_La_law_640) {b sl : Nat} {xs : Nat → Int32} (hSc : SC K X b sl xs) (k28 : Int32 → Mm → Rs Int32) (v5 : Int32) (c9 s9 : Nat) (hk28 : ∀ (v5 : Int32) M, VV l K 1500 9 603072 7194729 rvI X (k28 v5 M) (c9 + 85) (s9 + 11934) M 28 [(0, .ref b), (1, .ref (kA K 0)), (2, .ref (kA K 32)), (3, .ref (kA K 45)), (4, .ref (kA K 46)), (5, .int v5)] []) (hc9 : c9 + 85 ≤ 603072) (hs9 : s9 + 11934 ≤ 7194729) (M : Mm) : VV l K 1500 9 603072 7194729 rvI X (fn_La_law_705 xs sl k28 v5 M) (c9 + 1) (s9 + 6) M 705 [(0, .ref b), (1, .ref (kA K 0)), (2, .ref (kA K 32)), (3, .ref (kA K 45)), (4, .ref (kA K 46)), (5, .int v5)] [] := by
  unfold fn_La_law_705
  refine V_goto hX 44 3926 rfl (by decide) ?_
  refine VV_wd (c9 + 85) (s9 + 11934) (by omega) (by omega) ?_
  exact bt_La_law_3926 (cx_L hX dec_La_law_3923) hSc k28 v5 c9 s9 hk28 (by omega) (by omega) M
set_option maxRecDepth 20000 in
theorem bt_La_law_640 {l : Launch} {K : KT} {X : XT} (hX : Cx l K 1500 9 603072 7194729 X code "SeriesArchiveLaw" (some .boolean) [] L_La_law_640) {b sl : Nat} {xs : Nat → Int32} (hSc : SC K X b sl xs) (k28 : Int32 → Mm → Rs Int32) (v5 : Int32) (c9 s9 : Nat) (hk28 : ∀ (v5 : Int32) M, VV l K 1500 9 603072 7194729 rvI X (k28 v5 M) (c9 + 85) (s9 + 11934) M 28 [(0, .ref b), (1, .ref (kA K 0)), (2, .ref (kA K 32)), (3, .ref (kA K 45)), (4, .ref (kA K 46)), (5, .int v5)] []) (hc9 : c9 + 85 ≤ 603072) (hs9 : s9 + 11934 ≤ 7194729) (M : Mm) : VV l K 1500 9 603072 7194729 rvI X (fn_La_law_640 xs sl k28 v5 M) (c9 + 0) (s9 + 0) M 640 [(0, .ref b), (1, .ref (kA K 0)), (2, .ref (kA K 32)), (3, .ref (kA K 45)), (4, .ref (kA K 46)), (5, .int v5)] [] := by
  unfold fn_La_law_640
  refine V_aload_n hX (j := 1) (hj := rfl) 0 641 rfl rfl ?_
  refine V_aload_n hX (j := 0) (hj := rfl) 1 642 rfl rfl ?_
  refine V_iload hX (j := 5) (hj := rfl) 2 644 rfl rfl ?_
  refine V_iconst hX (v := 1) (hv := by decide) 3 645 rfl rfl ?_
  refine V_iadd hX 4 646 rfl rfl ?_
  refine V_sld hX hSc 5 647 rfl rfl (fun g646 => ?_)
  refine V_aload_n hX (j := 0) (hj := rfl) 6 648 rfl rfl ?_
  refine V_iload hX (j := 5) (hj := rfl) 7 650 rfl rfl ?_
  refine V_iconst hX (v := 2) (hv := by decide) 8 651 rfl rfl ?_
  refine V_iadd hX 9 652 rfl rfl ?_
  refine V_sld hX hSc 10 653 rfl rfl (fun g652 => ?_)
  refine V_aload_n hX (j := 3) (hj := rfl) 11 654 rfl rfl ?_
  refine V_callI hX 657 (c9 + 1) (s9 + 6) rfl rfl rfl (by omega) (by omega) (VR_SX hX 12 (ct_La_shift (cx_t hX) K (xs (v5 + 1).toNatClampNeg) (xs (v5 + 2).toNatClampNeg) M) myw_La_shift mt_La_shift ml_La_221 (Nat.le_of_ble_eq_true rfl) (Nat.le_of_ble_eq_true rfl) rfl rfl (Nat.le_of_ble_eq_true rfl) rfl (by omega) (by omega)) (fun r654 M654 => ?_)
  refine V_istore hX 13 659 [(6, .int r654), (0, .ref b), (1, .ref (kA K 0)), (2, .ref (kA K 32)), (3, .ref (kA K 45)), (4, .ref (kA K 46)), (5, .int v5)] rfl rfl (Nat.le_of_ble_eq_true rfl) rfl ?_
  refine V_aload_n hX (j := 3) (hj := rfl) 14 660 rfl rfl ?_
  refine V_aload_n hX (j := 1) (hj := rfl) 15 661 rfl rfl ?_
  refine V_iload hX (j := 6) (hj := rfl) 16 663 rfl rfl ?_
  refine V_iconst hX (v := 1) (hv := by decide) 17 664 rfl rfl ?_
  refine V_iadd hX 18 665 rfl rfl ?_
  refine V_sld hX hSc 19 666 rfl rfl (fun g665 => ?_)
  refine V_aload_n hX (j := 1) (hj := rfl) 20 667 rfl rfl ?_
  refine V_iload hX (j := 6) (hj := rfl) 21 669 rfl rfl ?_
  refine V_iconst hX (v := 2) (hv := by decide) 22 670 rfl rfl ?_
  refine V_iadd hX 23 671 rfl rfl ?_
  refine V_sld hX hSc 24 672 rfl rfl (fun g671 => ?_)
  refine V_callI hX 675 (c9 + 1) (s9 + 6) rfl rfl rfl (by omega) (by omega) (VR_V hX 25 (ct_Mo_shift (cx_t hX) K (xs (v5 + 1).toNatClampNeg) (xs (v5 + 2).toNatClampNeg) M654) my_Mo_shift mi_Mo_shift ms_Mo_shift ml_La_223 (Nat.le_of_ble_eq_true rfl) (Nat.le_of_ble_eq_true rfl) (by decide) (ent_32 K _) rfl rfl rfl (Nat.le_of_ble_eq_true rfl) rfl (by omega) (by omega)) (fun r672 M672 => ?_)
  refine V_istore hX 26 677 [(7, .int r672), (6, .int r654), (0, .ref b), (1, .ref (kA K 0)), (2, .ref (kA K 32)), (3, .ref (kA K 45)), (4, .ref (kA K 46)), (5, .int v5)] rfl rfl (Nat.le_of_ble_eq_true rfl) rfl ?_
  refine V_aload_n hX (j := 4) (hj := rfl) 27 678 rfl rfl ?_
  refine V_callI hX 681 (c9 + 1) (s9 + 6) rfl rfl rfl (by omega) (by omega) (VR_V hX 28 (ct_Mo_thrown (cx_t hX) K M672) my_Mo_thrown mi_Mo_thrown ms_Mo_thrown ml_La_204 (Nat.le_of_ble_eq_true rfl) (Nat.le_of_ble_eq_true rfl) (by decide) (ent_32 K _) rfl rfl rfl (Nat.le_of_ble_eq_true rfl) rfl (by omega) (by omega)) (fun r678 M678 => ?_)
  refine V_iload hX (j := 1) (hj := rfl) 29 683 rfl rfl ?_
  refine V_icmp_eq hX 30 686 688 rfl rfl (by decide) (fun c683 => ?_) (fun c683 => ?_)
  · refine V_iload hX (j := 1) (hj := rfl) 33 690 rfl rfl ?_
    refine V_if_ne hX 34 693 705 rfl rfl (by decide) (fun c690 => ?_) (fun c690 => ?_)
    · refine VV_sub [2, 3, 4, 5, 6, 7] rfl ?_
      exact bt_La_law_705 hX hSc k28 v5 c9 s9 hk28 (by omega) (by omega) M678
    · refine V_aload_n hX (j := 5) (hj := rfl) 35 694 rfl rfl ?_
      refine V_iconst hX (v := 0) (hv := by decide) 36 695 rfl rfl ?_
      refine V_lald hX 37 696 rfl rfl ?_
      refine V_iload hX (j := 0) (hj := rfl) 38 698 rfl rfl ?_
      refine V_i2l hX 39 699 rfl rfl ?_
      refine V_lcmp hX 40 700 rfl rfl ?_
      refine V_if_eq hX 41 703 705 rfl rfl (by decide) (fun c700 => ?_) (fun c700 => ?_)
      · refine VV_sub [2, 3, 4, 5, 6, 7] rfl ?_
        exact bt_La_law_705 hX hSc k28 v5 c9 s9 hk28 (by omega) (by omega) M678
      · refine V_iconst hX (v := 0) (hv := by decide) 42 704 rfl rfl ?_
        exact V_zret hX 43 rfl rfl (by omega) (by omega) rfl
  · refine V_iconst hX (v := 0) (hv := by decide) 31 687 rfl rfl ?_
    exact V_zret hX 32 rfl rfl (by omega) (by omega) rfl
set_option maxRecDepth 20000 in
theorem bt_La_law_773 {l : Launch} {K : KT} {X : XT} (hX : Cx l K 1500 9 603072 7194729 X code "SeriesArchiveLaw" (some .boolean) [] L_La_law_708) {b sl : Nat} {xs : Nat → Int32} (hSc : SC K X b sl xs) (k28 : Int32 → Mm → Rs Int32) (v5 : Int32) (c9 s9 : Nat) (hk28 : ∀ (v5 : Int32) M, VV l K 1500 9 603072 7194729 rvI X (k28 v5 M) (c9 + 85) (s9 + 11934) M 28 [(0, .ref b), (1, .ref (kA K 0)), (2, .ref (kA K 32)), (3, .ref (kA K 45)), (4, .ref (kA K 46)), (5, .int v5)] []) (hc9 : c9 + 85 ≤ 603072) (hs9 : s9 + 11934 ≤ 7194729) (M : Mm) : VV l K 1500 9 603072 7194729 rvI X (fn_La_law_773 xs sl k28 v5 M) (c9 + 1) (s9 + 6) M 773 [(0, .ref b), (1, .ref (kA K 0)), (2, .ref (kA K 32)), (3, .ref (kA K 45)), (4, .ref (kA K 46)), (5, .int v5)] [] := by
  unfold fn_La_law_773
  refine V_goto hX 44 3926 rfl (by decide) ?_
  refine VV_wd (c9 + 85) (s9 + 11934) (by omega) (by omega) ?_
  exact bt_La_law_3926 (cx_L hX dec_La_law_3923) hSc k28 v5 c9 s9 hk28 (by omega) (by omega) M
set_option maxRecDepth 20000 in
theorem bt_La_law_708 {l : Launch} {K : KT} {X : XT} (hX : Cx l K 1500 9 603072 7194729 X code "SeriesArchiveLaw" (some .boolean) [] L_La_law_708) {b sl : Nat} {xs : Nat → Int32} (hSc : SC K X b sl xs) (k28 : Int32 → Mm → Rs Int32) (v5 : Int32) (c9 s9 : Nat) (hk28 : ∀ (v5 : Int32) M, VV l K 1500 9 603072 7194729 rvI X (k28 v5 M) (c9 + 85) (s9 + 11934) M 28 [(0, .ref b), (1, .ref (kA K 0)), (2, .ref (kA K 32)), (3, .ref (kA K 45)), (4, .ref (kA K 46)), (5, .int v5)] []) (hc9 : c9 + 85 ≤ 603072) (hs9 : s9 + 11934 ≤ 7194729) (M : Mm) : VV l K 1500 9 603072 7194729 rvI X (fn_La_law_708 xs sl k28 v5 M) (c9 + 0) (s9 + 0) M 708 [(0, .ref b), (1, .ref (kA K 0)), (2, .ref (kA K 32)), (3, .ref (kA K 45)), (4, .ref (kA K 46)), (5, .int v5)] [] := by
  unfold fn_La_law_708
  refine V_aload_n hX (j := 1) (hj := rfl) 0 709 rfl rfl ?_
  refine V_aload_n hX (j := 0) (hj := rfl) 1 710 rfl rfl ?_
  refine V_iload hX (j := 5) (hj := rfl) 2 712 rfl rfl ?_
  refine V_iconst hX (v := 1) (hv := by decide) 3 713 rfl rfl ?_
  refine V_iadd hX 4 714 rfl rfl ?_
  refine V_sld hX hSc 5 715 rfl rfl (fun g714 => ?_)
  refine V_aload_n hX (j := 0) (hj := rfl) 6 716 rfl rfl ?_
  refine V_iload hX (j := 5) (hj := rfl) 7 718 rfl rfl ?_
  refine V_iconst hX (v := 2) (hv := by decide) 8 719 rfl rfl ?_
  refine V_iadd hX 9 720 rfl rfl ?_
  refine V_sld hX hSc 10 721 rfl rfl (fun g720 => ?_)
  refine V_aload_n hX (j := 3) (hj := rfl) 11 722 rfl rfl ?_
  refine V_callI hX 725 (c9 + 1) (s9 + 6) rfl rfl rfl (by omega) (by omega) (VR_SX hX 12 (ct_La_smooth (cx_t hX) K (xs (v5 + 1).toNatClampNeg) (xs (v5 + 2).toNatClampNeg) M) myw_La_smooth mt_La_smooth ml_La_224 (Nat.le_of_ble_eq_true rfl) (Nat.le_of_ble_eq_true rfl) rfl rfl (Nat.le_of_ble_eq_true rfl) rfl (by omega) (by omega)) (fun r722 M722 => ?_)
  refine V_istore hX 13 727 [(6, .int r722), (0, .ref b), (1, .ref (kA K 0)), (2, .ref (kA K 32)), (3, .ref (kA K 45)), (4, .ref (kA K 46)), (5, .int v5)] rfl rfl (Nat.le_of_ble_eq_true rfl) rfl ?_
  refine V_aload_n hX (j := 3) (hj := rfl) 14 728 rfl rfl ?_
  refine V_aload_n hX (j := 1) (hj := rfl) 15 729 rfl rfl ?_
  refine V_iload hX (j := 6) (hj := rfl) 16 731 rfl rfl ?_
  refine V_iconst hX (v := 1) (hv := by decide) 17 732 rfl rfl ?_
  refine V_iadd hX 18 733 rfl rfl ?_
  refine V_sld hX hSc 19 734 rfl rfl (fun g733 => ?_)
  refine V_aload_n hX (j := 1) (hj := rfl) 20 735 rfl rfl ?_
  refine V_iload hX (j := 6) (hj := rfl) 21 737 rfl rfl ?_
  refine V_iconst hX (v := 2) (hv := by decide) 22 738 rfl rfl ?_
  refine V_iadd hX 23 739 rfl rfl ?_
  refine V_sld hX hSc 24 740 rfl rfl (fun g739 => ?_)
  refine V_callI hX 743 (c9 + 1) (s9 + 6) rfl rfl rfl (by omega) (by omega) (VR_V hX 25 (ct_Mo_smooth (cx_t hX) K (xs (v5 + 1).toNatClampNeg) (xs (v5 + 2).toNatClampNeg) M722) my_Mo_smooth mi_Mo_smooth ms_Mo_smooth ml_La_226 (Nat.le_of_ble_eq_true rfl) (Nat.le_of_ble_eq_true rfl) (by decide) (ent_32 K _) rfl rfl rfl (Nat.le_of_ble_eq_true rfl) rfl (by omega) (by omega)) (fun r740 M740 => ?_)
  refine V_istore hX 26 745 [(7, .int r740), (6, .int r722), (0, .ref b), (1, .ref (kA K 0)), (2, .ref (kA K 32)), (3, .ref (kA K 45)), (4, .ref (kA K 46)), (5, .int v5)] rfl rfl (Nat.le_of_ble_eq_true rfl) rfl ?_
  refine V_aload_n hX (j := 4) (hj := rfl) 27 746 rfl rfl ?_
  refine V_callI hX 749 (c9 + 1) (s9 + 6) rfl rfl rfl (by omega) (by omega) (VR_V hX 28 (ct_Mo_thrown (cx_t hX) K M740) my_Mo_thrown mi_Mo_thrown ms_Mo_thrown ml_La_204 (Nat.le_of_ble_eq_true rfl) (Nat.le_of_ble_eq_true rfl) (by decide) (ent_32 K _) rfl rfl rfl (Nat.le_of_ble_eq_true rfl) rfl (by omega) (by omega)) (fun r746 M746 => ?_)
  refine V_iload hX (j := 1) (hj := rfl) 29 751 rfl rfl ?_
  refine V_icmp_eq hX 30 754 756 rfl rfl (by decide) (fun c751 => ?_) (fun c751 => ?_)
  · refine V_iload hX (j := 1) (hj := rfl) 33 758 rfl rfl ?_
    refine V_if_ne hX 34 761 773 rfl rfl (by decide) (fun c758 => ?_) (fun c758 => ?_)
    · refine VV_sub [2, 3, 4, 5, 6, 7] rfl ?_
      exact bt_La_law_773 hX hSc k28 v5 c9 s9 hk28 (by omega) (by omega) M746
    · refine V_aload_n hX (j := 5) (hj := rfl) 35 762 rfl rfl ?_
      refine V_iconst hX (v := 0) (hv := by decide) 36 763 rfl rfl ?_
      refine V_lald hX 37 764 rfl rfl ?_
      refine V_iload hX (j := 0) (hj := rfl) 38 766 rfl rfl ?_
      refine V_i2l hX 39 767 rfl rfl ?_
      refine V_lcmp hX 40 768 rfl rfl ?_
      refine V_if_eq hX 41 771 773 rfl rfl (by decide) (fun c768 => ?_) (fun c768 => ?_)
      · refine VV_sub [2, 3, 4, 5, 6, 7] rfl ?_
        exact bt_La_law_773 hX hSc k28 v5 c9 s9 hk28 (by omega) (by omega) M746
      · refine V_iconst hX (v := 0) (hv := by decide) 42 772 rfl rfl ?_
        exact V_zret hX 43 rfl rfl (by omega) (by omega) rfl
  · refine V_iconst hX (v := 0) (hv := by decide) 31 755 rfl rfl ?_
    exact V_zret hX 32 rfl rfl (by omega) (by omega) rfl
set_option maxRecDepth 20000 in
theorem bt_La_law_829 {l : Launch} {K : KT} {X : XT} (hX : Cx l K 1500 9 603072 7194729 X code "SeriesArchiveLaw" (some .boolean) [] L_La_law_776) {b sl : Nat} {xs : Nat → Int32} (hSc : SC K X b sl xs) (k28 : Int32 → Mm → Rs Int32) (v5 : Int32) (c9 s9 : Nat) (hk28 : ∀ (v5 : Int32) M, VV l K 1500 9 603072 7194729 rvI X (k28 v5 M) (c9 + 85) (s9 + 11934) M 28 [(0, .ref b), (1, .ref (kA K 0)), (2, .ref (kA K 32)), (3, .ref (kA K 45)), (4, .ref (kA K 46)), (5, .int v5)] []) (hc9 : c9 + 85 ≤ 603072) (hs9 : s9 + 11934 ≤ 7194729) (M : Mm) : VV l K 1500 9 603072 7194729 rvI X (fn_La_law_829 xs sl k28 v5 M) (c9 + 1) (s9 + 6) M 829 [(0, .ref b), (1, .ref (kA K 0)), (2, .ref (kA K 32)), (3, .ref (kA K 45)), (4, .ref (kA K 46)), (5, .int v5)] [] := by
  unfold fn_La_law_829
  refine V_goto hX 34 3926 rfl (by decide) ?_
  refine VV_wd (c9 + 85) (s9 + 11934) (by omega) (by omega) ?_
  exact bt_La_law_3926 (cx_L hX dec_La_law_3923) hSc k28 v5 c9 s9 hk28 (by omega) (by omega) M
set_option maxRecDepth 20000 in
theorem bt_La_law_776 {l : Launch} {K : KT} {X : XT} (hX : Cx l K 1500 9 603072 7194729 X code "SeriesArchiveLaw" (some .boolean) [] L_La_law_776) {b sl : Nat} {xs : Nat → Int32} (hSc : SC K X b sl xs) (k28 : Int32 → Mm → Rs Int32) (v5 : Int32) (c9 s9 : Nat) (hk28 : ∀ (v5 : Int32) M, VV l K 1500 9 603072 7194729 rvI X (k28 v5 M) (c9 + 85) (s9 + 11934) M 28 [(0, .ref b), (1, .ref (kA K 0)), (2, .ref (kA K 32)), (3, .ref (kA K 45)), (4, .ref (kA K 46)), (5, .int v5)] []) (hc9 : c9 + 85 ≤ 603072) (hs9 : s9 + 11934 ≤ 7194729) (M : Mm) : VV l K 1500 9 603072 7194729 rvI X (fn_La_law_776 xs sl k28 v5 M) (c9 + 0) (s9 + 0) M 776 [(0, .ref b), (1, .ref (kA K 0)), (2, .ref (kA K 32)), (3, .ref (kA K 45)), (4, .ref (kA K 46)), (5, .int v5)] [] := by
  unfold fn_La_law_776
  refine V_aload_n hX (j := 1) (hj := rfl) 0 777 rfl rfl ?_
  refine V_aload_n hX (j := 0) (hj := rfl) 1 778 rfl rfl ?_
  refine V_iload hX (j := 5) (hj := rfl) 2 780 rfl rfl ?_
  refine V_iconst hX (v := 1) (hv := by decide) 3 781 rfl rfl ?_
  refine V_iadd hX 4 782 rfl rfl ?_
  refine V_sld hX hSc 5 783 rfl rfl (fun g782 => ?_)
  refine V_aload_n hX (j := 3) (hj := rfl) 6 784 rfl rfl ?_
  refine V_callI hX 787 (c9 + 1) (s9 + 6) rfl rfl rfl (by omega) (by omega) (VR_SX hX 7 (ct_La_toSteps (cx_t hX) K (xs (v5 + 1).toNatClampNeg) M) myw_La_toSteps mt_La_toSteps ml_La_227 (Nat.le_of_ble_eq_true rfl) (Nat.le_of_ble_eq_true rfl) rfl rfl (Nat.le_of_ble_eq_true rfl) rfl (by omega) (by omega)) (fun r784 M784 => ?_)
  refine V_istore hX 8 789 [(6, .int r784), (0, .ref b), (1, .ref (kA K 0)), (2, .ref (kA K 32)), (3, .ref (kA K 45)), (4, .ref (kA K 46)), (5, .int v5)] rfl rfl (Nat.le_of_ble_eq_true rfl) rfl ?_
  refine V_aload_n hX (j := 3) (hj := rfl) 9 790 rfl rfl ?_
  refine V_aload_n hX (j := 1) (hj := rfl) 10 791 rfl rfl ?_
  refine V_iload hX (j := 6) (hj := rfl) 11 793 rfl rfl ?_
  refine V_iconst hX (v := 1) (hv := by decide) 12 794 rfl rfl ?_
  refine V_iadd hX 13 795 rfl rfl ?_
  refine V_sld hX hSc 14 796 rfl rfl (fun g795 => ?_)
  refine V_callI hX 799 (c9 + 1) (s9 + 6) rfl rfl rfl (by omega) (by omega) (VR_V hX 15 (ct_Mo_toSteps (cx_t hX) K (xs (v5 + 1).toNatClampNeg) M784) my_Mo_toSteps mi_Mo_toSteps ms_Mo_toSteps ml_La_229 (Nat.le_of_ble_eq_true rfl) (Nat.le_of_ble_eq_true rfl) (by decide) (ent_32 K _) rfl rfl rfl (Nat.le_of_ble_eq_true rfl) rfl (by omega) (by omega)) (fun r796 M796 => ?_)
  refine V_istore hX 16 801 [(7, .int r796), (6, .int r784), (0, .ref b), (1, .ref (kA K 0)), (2, .ref (kA K 32)), (3, .ref (kA K 45)), (4, .ref (kA K 46)), (5, .int v5)] rfl rfl (Nat.le_of_ble_eq_true rfl) rfl ?_
  refine V_aload_n hX (j := 4) (hj := rfl) 17 802 rfl rfl ?_
  refine V_callI hX 805 (c9 + 1) (s9 + 6) rfl rfl rfl (by omega) (by omega) (VR_V hX 18 (ct_Mo_thrown (cx_t hX) K M796) my_Mo_thrown mi_Mo_thrown ms_Mo_thrown ml_La_204 (Nat.le_of_ble_eq_true rfl) (Nat.le_of_ble_eq_true rfl) (by decide) (ent_32 K _) rfl rfl rfl (Nat.le_of_ble_eq_true rfl) rfl (by omega) (by omega)) (fun r802 M802 => ?_)
  refine V_iload hX (j := 1) (hj := rfl) 19 807 rfl rfl ?_
  refine V_icmp_eq hX 20 810 812 rfl rfl (by decide) (fun c807 => ?_) (fun c807 => ?_)
  · refine V_iload hX (j := 1) (hj := rfl) 23 814 rfl rfl ?_
    refine V_if_ne hX 24 817 829 rfl rfl (by decide) (fun c814 => ?_) (fun c814 => ?_)
    · refine VV_sub [2, 3, 4, 5, 6, 7] rfl ?_
      exact bt_La_law_829 hX hSc k28 v5 c9 s9 hk28 (by omega) (by omega) M802
    · refine V_aload_n hX (j := 5) (hj := rfl) 25 818 rfl rfl ?_
      refine V_iconst hX (v := 0) (hv := by decide) 26 819 rfl rfl ?_
      refine V_lald hX 27 820 rfl rfl ?_
      refine V_iload hX (j := 0) (hj := rfl) 28 822 rfl rfl ?_
      refine V_i2l hX 29 823 rfl rfl ?_
      refine V_lcmp hX 30 824 rfl rfl ?_
      refine V_if_eq hX 31 827 829 rfl rfl (by decide) (fun c824 => ?_) (fun c824 => ?_)
      · refine VV_sub [2, 3, 4, 5, 6, 7] rfl ?_
        exact bt_La_law_829 hX hSc k28 v5 c9 s9 hk28 (by omega) (by omega) M802
      · refine V_iconst hX (v := 0) (hv := by decide) 32 828 rfl rfl ?_
        exact V_zret hX 33 rfl rfl (by omega) (by omega) rfl
  · refine V_iconst hX (v := 0) (hv := by decide) 21 811 rfl rfl ?_
    exact V_zret hX 22 rfl rfl (by omega) (by omega) rfl
set_option maxRecDepth 20000 in
theorem bt_La_law_909 {l : Launch} {K : KT} {X : XT} (hX : Cx l K 1500 9 603072 7194729 X code "SeriesArchiveLaw" (some .boolean) [] L_La_law_832) {b sl : Nat} {xs : Nat → Int32} (hSc : SC K X b sl xs) (k28 : Int32 → Mm → Rs Int32) (v5 : Int32) (c9 s9 : Nat) (hk28 : ∀ (v5 : Int32) M, VV l K 1500 9 603072 7194729 rvI X (k28 v5 M) (c9 + 85) (s9 + 11934) M 28 [(0, .ref b), (1, .ref (kA K 0)), (2, .ref (kA K 32)), (3, .ref (kA K 45)), (4, .ref (kA K 46)), (5, .int v5)] []) (hc9 : c9 + 85 ≤ 603072) (hs9 : s9 + 11934 ≤ 7194729) (M : Mm) : VV l K 1500 9 603072 7194729 rvI X (fn_La_law_909 xs sl k28 v5 M) (c9 + 1) (s9 + 6) M 909 [(0, .ref b), (1, .ref (kA K 0)), (2, .ref (kA K 32)), (3, .ref (kA K 45)), (4, .ref (kA K 46)), (5, .int v5)] [] := by
  unfold fn_La_law_909
  refine V_goto hX 54 3926 rfl (by decide) ?_
  refine VV_wd (c9 + 85) (s9 + 11934) (by omega) (by omega) ?_
  exact bt_La_law_3926 (cx_L hX dec_La_law_3923) hSc k28 v5 c9 s9 hk28 (by omega) (by omega) M
set_option maxRecDepth 20000 in
theorem bt_La_law_832 {l : Launch} {K : KT} {X : XT} (hX : Cx l K 1500 9 603072 7194729 X code "SeriesArchiveLaw" (some .boolean) [] L_La_law_832) {b sl : Nat} {xs : Nat → Int32} (hSc : SC K X b sl xs) (k28 : Int32 → Mm → Rs Int32) (v5 : Int32) (c9 s9 : Nat) (hk28 : ∀ (v5 : Int32) M, VV l K 1500 9 603072 7194729 rvI X (k28 v5 M) (c9 + 85) (s9 + 11934) M 28 [(0, .ref b), (1, .ref (kA K 0)), (2, .ref (kA K 32)), (3, .ref (kA K 45)), (4, .ref (kA K 46)), (5, .int v5)] []) (hc9 : c9 + 85 ≤ 603072) (hs9 : s9 + 11934 ≤ 7194729) (M : Mm) : VV l K 1500 9 603072 7194729 rvI X (fn_La_law_832 xs sl k28 v5 M) (c9 + 0) (s9 + 0) M 832 [(0, .ref b), (1, .ref (kA K 0)), (2, .ref (kA K 32)), (3, .ref (kA K 45)), (4, .ref (kA K 46)), (5, .int v5)] [] := by
  unfold fn_La_law_832
  refine V_aload_n hX (j := 1) (hj := rfl) 0 833 rfl rfl ?_
  refine V_aload_n hX (j := 0) (hj := rfl) 1 834 rfl rfl ?_
  refine V_iload hX (j := 5) (hj := rfl) 2 836 rfl rfl ?_
  refine V_iconst hX (v := 1) (hv := by decide) 3 837 rfl rfl ?_
  refine V_iadd hX 4 838 rfl rfl ?_
  refine V_sld hX hSc 5 839 rfl rfl (fun g838 => ?_)
  refine V_aload_n hX (j := 0) (hj := rfl) 6 840 rfl rfl ?_
  refine V_iload hX (j := 5) (hj := rfl) 7 842 rfl rfl ?_
  refine V_iconst hX (v := 2) (hv := by decide) 8 843 rfl rfl ?_
  refine V_iadd hX 9 844 rfl rfl ?_
  refine V_sld hX hSc 10 845 rfl rfl (fun g844 => ?_)
  refine V_aload_n hX (j := 0) (hj := rfl) 11 846 rfl rfl ?_
  refine V_iload hX (j := 5) (hj := rfl) 12 848 rfl rfl ?_
  refine V_iconst hX (v := 3) (hv := by decide) 13 849 rfl rfl ?_
  refine V_iadd hX 14 850 rfl rfl ?_
  refine V_sld hX hSc 15 851 rfl rfl (fun g850 => ?_)
  refine V_aload_n hX (j := 3) (hj := rfl) 16 852 rfl rfl ?_
  refine V_callI hX 855 (c9 + 1) (s9 + 6) rfl rfl rfl (by omega) (by omega) (VR_SX hX 17 (ct_La_clip (cx_t hX) K (xs (v5 + 1).toNatClampNeg) (xs (v5 + 2).toNatClampNeg) (xs (v5 + 3).toNatClampNeg) M) myw_La_clip mt_La_clip ml_La_230 (Nat.le_of_ble_eq_true rfl) (Nat.le_of_ble_eq_true rfl) rfl rfl (Nat.le_of_ble_eq_true rfl) rfl (by omega) (by omega)) (fun r852 M852 => ?_)
  refine V_istore hX 18 857 [(6, .int r852), (0, .ref b), (1, .ref (kA K 0)), (2, .ref (kA K 32)), (3, .ref (kA K 45)), (4, .ref (kA K 46)), (5, .int v5)] rfl rfl (Nat.le_of_ble_eq_true rfl) rfl ?_
  refine V_aload_n hX (j := 3) (hj := rfl) 19 858 rfl rfl ?_
  refine V_aload_n hX (j := 1) (hj := rfl) 20 859 rfl rfl ?_
  refine V_iload hX (j := 6) (hj := rfl) 21 861 rfl rfl ?_
  refine V_iconst hX (v := 1) (hv := by decide) 22 862 rfl rfl ?_
  refine V_iadd hX 23 863 rfl rfl ?_
  refine V_sld hX hSc 24 864 rfl rfl (fun g863 => ?_)
  refine V_aload_n hX (j := 1) (hj := rfl) 25 865 rfl rfl ?_
  refine V_iload hX (j := 6) (hj := rfl) 26 867 rfl rfl ?_
  refine V_iconst hX (v := 2) (hv := by decide) 27 868 rfl rfl ?_
  refine V_iadd hX 28 869 rfl rfl ?_
  refine V_sld hX hSc 29 870 rfl rfl (fun g869 => ?_)
  refine V_aload_n hX (j := 1) (hj := rfl) 30 871 rfl rfl ?_
  refine V_iload hX (j := 6) (hj := rfl) 31 873 rfl rfl ?_
  refine V_iconst hX (v := 3) (hv := by decide) 32 874 rfl rfl ?_
  refine V_iadd hX 33 875 rfl rfl ?_
  refine V_sld hX hSc 34 876 rfl rfl (fun g875 => ?_)
  refine V_callI hX 879 (c9 + 1) (s9 + 6) rfl rfl rfl (by omega) (by omega) (VR_V hX 35 (ct_Mo_clip (cx_t hX) K (xs (v5 + 1).toNatClampNeg) (xs (v5 + 2).toNatClampNeg) (xs (v5 + 3).toNatClampNeg) M852) my_Mo_clip mi_Mo_clip ms_Mo_clip ml_La_232 (Nat.le_of_ble_eq_true rfl) (Nat.le_of_ble_eq_true rfl) (by decide) (ent_32 K _) rfl rfl rfl (Nat.le_of_ble_eq_true rfl) rfl (by omega) (by omega)) (fun r876 M876 => ?_)
  refine V_istore hX 36 881 [(7, .int r876), (6, .int r852), (0, .ref b), (1, .ref (kA K 0)), (2, .ref (kA K 32)), (3, .ref (kA K 45)), (4, .ref (kA K 46)), (5, .int v5)] rfl rfl (Nat.le_of_ble_eq_true rfl) rfl ?_
  refine V_aload_n hX (j := 4) (hj := rfl) 37 882 rfl rfl ?_
  refine V_callI hX 885 (c9 + 1) (s9 + 6) rfl rfl rfl (by omega) (by omega) (VR_V hX 38 (ct_Mo_thrown (cx_t hX) K M876) my_Mo_thrown mi_Mo_thrown ms_Mo_thrown ml_La_204 (Nat.le_of_ble_eq_true rfl) (Nat.le_of_ble_eq_true rfl) (by decide) (ent_32 K _) rfl rfl rfl (Nat.le_of_ble_eq_true rfl) rfl (by omega) (by omega)) (fun r882 M882 => ?_)
  refine V_iload hX (j := 1) (hj := rfl) 39 887 rfl rfl ?_
  refine V_icmp_eq hX 40 890 892 rfl rfl (by decide) (fun c887 => ?_) (fun c887 => ?_)
  · refine V_iload hX (j := 1) (hj := rfl) 43 894 rfl rfl ?_
    refine V_if_ne hX 44 897 909 rfl rfl (by decide) (fun c894 => ?_) (fun c894 => ?_)
    · refine VV_sub [2, 3, 4, 5, 6, 7] rfl ?_
      exact bt_La_law_909 hX hSc k28 v5 c9 s9 hk28 (by omega) (by omega) M882
    · refine V_aload_n hX (j := 5) (hj := rfl) 45 898 rfl rfl ?_
      refine V_iconst hX (v := 0) (hv := by decide) 46 899 rfl rfl ?_
      refine V_lald hX 47 900 rfl rfl ?_
      refine V_iload hX (j := 0) (hj := rfl) 48 902 rfl rfl ?_
      refine V_i2l hX 49 903 rfl rfl ?_
      refine V_lcmp hX 50 904 rfl rfl ?_
      refine V_if_eq hX 51 907 909 rfl rfl (by decide) (fun c904 => ?_) (fun c904 => ?_)
      · refine VV_sub [2, 3, 4, 5, 6, 7] rfl ?_
        exact bt_La_law_909 hX hSc k28 v5 c9 s9 hk28 (by omega) (by omega) M882
      · refine V_iconst hX (v := 0) (hv := by decide) 52 908 rfl rfl ?_
        exact V_zret hX 53 rfl rfl (by omega) (by omega) rfl
  · refine V_iconst hX (v := 0) (hv := by decide) 41 891 rfl rfl ?_
    exact V_zret hX 42 rfl rfl (by omega) (by omega) rfl
set_option maxRecDepth 20000 in
theorem bt_La_law_965 {l : Launch} {K : KT} {X : XT} (hX : Cx l K 1500 9 603072 7194729 X code "SeriesArchiveLaw" (some .boolean) [] L_La_law_912) {b sl : Nat} {xs : Nat → Int32} (hSc : SC K X b sl xs) (k28 : Int32 → Mm → Rs Int32) (v5 : Int32) (c9 s9 : Nat) (hk28 : ∀ (v5 : Int32) M, VV l K 1500 9 603072 7194729 rvI X (k28 v5 M) (c9 + 85) (s9 + 11934) M 28 [(0, .ref b), (1, .ref (kA K 0)), (2, .ref (kA K 32)), (3, .ref (kA K 45)), (4, .ref (kA K 46)), (5, .int v5)] []) (hc9 : c9 + 85 ≤ 603072) (hs9 : s9 + 11934 ≤ 7194729) (M : Mm) : VV l K 1500 9 603072 7194729 rvI X (fn_La_law_965 xs sl k28 v5 M) (c9 + 1) (s9 + 6) M 965 [(0, .ref b), (1, .ref (kA K 0)), (2, .ref (kA K 32)), (3, .ref (kA K 45)), (4, .ref (kA K 46)), (5, .int v5)] [] := by
  unfold fn_La_law_965
  refine V_goto hX 34 3926 rfl (by decide) ?_
  refine VV_wd (c9 + 85) (s9 + 11934) (by omega) (by omega) ?_
  exact bt_La_law_3926 (cx_L hX dec_La_law_3923) hSc k28 v5 c9 s9 hk28 (by omega) (by omega) M
set_option maxRecDepth 20000 in
theorem bt_La_law_912 {l : Launch} {K : KT} {X : XT} (hX : Cx l K 1500 9 603072 7194729 X code "SeriesArchiveLaw" (some .boolean) [] L_La_law_912) {b sl : Nat} {xs : Nat → Int32} (hSc : SC K X b sl xs) (k28 : Int32 → Mm → Rs Int32) (v5 : Int32) (c9 s9 : Nat) (hk28 : ∀ (v5 : Int32) M, VV l K 1500 9 603072 7194729 rvI X (k28 v5 M) (c9 + 85) (s9 + 11934) M 28 [(0, .ref b), (1, .ref (kA K 0)), (2, .ref (kA K 32)), (3, .ref (kA K 45)), (4, .ref (kA K 46)), (5, .int v5)] []) (hc9 : c9 + 85 ≤ 603072) (hs9 : s9 + 11934 ≤ 7194729) (M : Mm) : VV l K 1500 9 603072 7194729 rvI X (fn_La_law_912 xs sl k28 v5 M) (c9 + 0) (s9 + 0) M 912 [(0, .ref b), (1, .ref (kA K 0)), (2, .ref (kA K 32)), (3, .ref (kA K 45)), (4, .ref (kA K 46)), (5, .int v5)] [] := by
  unfold fn_La_law_912
  refine V_aload_n hX (j := 1) (hj := rfl) 0 913 rfl rfl ?_
  refine V_aload_n hX (j := 0) (hj := rfl) 1 914 rfl rfl ?_
  refine V_iload hX (j := 5) (hj := rfl) 2 916 rfl rfl ?_
  refine V_iconst hX (v := 1) (hv := by decide) 3 917 rfl rfl ?_
  refine V_iadd hX 4 918 rfl rfl ?_
  refine V_sld hX hSc 5 919 rfl rfl (fun g918 => ?_)
  refine V_aload_n hX (j := 3) (hj := rfl) 6 920 rfl rfl ?_
  refine V_callI hX 923 (c9 + 1) (s9 + 6) rfl rfl rfl (by omega) (by omega) (VR_SX hX 7 (ct_La_length (cx_t hX) K (xs (v5 + 1).toNatClampNeg) M) myw_La_length mt_La_length ml_La_233 (Nat.le_of_ble_eq_true rfl) (Nat.le_of_ble_eq_true rfl) rfl rfl (Nat.le_of_ble_eq_true rfl) rfl (by omega) (by omega)) (fun r920 M920 => ?_)
  refine V_istore hX 8 925 [(6, .int r920), (0, .ref b), (1, .ref (kA K 0)), (2, .ref (kA K 32)), (3, .ref (kA K 45)), (4, .ref (kA K 46)), (5, .int v5)] rfl rfl (Nat.le_of_ble_eq_true rfl) rfl ?_
  refine V_aload_n hX (j := 3) (hj := rfl) 9 926 rfl rfl ?_
  refine V_aload_n hX (j := 1) (hj := rfl) 10 927 rfl rfl ?_
  refine V_iload hX (j := 6) (hj := rfl) 11 929 rfl rfl ?_
  refine V_iconst hX (v := 1) (hv := by decide) 12 930 rfl rfl ?_
  refine V_iadd hX 13 931 rfl rfl ?_
  refine V_sld hX hSc 14 932 rfl rfl (fun g931 => ?_)
  refine V_callI hX 935 (c9 + 1) (s9 + 6) rfl rfl rfl (by omega) (by omega) (VR_V hX 15 (ct_Mo_length (cx_t hX) K (xs (v5 + 1).toNatClampNeg) M920) my_Mo_length mi_Mo_length ms_Mo_length ml_La_235 (Nat.le_of_ble_eq_true rfl) (Nat.le_of_ble_eq_true rfl) (by decide) (ent_32 K _) rfl rfl rfl (Nat.le_of_ble_eq_true rfl) rfl (by omega) (by omega)) (fun r932 M932 => ?_)
  refine V_istore hX 16 937 [(7, .int r932), (6, .int r920), (0, .ref b), (1, .ref (kA K 0)), (2, .ref (kA K 32)), (3, .ref (kA K 45)), (4, .ref (kA K 46)), (5, .int v5)] rfl rfl (Nat.le_of_ble_eq_true rfl) rfl ?_
  refine V_aload_n hX (j := 4) (hj := rfl) 17 938 rfl rfl ?_
  refine V_callI hX 941 (c9 + 1) (s9 + 6) rfl rfl rfl (by omega) (by omega) (VR_V hX 18 (ct_Mo_thrown (cx_t hX) K M932) my_Mo_thrown mi_Mo_thrown ms_Mo_thrown ml_La_204 (Nat.le_of_ble_eq_true rfl) (Nat.le_of_ble_eq_true rfl) (by decide) (ent_32 K _) rfl rfl rfl (Nat.le_of_ble_eq_true rfl) rfl (by omega) (by omega)) (fun r938 M938 => ?_)
  refine V_iload hX (j := 1) (hj := rfl) 19 943 rfl rfl ?_
  refine V_icmp_eq hX 20 946 948 rfl rfl (by decide) (fun c943 => ?_) (fun c943 => ?_)
  · refine V_iload hX (j := 1) (hj := rfl) 23 950 rfl rfl ?_
    refine V_if_ne hX 24 953 965 rfl rfl (by decide) (fun c950 => ?_) (fun c950 => ?_)
    · refine VV_sub [2, 3, 4, 5, 6, 7] rfl ?_
      exact bt_La_law_965 hX hSc k28 v5 c9 s9 hk28 (by omega) (by omega) M938
    · refine V_aload_n hX (j := 5) (hj := rfl) 25 954 rfl rfl ?_
      refine V_iconst hX (v := 0) (hv := by decide) 26 955 rfl rfl ?_
      refine V_lald hX 27 956 rfl rfl ?_
      refine V_iload hX (j := 0) (hj := rfl) 28 958 rfl rfl ?_
      refine V_i2l hX 29 959 rfl rfl ?_
      refine V_lcmp hX 30 960 rfl rfl ?_
      refine V_if_eq hX 31 963 965 rfl rfl (by decide) (fun c960 => ?_) (fun c960 => ?_)
      · refine VV_sub [2, 3, 4, 5, 6, 7] rfl ?_
        exact bt_La_law_965 hX hSc k28 v5 c9 s9 hk28 (by omega) (by omega) M938
      · refine V_iconst hX (v := 0) (hv := by decide) 32 964 rfl rfl ?_
        exact V_zret hX 33 rfl rfl (by omega) (by omega) rfl
  · refine V_iconst hX (v := 0) (hv := by decide) 21 947 rfl rfl ?_
    exact V_zret hX 22 rfl rfl (by omega) (by omega) rfl
set_option maxRecDepth 20000 in
theorem bt_La_law_1033 {l : Launch} {K : KT} {X : XT} (hX : Cx l K 1500 9 603072 7194729 X code "SeriesArchiveLaw" (some .boolean) [] L_La_law_968) {b sl : Nat} {xs : Nat → Int32} (hSc : SC K X b sl xs) (k28 : Int32 → Mm → Rs Int32) (v5 : Int32) (c9 s9 : Nat) (hk28 : ∀ (v5 : Int32) M, VV l K 1500 9 603072 7194729 rvI X (k28 v5 M) (c9 + 85) (s9 + 11934) M 28 [(0, .ref b), (1, .ref (kA K 0)), (2, .ref (kA K 32)), (3, .ref (kA K 45)), (4, .ref (kA K 46)), (5, .int v5)] []) (hc9 : c9 + 85 ≤ 603072) (hs9 : s9 + 11934 ≤ 7194729) (M : Mm) : VV l K 1500 9 603072 7194729 rvI X (fn_La_law_1033 xs sl k28 v5 M) (c9 + 2) (s9 + 12) M 1033 [(0, .ref b), (1, .ref (kA K 0)), (2, .ref (kA K 32)), (3, .ref (kA K 45)), (4, .ref (kA K 46)), (5, .int v5)] [] := by
  unfold fn_La_law_1033
  refine V_goto hX 44 3926 rfl (by decide) ?_
  refine VV_wd (c9 + 85) (s9 + 11934) (by omega) (by omega) ?_
  exact bt_La_law_3926 (cx_L hX dec_La_law_3923) hSc k28 v5 c9 s9 hk28 (by omega) (by omega) M
set_option maxRecDepth 20000 in
theorem bt_La_law_968 {l : Launch} {K : KT} {X : XT} (hX : Cx l K 1500 9 603072 7194729 X code "SeriesArchiveLaw" (some .boolean) [] L_La_law_968) {b sl : Nat} {xs : Nat → Int32} (hSc : SC K X b sl xs) (k28 : Int32 → Mm → Rs Int32) (v5 : Int32) (c9 s9 : Nat) (hk28 : ∀ (v5 : Int32) M, VV l K 1500 9 603072 7194729 rvI X (k28 v5 M) (c9 + 85) (s9 + 11934) M 28 [(0, .ref b), (1, .ref (kA K 0)), (2, .ref (kA K 32)), (3, .ref (kA K 45)), (4, .ref (kA K 46)), (5, .int v5)] []) (hc9 : c9 + 85 ≤ 603072) (hs9 : s9 + 11934 ≤ 7194729) (M : Mm) : VV l K 1500 9 603072 7194729 rvI X (fn_La_law_968 xs sl k28 v5 M) (c9 + 0) (s9 + 0) M 968 [(0, .ref b), (1, .ref (kA K 0)), (2, .ref (kA K 32)), (3, .ref (kA K 45)), (4, .ref (kA K 46)), (5, .int v5)] [] := by
  unfold fn_La_law_968
  refine V_aload_n hX (j := 1) (hj := rfl) 0 969 rfl rfl ?_
  refine V_aload_n hX (j := 0) (hj := rfl) 1 970 rfl rfl ?_
  refine V_iload hX (j := 5) (hj := rfl) 2 972 rfl rfl ?_
  refine V_iconst hX (v := 1) (hv := by decide) 3 973 rfl rfl ?_
  refine V_iadd hX 4 974 rfl rfl ?_
  refine V_sld hX hSc 5 975 rfl rfl (fun g974 => ?_)
  refine V_aload_n hX (j := 0) (hj := rfl) 6 976 rfl rfl ?_
  refine V_iload hX (j := 5) (hj := rfl) 7 978 rfl rfl ?_
  refine V_iconst hX (v := 2) (hv := by decide) 8 979 rfl rfl ?_
  refine V_iadd hX 9 980 rfl rfl ?_
  refine V_sld hX hSc 10 981 rfl rfl (fun g980 => ?_)
  refine V_aload_n hX (j := 3) (hj := rfl) 11 982 rfl rfl ?_
  refine V_callI hX 985 (c9 + 2) (s9 + 12) rfl rfl rfl (by omega) (by omega) (VR_SX hX 12 (ct_La_value (cx_t hX) K (xs (v5 + 1).toNatClampNeg) (xs (v5 + 2).toNatClampNeg) M) myw_La_value mt_La_value ml_La_236 (Nat.le_of_ble_eq_true rfl) (Nat.le_of_ble_eq_true rfl) rfl rfl (Nat.le_of_ble_eq_true rfl) rfl (by omega) (by omega)) (fun r982 M982 => ?_)
  refine V_istore hX 13 987 [(6, .int r982), (0, .ref b), (1, .ref (kA K 0)), (2, .ref (kA K 32)), (3, .ref (kA K 45)), (4, .ref (kA K 46)), (5, .int v5)] rfl rfl (Nat.le_of_ble_eq_true rfl) rfl ?_
  refine V_aload_n hX (j := 3) (hj := rfl) 14 988 rfl rfl ?_
  refine V_aload_n hX (j := 1) (hj := rfl) 15 989 rfl rfl ?_
  refine V_iload hX (j := 6) (hj := rfl) 16 991 rfl rfl ?_
  refine V_iconst hX (v := 1) (hv := by decide) 17 992 rfl rfl ?_
  refine V_iadd hX 18 993 rfl rfl ?_
  refine V_sld hX hSc 19 994 rfl rfl (fun g993 => ?_)
  refine V_aload_n hX (j := 1) (hj := rfl) 20 995 rfl rfl ?_
  refine V_iload hX (j := 6) (hj := rfl) 21 997 rfl rfl ?_
  refine V_iconst hX (v := 2) (hv := by decide) 22 998 rfl rfl ?_
  refine V_iadd hX 23 999 rfl rfl ?_
  refine V_sld hX hSc 24 1000 rfl rfl (fun g999 => ?_)
  refine V_callI hX 1003 (c9 + 2) (s9 + 12) rfl rfl rfl (by omega) (by omega) (VR_V hX 25 (ct_Mo_value (cx_t hX) K (xs (v5 + 1).toNatClampNeg) (xs (v5 + 2).toNatClampNeg) M982) my_Mo_value mi_Mo_value ms_Mo_value ml_La_238 (Nat.le_of_ble_eq_true rfl) (Nat.le_of_ble_eq_true rfl) (by decide) (ent_32 K _) rfl rfl rfl (Nat.le_of_ble_eq_true rfl) rfl (by omega) (by omega)) (fun r1000 M1000 => ?_)
  refine V_istore hX 26 1005 [(7, .int r1000), (6, .int r982), (0, .ref b), (1, .ref (kA K 0)), (2, .ref (kA K 32)), (3, .ref (kA K 45)), (4, .ref (kA K 46)), (5, .int v5)] rfl rfl (Nat.le_of_ble_eq_true rfl) rfl ?_
  refine V_aload_n hX (j := 4) (hj := rfl) 27 1006 rfl rfl ?_
  refine V_callI hX 1009 (c9 + 2) (s9 + 12) rfl rfl rfl (by omega) (by omega) (VR_V hX 28 (ct_Mo_thrown (cx_t hX) K M1000) my_Mo_thrown mi_Mo_thrown ms_Mo_thrown ml_La_204 (Nat.le_of_ble_eq_true rfl) (Nat.le_of_ble_eq_true rfl) (by decide) (ent_32 K _) rfl rfl rfl (Nat.le_of_ble_eq_true rfl) rfl (by omega) (by omega)) (fun r1006 M1006 => ?_)
  refine V_iload hX (j := 1) (hj := rfl) 29 1011 rfl rfl ?_
  refine V_icmp_eq hX 30 1014 1016 rfl rfl (by decide) (fun c1011 => ?_) (fun c1011 => ?_)
  · refine V_iload hX (j := 1) (hj := rfl) 33 1018 rfl rfl ?_
    refine V_if_ne hX 34 1021 1033 rfl rfl (by decide) (fun c1018 => ?_) (fun c1018 => ?_)
    · refine VV_sub [2, 3, 4, 5, 6, 7] rfl ?_
      exact bt_La_law_1033 hX hSc k28 v5 c9 s9 hk28 (by omega) (by omega) M1006
    · refine V_aload_n hX (j := 5) (hj := rfl) 35 1022 rfl rfl ?_
      refine V_iconst hX (v := 0) (hv := by decide) 36 1023 rfl rfl ?_
      refine V_lald hX 37 1024 rfl rfl ?_
      refine V_iload hX (j := 0) (hj := rfl) 38 1026 rfl rfl ?_
      refine V_i2l hX 39 1027 rfl rfl ?_
      refine V_lcmp hX 40 1028 rfl rfl ?_
      refine V_if_eq hX 41 1031 1033 rfl rfl (by decide) (fun c1028 => ?_) (fun c1028 => ?_)
      · refine VV_sub [2, 3, 4, 5, 6, 7] rfl ?_
        exact bt_La_law_1033 hX hSc k28 v5 c9 s9 hk28 (by omega) (by omega) M1006
      · refine V_iconst hX (v := 0) (hv := by decide) 42 1032 rfl rfl ?_
        exact V_zret hX 43 rfl rfl (by omega) (by omega) rfl
  · refine V_iconst hX (v := 0) (hv := by decide) 31 1015 rfl rfl ?_
    exact V_zret hX 32 rfl rfl (by omega) (by omega) rfl
set_option maxRecDepth 20000 in
theorem bt_La_law_1113 {l : Launch} {K : KT} {X : XT} (hX : Cx l K 1500 9 603072 7194729 X code "SeriesArchiveLaw" (some .boolean) [] L_La_law_1036) {b sl : Nat} {xs : Nat → Int32} (hSc : SC K X b sl xs) (k28 : Int32 → Mm → Rs Int32) (v5 : Int32) (c9 s9 : Nat) (hk28 : ∀ (v5 : Int32) M, VV l K 1500 9 603072 7194729 rvI X (k28 v5 M) (c9 + 85) (s9 + 11934) M 28 [(0, .ref b), (1, .ref (kA K 0)), (2, .ref (kA K 32)), (3, .ref (kA K 45)), (4, .ref (kA K 46)), (5, .int v5)] []) (hc9 : c9 + 85 ≤ 603072) (hs9 : s9 + 11934 ≤ 7194729) (M : Mm) : VV l K 1500 9 603072 7194729 rvI X (fn_La_law_1113 xs sl k28 v5 M) (c9 + 2) (s9 + 12) M 1113 [(0, .ref b), (1, .ref (kA K 0)), (2, .ref (kA K 32)), (3, .ref (kA K 45)), (4, .ref (kA K 46)), (5, .int v5)] [] := by
  unfold fn_La_law_1113
  refine V_goto hX 54 3926 rfl (by decide) ?_
  refine VV_wd (c9 + 85) (s9 + 11934) (by omega) (by omega) ?_
  exact bt_La_law_3926 (cx_L hX dec_La_law_3923) hSc k28 v5 c9 s9 hk28 (by omega) (by omega) M
set_option maxRecDepth 20000 in
theorem bt_La_law_1036 {l : Launch} {K : KT} {X : XT} (hX : Cx l K 1500 9 603072 7194729 X code "SeriesArchiveLaw" (some .boolean) [] L_La_law_1036) {b sl : Nat} {xs : Nat → Int32} (hSc : SC K X b sl xs) (k28 : Int32 → Mm → Rs Int32) (v5 : Int32) (c9 s9 : Nat) (hk28 : ∀ (v5 : Int32) M, VV l K 1500 9 603072 7194729 rvI X (k28 v5 M) (c9 + 85) (s9 + 11934) M 28 [(0, .ref b), (1, .ref (kA K 0)), (2, .ref (kA K 32)), (3, .ref (kA K 45)), (4, .ref (kA K 46)), (5, .int v5)] []) (hc9 : c9 + 85 ≤ 603072) (hs9 : s9 + 11934 ≤ 7194729) (M : Mm) : VV l K 1500 9 603072 7194729 rvI X (fn_La_law_1036 xs sl k28 v5 M) (c9 + 0) (s9 + 0) M 1036 [(0, .ref b), (1, .ref (kA K 0)), (2, .ref (kA K 32)), (3, .ref (kA K 45)), (4, .ref (kA K 46)), (5, .int v5)] [] := by
  unfold fn_La_law_1036
  refine V_aload_n hX (j := 1) (hj := rfl) 0 1037 rfl rfl ?_
  refine V_aload_n hX (j := 0) (hj := rfl) 1 1038 rfl rfl ?_
  refine V_iload hX (j := 5) (hj := rfl) 2 1040 rfl rfl ?_
  refine V_iconst hX (v := 1) (hv := by decide) 3 1041 rfl rfl ?_
  refine V_iadd hX 4 1042 rfl rfl ?_
  refine V_sld hX hSc 5 1043 rfl rfl (fun g1042 => ?_)
  refine V_aload_n hX (j := 0) (hj := rfl) 6 1044 rfl rfl ?_
  refine V_iload hX (j := 5) (hj := rfl) 7 1046 rfl rfl ?_
  refine V_iconst hX (v := 2) (hv := by decide) 8 1047 rfl rfl ?_
  refine V_iadd hX 9 1048 rfl rfl ?_
  refine V_sld hX hSc 10 1049 rfl rfl (fun g1048 => ?_)
  refine V_aload_n hX (j := 0) (hj := rfl) 11 1050 rfl rfl ?_
  refine V_iload hX (j := 5) (hj := rfl) 12 1052 rfl rfl ?_
  refine V_iconst hX (v := 3) (hv := by decide) 13 1053 rfl rfl ?_
  refine V_iadd hX 14 1054 rfl rfl ?_
  refine V_sld hX hSc 15 1055 rfl rfl (fun g1054 => ?_)
  refine V_aload_n hX (j := 3) (hj := rfl) 16 1056 rfl rfl ?_
  refine V_callI hX 1059 (c9 + 2) (s9 + 12) rfl rfl rfl (by omega) (by omega) (VR_SX hX 17 (ct_La_sum (cx_t hX) K (xs (v5 + 1).toNatClampNeg) (xs (v5 + 2).toNatClampNeg) (xs (v5 + 3).toNatClampNeg) M) myw_La_sum mt_La_sum ml_La_239 (Nat.le_of_ble_eq_true rfl) (Nat.le_of_ble_eq_true rfl) rfl rfl (Nat.le_of_ble_eq_true rfl) rfl (by omega) (by omega)) (fun r1056 M1056 => ?_)
  refine V_istore hX 18 1061 [(6, .int r1056), (0, .ref b), (1, .ref (kA K 0)), (2, .ref (kA K 32)), (3, .ref (kA K 45)), (4, .ref (kA K 46)), (5, .int v5)] rfl rfl (Nat.le_of_ble_eq_true rfl) rfl ?_
  refine V_aload_n hX (j := 3) (hj := rfl) 19 1062 rfl rfl ?_
  refine V_aload_n hX (j := 1) (hj := rfl) 20 1063 rfl rfl ?_
  refine V_iload hX (j := 6) (hj := rfl) 21 1065 rfl rfl ?_
  refine V_iconst hX (v := 1) (hv := by decide) 22 1066 rfl rfl ?_
  refine V_iadd hX 23 1067 rfl rfl ?_
  refine V_sld hX hSc 24 1068 rfl rfl (fun g1067 => ?_)
  refine V_aload_n hX (j := 1) (hj := rfl) 25 1069 rfl rfl ?_
  refine V_iload hX (j := 6) (hj := rfl) 26 1071 rfl rfl ?_
  refine V_iconst hX (v := 2) (hv := by decide) 27 1072 rfl rfl ?_
  refine V_iadd hX 28 1073 rfl rfl ?_
  refine V_sld hX hSc 29 1074 rfl rfl (fun g1073 => ?_)
  refine V_aload_n hX (j := 1) (hj := rfl) 30 1075 rfl rfl ?_
  refine V_iload hX (j := 6) (hj := rfl) 31 1077 rfl rfl ?_
  refine V_iconst hX (v := 3) (hv := by decide) 32 1078 rfl rfl ?_
  refine V_iadd hX 33 1079 rfl rfl ?_
  refine V_sld hX hSc 34 1080 rfl rfl (fun g1079 => ?_)
  refine V_callI hX 1083 (c9 + 2) (s9 + 12) rfl rfl rfl (by omega) (by omega) (VR_V hX 35 (ct_Mo_sum (cx_t hX) K (xs (v5 + 1).toNatClampNeg) (xs (v5 + 2).toNatClampNeg) (xs (v5 + 3).toNatClampNeg) M1056) my_Mo_sum mi_Mo_sum ms_Mo_sum ml_La_241 (Nat.le_of_ble_eq_true rfl) (Nat.le_of_ble_eq_true rfl) (by decide) (ent_32 K _) rfl rfl rfl (Nat.le_of_ble_eq_true rfl) rfl (by omega) (by omega)) (fun r1080 M1080 => ?_)
  refine V_istore hX 36 1085 [(7, .int r1080), (6, .int r1056), (0, .ref b), (1, .ref (kA K 0)), (2, .ref (kA K 32)), (3, .ref (kA K 45)), (4, .ref (kA K 46)), (5, .int v5)] rfl rfl (Nat.le_of_ble_eq_true rfl) rfl ?_
  refine V_aload_n hX (j := 4) (hj := rfl) 37 1086 rfl rfl ?_
  refine V_callI hX 1089 (c9 + 2) (s9 + 12) rfl rfl rfl (by omega) (by omega) (VR_V hX 38 (ct_Mo_thrown (cx_t hX) K M1080) my_Mo_thrown mi_Mo_thrown ms_Mo_thrown ml_La_204 (Nat.le_of_ble_eq_true rfl) (Nat.le_of_ble_eq_true rfl) (by decide) (ent_32 K _) rfl rfl rfl (Nat.le_of_ble_eq_true rfl) rfl (by omega) (by omega)) (fun r1086 M1086 => ?_)
  refine V_iload hX (j := 1) (hj := rfl) 39 1091 rfl rfl ?_
  refine V_icmp_eq hX 40 1094 1096 rfl rfl (by decide) (fun c1091 => ?_) (fun c1091 => ?_)
  · refine V_iload hX (j := 1) (hj := rfl) 43 1098 rfl rfl ?_
    refine V_if_ne hX 44 1101 1113 rfl rfl (by decide) (fun c1098 => ?_) (fun c1098 => ?_)
    · refine VV_sub [2, 3, 4, 5, 6, 7] rfl ?_
      exact bt_La_law_1113 hX hSc k28 v5 c9 s9 hk28 (by omega) (by omega) M1086
    · refine V_aload_n hX (j := 5) (hj := rfl) 45 1102 rfl rfl ?_
      refine V_iconst hX (v := 0) (hv := by decide) 46 1103 rfl rfl ?_
      refine V_lald hX 47 1104 rfl rfl ?_
      refine V_iload hX (j := 0) (hj := rfl) 48 1106 rfl rfl ?_
      refine V_i2l hX 49 1107 rfl rfl ?_
      refine V_lcmp hX 50 1108 rfl rfl ?_
      refine V_if_eq hX 51 1111 1113 rfl rfl (by decide) (fun c1108 => ?_) (fun c1108 => ?_)
      · refine VV_sub [2, 3, 4, 5, 6, 7] rfl ?_
        exact bt_La_law_1113 hX hSc k28 v5 c9 s9 hk28 (by omega) (by omega) M1086
      · refine V_iconst hX (v := 0) (hv := by decide) 52 1112 rfl rfl ?_
        exact V_zret hX 53 rfl rfl (by omega) (by omega) rfl
  · refine V_iconst hX (v := 0) (hv := by decide) 41 1095 rfl rfl ?_
    exact V_zret hX 42 rfl rfl (by omega) (by omega) rfl
set_option maxRecDepth 20000 in
theorem bt_La_law_1193 {l : Launch} {K : KT} {X : XT} (hX : Cx l K 1500 9 603072 7194729 X code "SeriesArchiveLaw" (some .boolean) [] L_La_law_1116) {b sl : Nat} {xs : Nat → Int32} (hSc : SC K X b sl xs) (k28 : Int32 → Mm → Rs Int32) (v5 : Int32) (c9 s9 : Nat) (hk28 : ∀ (v5 : Int32) M, VV l K 1500 9 603072 7194729 rvI X (k28 v5 M) (c9 + 85) (s9 + 11934) M 28 [(0, .ref b), (1, .ref (kA K 0)), (2, .ref (kA K 32)), (3, .ref (kA K 45)), (4, .ref (kA K 46)), (5, .int v5)] []) (hc9 : c9 + 85 ≤ 603072) (hs9 : s9 + 11934 ≤ 7194729) (M : Mm) : VV l K 1500 9 603072 7194729 rvI X (fn_La_law_1193 xs sl k28 v5 M) (c9 + 2) (s9 + 12) M 1193 [(0, .ref b), (1, .ref (kA K 0)), (2, .ref (kA K 32)), (3, .ref (kA K 45)), (4, .ref (kA K 46)), (5, .int v5)] [] := by
  unfold fn_La_law_1193
  refine V_goto hX 54 3926 rfl (by decide) ?_
  refine VV_wd (c9 + 85) (s9 + 11934) (by omega) (by omega) ?_
  exact bt_La_law_3926 (cx_L hX dec_La_law_3923) hSc k28 v5 c9 s9 hk28 (by omega) (by omega) M
set_option maxRecDepth 20000 in
theorem bt_La_law_1116 {l : Launch} {K : KT} {X : XT} (hX : Cx l K 1500 9 603072 7194729 X code "SeriesArchiveLaw" (some .boolean) [] L_La_law_1116) {b sl : Nat} {xs : Nat → Int32} (hSc : SC K X b sl xs) (k28 : Int32 → Mm → Rs Int32) (v5 : Int32) (c9 s9 : Nat) (hk28 : ∀ (v5 : Int32) M, VV l K 1500 9 603072 7194729 rvI X (k28 v5 M) (c9 + 85) (s9 + 11934) M 28 [(0, .ref b), (1, .ref (kA K 0)), (2, .ref (kA K 32)), (3, .ref (kA K 45)), (4, .ref (kA K 46)), (5, .int v5)] []) (hc9 : c9 + 85 ≤ 603072) (hs9 : s9 + 11934 ≤ 7194729) (M : Mm) : VV l K 1500 9 603072 7194729 rvI X (fn_La_law_1116 xs sl k28 v5 M) (c9 + 0) (s9 + 0) M 1116 [(0, .ref b), (1, .ref (kA K 0)), (2, .ref (kA K 32)), (3, .ref (kA K 45)), (4, .ref (kA K 46)), (5, .int v5)] [] := by
  unfold fn_La_law_1116
  refine V_aload_n hX (j := 1) (hj := rfl) 0 1117 rfl rfl ?_
  refine V_aload_n hX (j := 0) (hj := rfl) 1 1118 rfl rfl ?_
  refine V_iload hX (j := 5) (hj := rfl) 2 1120 rfl rfl ?_
  refine V_iconst hX (v := 1) (hv := by decide) 3 1121 rfl rfl ?_
  refine V_iadd hX 4 1122 rfl rfl ?_
  refine V_sld hX hSc 5 1123 rfl rfl (fun g1122 => ?_)
  refine V_aload_n hX (j := 0) (hj := rfl) 6 1124 rfl rfl ?_
  refine V_iload hX (j := 5) (hj := rfl) 7 1126 rfl rfl ?_
  refine V_iconst hX (v := 2) (hv := by decide) 8 1127 rfl rfl ?_
  refine V_iadd hX 9 1128 rfl rfl ?_
  refine V_sld hX hSc 10 1129 rfl rfl (fun g1128 => ?_)
  refine V_aload_n hX (j := 0) (hj := rfl) 11 1130 rfl rfl ?_
  refine V_iload hX (j := 5) (hj := rfl) 12 1132 rfl rfl ?_
  refine V_iconst hX (v := 3) (hv := by decide) 13 1133 rfl rfl ?_
  refine V_iadd hX 14 1134 rfl rfl ?_
  refine V_sld hX hSc 15 1135 rfl rfl (fun g1134 => ?_)
  refine V_aload_n hX (j := 3) (hj := rfl) 16 1136 rfl rfl ?_
  refine V_callI hX 1139 (c9 + 2) (s9 + 12) rfl rfl rfl (by omega) (by omega) (VR_SX hX 17 (ct_La_sumByTree (cx_t hX) K (xs (v5 + 1).toNatClampNeg) (xs (v5 + 2).toNatClampNeg) (xs (v5 + 3).toNatClampNeg) M) myw_La_sumByTree mt_La_sumByTree ml_La_242 (Nat.le_of_ble_eq_true rfl) (Nat.le_of_ble_eq_true rfl) rfl rfl (Nat.le_of_ble_eq_true rfl) rfl (by omega) (by omega)) (fun r1136 M1136 => ?_)
  refine V_istore hX 18 1141 [(6, .int r1136), (0, .ref b), (1, .ref (kA K 0)), (2, .ref (kA K 32)), (3, .ref (kA K 45)), (4, .ref (kA K 46)), (5, .int v5)] rfl rfl (Nat.le_of_ble_eq_true rfl) rfl ?_
  refine V_aload_n hX (j := 3) (hj := rfl) 19 1142 rfl rfl ?_
  refine V_aload_n hX (j := 1) (hj := rfl) 20 1143 rfl rfl ?_
  refine V_iload hX (j := 6) (hj := rfl) 21 1145 rfl rfl ?_
  refine V_iconst hX (v := 1) (hv := by decide) 22 1146 rfl rfl ?_
  refine V_iadd hX 23 1147 rfl rfl ?_
  refine V_sld hX hSc 24 1148 rfl rfl (fun g1147 => ?_)
  refine V_aload_n hX (j := 1) (hj := rfl) 25 1149 rfl rfl ?_
  refine V_iload hX (j := 6) (hj := rfl) 26 1151 rfl rfl ?_
  refine V_iconst hX (v := 2) (hv := by decide) 27 1152 rfl rfl ?_
  refine V_iadd hX 28 1153 rfl rfl ?_
  refine V_sld hX hSc 29 1154 rfl rfl (fun g1153 => ?_)
  refine V_aload_n hX (j := 1) (hj := rfl) 30 1155 rfl rfl ?_
  refine V_iload hX (j := 6) (hj := rfl) 31 1157 rfl rfl ?_
  refine V_iconst hX (v := 3) (hv := by decide) 32 1158 rfl rfl ?_
  refine V_iadd hX 33 1159 rfl rfl ?_
  refine V_sld hX hSc 34 1160 rfl rfl (fun g1159 => ?_)
  refine V_callI hX 1163 (c9 + 2) (s9 + 12) rfl rfl rfl (by omega) (by omega) (VR_V hX 35 (ct_Mo_sumByTree (cx_t hX) K (xs (v5 + 1).toNatClampNeg) (xs (v5 + 2).toNatClampNeg) (xs (v5 + 3).toNatClampNeg) M1136) my_Mo_sumByTree mi_Mo_sumByTree ms_Mo_sumByTree ml_La_244 (Nat.le_of_ble_eq_true rfl) (Nat.le_of_ble_eq_true rfl) (by decide) (ent_32 K _) rfl rfl rfl (Nat.le_of_ble_eq_true rfl) rfl (by omega) (by omega)) (fun r1160 M1160 => ?_)
  refine V_istore hX 36 1165 [(7, .int r1160), (6, .int r1136), (0, .ref b), (1, .ref (kA K 0)), (2, .ref (kA K 32)), (3, .ref (kA K 45)), (4, .ref (kA K 46)), (5, .int v5)] rfl rfl (Nat.le_of_ble_eq_true rfl) rfl ?_
  refine V_aload_n hX (j := 4) (hj := rfl) 37 1166 rfl rfl ?_
  refine V_callI hX 1169 (c9 + 2) (s9 + 12) rfl rfl rfl (by omega) (by omega) (VR_V hX 38 (ct_Mo_thrown (cx_t hX) K M1160) my_Mo_thrown mi_Mo_thrown ms_Mo_thrown ml_La_204 (Nat.le_of_ble_eq_true rfl) (Nat.le_of_ble_eq_true rfl) (by decide) (ent_32 K _) rfl rfl rfl (Nat.le_of_ble_eq_true rfl) rfl (by omega) (by omega)) (fun r1166 M1166 => ?_)
  refine V_iload hX (j := 1) (hj := rfl) 39 1171 rfl rfl ?_
  refine V_icmp_eq hX 40 1174 1176 rfl rfl (by decide) (fun c1171 => ?_) (fun c1171 => ?_)
  · refine V_iload hX (j := 1) (hj := rfl) 43 1178 rfl rfl ?_
    refine V_if_ne hX 44 1181 1193 rfl rfl (by decide) (fun c1178 => ?_) (fun c1178 => ?_)
    · refine VV_sub [2, 3, 4, 5, 6, 7] rfl ?_
      exact bt_La_law_1193 hX hSc k28 v5 c9 s9 hk28 (by omega) (by omega) M1166
    · refine V_aload_n hX (j := 5) (hj := rfl) 45 1182 rfl rfl ?_
      refine V_iconst hX (v := 0) (hv := by decide) 46 1183 rfl rfl ?_
      refine V_lald hX 47 1184 rfl rfl ?_
      refine V_iload hX (j := 0) (hj := rfl) 48 1186 rfl rfl ?_
      refine V_i2l hX 49 1187 rfl rfl ?_
      refine V_lcmp hX 50 1188 rfl rfl ?_
      refine V_if_eq hX 51 1191 1193 rfl rfl (by decide) (fun c1188 => ?_) (fun c1188 => ?_)
      · refine VV_sub [2, 3, 4, 5, 6, 7] rfl ?_
        exact bt_La_law_1193 hX hSc k28 v5 c9 s9 hk28 (by omega) (by omega) M1166
      · refine V_iconst hX (v := 0) (hv := by decide) 52 1192 rfl rfl ?_
        exact V_zret hX 53 rfl rfl (by omega) (by omega) rfl
  · refine V_iconst hX (v := 0) (hv := by decide) 41 1175 rfl rfl ?_
    exact V_zret hX 42 rfl rfl (by omega) (by omega) rfl
set_option maxRecDepth 20000 in
theorem bt_La_law_1273 {l : Launch} {K : KT} {X : XT} (hX : Cx l K 1500 9 603072 7194729 X code "SeriesArchiveLaw" (some .boolean) [] L_La_law_1196) {b sl : Nat} {xs : Nat → Int32} (hSc : SC K X b sl xs) (k28 : Int32 → Mm → Rs Int32) (v5 : Int32) (c9 s9 : Nat) (hk28 : ∀ (v5 : Int32) M, VV l K 1500 9 603072 7194729 rvI X (k28 v5 M) (c9 + 85) (s9 + 11934) M 28 [(0, .ref b), (1, .ref (kA K 0)), (2, .ref (kA K 32)), (3, .ref (kA K 45)), (4, .ref (kA K 46)), (5, .int v5)] []) (hc9 : c9 + 85 ≤ 603072) (hs9 : s9 + 11934 ≤ 7194729) (M : Mm) : VV l K 1500 9 603072 7194729 rvI X (fn_La_law_1273 xs sl k28 v5 M) (c9 + 2) (s9 + 12) M 1273 [(0, .ref b), (1, .ref (kA K 0)), (2, .ref (kA K 32)), (3, .ref (kA K 45)), (4, .ref (kA K 46)), (5, .int v5)] [] := by
  unfold fn_La_law_1273
  refine V_goto hX 54 3926 rfl (by decide) ?_
  refine VV_wd (c9 + 85) (s9 + 11934) (by omega) (by omega) ?_
  exact bt_La_law_3926 (cx_L hX dec_La_law_3923) hSc k28 v5 c9 s9 hk28 (by omega) (by omega) M
set_option maxRecDepth 20000 in
theorem bt_La_law_1196 {l : Launch} {K : KT} {X : XT} (hX : Cx l K 1500 9 603072 7194729 X code "SeriesArchiveLaw" (some .boolean) [] L_La_law_1196) {b sl : Nat} {xs : Nat → Int32} (hSc : SC K X b sl xs) (k28 : Int32 → Mm → Rs Int32) (v5 : Int32) (c9 s9 : Nat) (hk28 : ∀ (v5 : Int32) M, VV l K 1500 9 603072 7194729 rvI X (k28 v5 M) (c9 + 85) (s9 + 11934) M 28 [(0, .ref b), (1, .ref (kA K 0)), (2, .ref (kA K 32)), (3, .ref (kA K 45)), (4, .ref (kA K 46)), (5, .int v5)] []) (hc9 : c9 + 85 ≤ 603072) (hs9 : s9 + 11934 ≤ 7194729) (M : Mm) : VV l K 1500 9 603072 7194729 rvI X (fn_La_law_1196 xs sl k28 v5 M) (c9 + 0) (s9 + 0) M 1196 [(0, .ref b), (1, .ref (kA K 0)), (2, .ref (kA K 32)), (3, .ref (kA K 45)), (4, .ref (kA K 46)), (5, .int v5)] [] := by
  unfold fn_La_law_1196
  refine V_aload_n hX (j := 1) (hj := rfl) 0 1197 rfl rfl ?_
  refine V_aload_n hX (j := 0) (hj := rfl) 1 1198 rfl rfl ?_
  refine V_iload hX (j := 5) (hj := rfl) 2 1200 rfl rfl ?_
  refine V_iconst hX (v := 1) (hv := by decide) 3 1201 rfl rfl ?_
  refine V_iadd hX 4 1202 rfl rfl ?_
  refine V_sld hX hSc 5 1203 rfl rfl (fun g1202 => ?_)
  refine V_aload_n hX (j := 0) (hj := rfl) 6 1204 rfl rfl ?_
  refine V_iload hX (j := 5) (hj := rfl) 7 1206 rfl rfl ?_
  refine V_iconst hX (v := 2) (hv := by decide) 8 1207 rfl rfl ?_
  refine V_iadd hX 9 1208 rfl rfl ?_
  refine V_sld hX hSc 10 1209 rfl rfl (fun g1208 => ?_)
  refine V_aload_n hX (j := 0) (hj := rfl) 11 1210 rfl rfl ?_
  refine V_iload hX (j := 5) (hj := rfl) 12 1212 rfl rfl ?_
  refine V_iconst hX (v := 3) (hv := by decide) 13 1213 rfl rfl ?_
  refine V_iadd hX 14 1214 rfl rfl ?_
  refine V_sld hX hSc 15 1215 rfl rfl (fun g1214 => ?_)
  refine V_aload_n hX (j := 3) (hj := rfl) 16 1216 rfl rfl ?_
  refine V_callI hX 1219 (c9 + 2) (s9 + 12) rfl rfl rfl (by omega) (by omega) (VR_SX hX 17 (ct_La_minimum (cx_t hX) K (xs (v5 + 1).toNatClampNeg) (xs (v5 + 2).toNatClampNeg) (xs (v5 + 3).toNatClampNeg) M) myw_La_minimum mt_La_minimum ml_La_245 (Nat.le_of_ble_eq_true rfl) (Nat.le_of_ble_eq_true rfl) rfl rfl (Nat.le_of_ble_eq_true rfl) rfl (by omega) (by omega)) (fun r1216 M1216 => ?_)
  refine V_istore hX 18 1221 [(6, .int r1216), (0, .ref b), (1, .ref (kA K 0)), (2, .ref (kA K 32)), (3, .ref (kA K 45)), (4, .ref (kA K 46)), (5, .int v5)] rfl rfl (Nat.le_of_ble_eq_true rfl) rfl ?_
  refine V_aload_n hX (j := 3) (hj := rfl) 19 1222 rfl rfl ?_
  refine V_aload_n hX (j := 1) (hj := rfl) 20 1223 rfl rfl ?_
  refine V_iload hX (j := 6) (hj := rfl) 21 1225 rfl rfl ?_
  refine V_iconst hX (v := 1) (hv := by decide) 22 1226 rfl rfl ?_
  refine V_iadd hX 23 1227 rfl rfl ?_
  refine V_sld hX hSc 24 1228 rfl rfl (fun g1227 => ?_)
  refine V_aload_n hX (j := 1) (hj := rfl) 25 1229 rfl rfl ?_
  refine V_iload hX (j := 6) (hj := rfl) 26 1231 rfl rfl ?_
  refine V_iconst hX (v := 2) (hv := by decide) 27 1232 rfl rfl ?_
  refine V_iadd hX 28 1233 rfl rfl ?_
  refine V_sld hX hSc 29 1234 rfl rfl (fun g1233 => ?_)
  refine V_aload_n hX (j := 1) (hj := rfl) 30 1235 rfl rfl ?_
  refine V_iload hX (j := 6) (hj := rfl) 31 1237 rfl rfl ?_
  refine V_iconst hX (v := 3) (hv := by decide) 32 1238 rfl rfl ?_
  refine V_iadd hX 33 1239 rfl rfl ?_
  refine V_sld hX hSc 34 1240 rfl rfl (fun g1239 => ?_)
  refine V_callI hX 1243 (c9 + 2) (s9 + 12) rfl rfl rfl (by omega) (by omega) (VR_V hX 35 (ct_Mo_minimum (cx_t hX) K (xs (v5 + 1).toNatClampNeg) (xs (v5 + 2).toNatClampNeg) (xs (v5 + 3).toNatClampNeg) M1216) my_Mo_minimum mi_Mo_minimum ms_Mo_minimum ml_La_247 (Nat.le_of_ble_eq_true rfl) (Nat.le_of_ble_eq_true rfl) (by decide) (ent_32 K _) rfl rfl rfl (Nat.le_of_ble_eq_true rfl) rfl (by omega) (by omega)) (fun r1240 M1240 => ?_)
  refine V_istore hX 36 1245 [(7, .int r1240), (6, .int r1216), (0, .ref b), (1, .ref (kA K 0)), (2, .ref (kA K 32)), (3, .ref (kA K 45)), (4, .ref (kA K 46)), (5, .int v5)] rfl rfl (Nat.le_of_ble_eq_true rfl) rfl ?_
  refine V_aload_n hX (j := 4) (hj := rfl) 37 1246 rfl rfl ?_
  refine V_callI hX 1249 (c9 + 2) (s9 + 12) rfl rfl rfl (by omega) (by omega) (VR_V hX 38 (ct_Mo_thrown (cx_t hX) K M1240) my_Mo_thrown mi_Mo_thrown ms_Mo_thrown ml_La_204 (Nat.le_of_ble_eq_true rfl) (Nat.le_of_ble_eq_true rfl) (by decide) (ent_32 K _) rfl rfl rfl (Nat.le_of_ble_eq_true rfl) rfl (by omega) (by omega)) (fun r1246 M1246 => ?_)
  refine V_iload hX (j := 1) (hj := rfl) 39 1251 rfl rfl ?_
  refine V_icmp_eq hX 40 1254 1256 rfl rfl (by decide) (fun c1251 => ?_) (fun c1251 => ?_)
  · refine V_iload hX (j := 1) (hj := rfl) 43 1258 rfl rfl ?_
    refine V_if_ne hX 44 1261 1273 rfl rfl (by decide) (fun c1258 => ?_) (fun c1258 => ?_)
    · refine VV_sub [2, 3, 4, 5, 6, 7] rfl ?_
      exact bt_La_law_1273 hX hSc k28 v5 c9 s9 hk28 (by omega) (by omega) M1246
    · refine V_aload_n hX (j := 5) (hj := rfl) 45 1262 rfl rfl ?_
      refine V_iconst hX (v := 0) (hv := by decide) 46 1263 rfl rfl ?_
      refine V_lald hX 47 1264 rfl rfl ?_
      refine V_iload hX (j := 0) (hj := rfl) 48 1266 rfl rfl ?_
      refine V_i2l hX 49 1267 rfl rfl ?_
      refine V_lcmp hX 50 1268 rfl rfl ?_
      refine V_if_eq hX 51 1271 1273 rfl rfl (by decide) (fun c1268 => ?_) (fun c1268 => ?_)
      · refine VV_sub [2, 3, 4, 5, 6, 7] rfl ?_
        exact bt_La_law_1273 hX hSc k28 v5 c9 s9 hk28 (by omega) (by omega) M1246
      · refine V_iconst hX (v := 0) (hv := by decide) 52 1272 rfl rfl ?_
        exact V_zret hX 53 rfl rfl (by omega) (by omega) rfl
  · refine V_iconst hX (v := 0) (hv := by decide) 41 1255 rfl rfl ?_
    exact V_zret hX 42 rfl rfl (by omega) (by omega) rfl
set_option maxRecDepth 20000 in
theorem bt_La_law_1353 {l : Launch} {K : KT} {X : XT} (hX : Cx l K 1500 9 603072 7194729 X code "SeriesArchiveLaw" (some .boolean) [] L_La_law_1276) {b sl : Nat} {xs : Nat → Int32} (hSc : SC K X b sl xs) (k28 : Int32 → Mm → Rs Int32) (v5 : Int32) (c9 s9 : Nat) (hk28 : ∀ (v5 : Int32) M, VV l K 1500 9 603072 7194729 rvI X (k28 v5 M) (c9 + 85) (s9 + 11934) M 28 [(0, .ref b), (1, .ref (kA K 0)), (2, .ref (kA K 32)), (3, .ref (kA K 45)), (4, .ref (kA K 46)), (5, .int v5)] []) (hc9 : c9 + 85 ≤ 603072) (hs9 : s9 + 11934 ≤ 7194729) (M : Mm) : VV l K 1500 9 603072 7194729 rvI X (fn_La_law_1353 xs sl k28 v5 M) (c9 + 2) (s9 + 12) M 1353 [(0, .ref b), (1, .ref (kA K 0)), (2, .ref (kA K 32)), (3, .ref (kA K 45)), (4, .ref (kA K 46)), (5, .int v5)] [] := by
  unfold fn_La_law_1353
  refine V_goto hX 54 3926 rfl (by decide) ?_
  refine VV_wd (c9 + 85) (s9 + 11934) (by omega) (by omega) ?_
  exact bt_La_law_3926 (cx_L hX dec_La_law_3923) hSc k28 v5 c9 s9 hk28 (by omega) (by omega) M
set_option maxRecDepth 20000 in
theorem bt_La_law_1276 {l : Launch} {K : KT} {X : XT} (hX : Cx l K 1500 9 603072 7194729 X code "SeriesArchiveLaw" (some .boolean) [] L_La_law_1276) {b sl : Nat} {xs : Nat → Int32} (hSc : SC K X b sl xs) (k28 : Int32 → Mm → Rs Int32) (v5 : Int32) (c9 s9 : Nat) (hk28 : ∀ (v5 : Int32) M, VV l K 1500 9 603072 7194729 rvI X (k28 v5 M) (c9 + 85) (s9 + 11934) M 28 [(0, .ref b), (1, .ref (kA K 0)), (2, .ref (kA K 32)), (3, .ref (kA K 45)), (4, .ref (kA K 46)), (5, .int v5)] []) (hc9 : c9 + 85 ≤ 603072) (hs9 : s9 + 11934 ≤ 7194729) (M : Mm) : VV l K 1500 9 603072 7194729 rvI X (fn_La_law_1276 xs sl k28 v5 M) (c9 + 0) (s9 + 0) M 1276 [(0, .ref b), (1, .ref (kA K 0)), (2, .ref (kA K 32)), (3, .ref (kA K 45)), (4, .ref (kA K 46)), (5, .int v5)] [] := by
  unfold fn_La_law_1276
  refine V_aload_n hX (j := 1) (hj := rfl) 0 1277 rfl rfl ?_
  refine V_aload_n hX (j := 0) (hj := rfl) 1 1278 rfl rfl ?_
  refine V_iload hX (j := 5) (hj := rfl) 2 1280 rfl rfl ?_
  refine V_iconst hX (v := 1) (hv := by decide) 3 1281 rfl rfl ?_
  refine V_iadd hX 4 1282 rfl rfl ?_
  refine V_sld hX hSc 5 1283 rfl rfl (fun g1282 => ?_)
  refine V_aload_n hX (j := 0) (hj := rfl) 6 1284 rfl rfl ?_
  refine V_iload hX (j := 5) (hj := rfl) 7 1286 rfl rfl ?_
  refine V_iconst hX (v := 2) (hv := by decide) 8 1287 rfl rfl ?_
  refine V_iadd hX 9 1288 rfl rfl ?_
  refine V_sld hX hSc 10 1289 rfl rfl (fun g1288 => ?_)
  refine V_aload_n hX (j := 0) (hj := rfl) 11 1290 rfl rfl ?_
  refine V_iload hX (j := 5) (hj := rfl) 12 1292 rfl rfl ?_
  refine V_iconst hX (v := 3) (hv := by decide) 13 1293 rfl rfl ?_
  refine V_iadd hX 14 1294 rfl rfl ?_
  refine V_sld hX hSc 15 1295 rfl rfl (fun g1294 => ?_)
  refine V_aload_n hX (j := 3) (hj := rfl) 16 1296 rfl rfl ?_
  refine V_callI hX 1299 (c9 + 2) (s9 + 12) rfl rfl rfl (by omega) (by omega) (VR_SX hX 17 (ct_La_maximum (cx_t hX) K (xs (v5 + 1).toNatClampNeg) (xs (v5 + 2).toNatClampNeg) (xs (v5 + 3).toNatClampNeg) M) myw_La_maximum mt_La_maximum ml_La_248 (Nat.le_of_ble_eq_true rfl) (Nat.le_of_ble_eq_true rfl) rfl rfl (Nat.le_of_ble_eq_true rfl) rfl (by omega) (by omega)) (fun r1296 M1296 => ?_)
  refine V_istore hX 18 1301 [(6, .int r1296), (0, .ref b), (1, .ref (kA K 0)), (2, .ref (kA K 32)), (3, .ref (kA K 45)), (4, .ref (kA K 46)), (5, .int v5)] rfl rfl (Nat.le_of_ble_eq_true rfl) rfl ?_
  refine V_aload_n hX (j := 3) (hj := rfl) 19 1302 rfl rfl ?_
  refine V_aload_n hX (j := 1) (hj := rfl) 20 1303 rfl rfl ?_
  refine V_iload hX (j := 6) (hj := rfl) 21 1305 rfl rfl ?_
  refine V_iconst hX (v := 1) (hv := by decide) 22 1306 rfl rfl ?_
  refine V_iadd hX 23 1307 rfl rfl ?_
  refine V_sld hX hSc 24 1308 rfl rfl (fun g1307 => ?_)
  refine V_aload_n hX (j := 1) (hj := rfl) 25 1309 rfl rfl ?_
  refine V_iload hX (j := 6) (hj := rfl) 26 1311 rfl rfl ?_
  refine V_iconst hX (v := 2) (hv := by decide) 27 1312 rfl rfl ?_
  refine V_iadd hX 28 1313 rfl rfl ?_
  refine V_sld hX hSc 29 1314 rfl rfl (fun g1313 => ?_)
  refine V_aload_n hX (j := 1) (hj := rfl) 30 1315 rfl rfl ?_
  refine V_iload hX (j := 6) (hj := rfl) 31 1317 rfl rfl ?_
  refine V_iconst hX (v := 3) (hv := by decide) 32 1318 rfl rfl ?_
  refine V_iadd hX 33 1319 rfl rfl ?_
  refine V_sld hX hSc 34 1320 rfl rfl (fun g1319 => ?_)
  refine V_callI hX 1323 (c9 + 2) (s9 + 12) rfl rfl rfl (by omega) (by omega) (VR_V hX 35 (ct_Mo_maximum (cx_t hX) K (xs (v5 + 1).toNatClampNeg) (xs (v5 + 2).toNatClampNeg) (xs (v5 + 3).toNatClampNeg) M1296) my_Mo_maximum mi_Mo_maximum ms_Mo_maximum ml_La_250 (Nat.le_of_ble_eq_true rfl) (Nat.le_of_ble_eq_true rfl) (by decide) (ent_32 K _) rfl rfl rfl (Nat.le_of_ble_eq_true rfl) rfl (by omega) (by omega)) (fun r1320 M1320 => ?_)
  refine V_istore hX 36 1325 [(7, .int r1320), (6, .int r1296), (0, .ref b), (1, .ref (kA K 0)), (2, .ref (kA K 32)), (3, .ref (kA K 45)), (4, .ref (kA K 46)), (5, .int v5)] rfl rfl (Nat.le_of_ble_eq_true rfl) rfl ?_
  refine V_aload_n hX (j := 4) (hj := rfl) 37 1326 rfl rfl ?_
  refine V_callI hX 1329 (c9 + 2) (s9 + 12) rfl rfl rfl (by omega) (by omega) (VR_V hX 38 (ct_Mo_thrown (cx_t hX) K M1320) my_Mo_thrown mi_Mo_thrown ms_Mo_thrown ml_La_204 (Nat.le_of_ble_eq_true rfl) (Nat.le_of_ble_eq_true rfl) (by decide) (ent_32 K _) rfl rfl rfl (Nat.le_of_ble_eq_true rfl) rfl (by omega) (by omega)) (fun r1326 M1326 => ?_)
  refine V_iload hX (j := 1) (hj := rfl) 39 1331 rfl rfl ?_
  refine V_icmp_eq hX 40 1334 1336 rfl rfl (by decide) (fun c1331 => ?_) (fun c1331 => ?_)
  · refine V_iload hX (j := 1) (hj := rfl) 43 1338 rfl rfl ?_
    refine V_if_ne hX 44 1341 1353 rfl rfl (by decide) (fun c1338 => ?_) (fun c1338 => ?_)
    · refine VV_sub [2, 3, 4, 5, 6, 7] rfl ?_
      exact bt_La_law_1353 hX hSc k28 v5 c9 s9 hk28 (by omega) (by omega) M1326
    · refine V_aload_n hX (j := 5) (hj := rfl) 45 1342 rfl rfl ?_
      refine V_iconst hX (v := 0) (hv := by decide) 46 1343 rfl rfl ?_
      refine V_lald hX 47 1344 rfl rfl ?_
      refine V_iload hX (j := 0) (hj := rfl) 48 1346 rfl rfl ?_
      refine V_i2l hX 49 1347 rfl rfl ?_
      refine V_lcmp hX 50 1348 rfl rfl ?_
      refine V_if_eq hX 51 1351 1353 rfl rfl (by decide) (fun c1348 => ?_) (fun c1348 => ?_)
      · refine VV_sub [2, 3, 4, 5, 6, 7] rfl ?_
        exact bt_La_law_1353 hX hSc k28 v5 c9 s9 hk28 (by omega) (by omega) M1326
      · refine V_iconst hX (v := 0) (hv := by decide) 52 1352 rfl rfl ?_
        exact V_zret hX 53 rfl rfl (by omega) (by omega) rfl
  · refine V_iconst hX (v := 0) (hv := by decide) 41 1335 rfl rfl ?_
    exact V_zret hX 42 rfl rfl (by omega) (by omega) rfl
set_option maxRecDepth 20000 in
theorem bt_La_law_1421 {l : Launch} {K : KT} {X : XT} (hX : Cx l K 1500 9 603072 7194729 X code "SeriesArchiveLaw" (some .boolean) [] L_La_law_1356) {b sl : Nat} {xs : Nat → Int32} (hSc : SC K X b sl xs) (k28 : Int32 → Mm → Rs Int32) (v5 : Int32) (c9 s9 : Nat) (hk28 : ∀ (v5 : Int32) M, VV l K 1500 9 603072 7194729 rvI X (k28 v5 M) (c9 + 85) (s9 + 11934) M 28 [(0, .ref b), (1, .ref (kA K 0)), (2, .ref (kA K 32)), (3, .ref (kA K 45)), (4, .ref (kA K 46)), (5, .int v5)] []) (hc9 : c9 + 85 ≤ 603072) (hs9 : s9 + 11934 ≤ 7194729) (M : Mm) : VV l K 1500 9 603072 7194729 rvI X (fn_La_law_1421 xs sl k28 v5 M) (c9 + 1) (s9 + 6) M 1421 [(0, .ref b), (1, .ref (kA K 0)), (2, .ref (kA K 32)), (3, .ref (kA K 45)), (4, .ref (kA K 46)), (5, .int v5)] [] := by
  unfold fn_La_law_1421
  refine V_goto hX 44 3926 rfl (by decide) ?_
  refine VV_wd (c9 + 85) (s9 + 11934) (by omega) (by omega) ?_
  exact bt_La_law_3926 (cx_L hX dec_La_law_3923) hSc k28 v5 c9 s9 hk28 (by omega) (by omega) M
set_option maxRecDepth 20000 in
theorem bt_La_law_1356 {l : Launch} {K : KT} {X : XT} (hX : Cx l K 1500 9 603072 7194729 X code "SeriesArchiveLaw" (some .boolean) [] L_La_law_1356) {b sl : Nat} {xs : Nat → Int32} (hSc : SC K X b sl xs) (k28 : Int32 → Mm → Rs Int32) (v5 : Int32) (c9 s9 : Nat) (hk28 : ∀ (v5 : Int32) M, VV l K 1500 9 603072 7194729 rvI X (k28 v5 M) (c9 + 85) (s9 + 11934) M 28 [(0, .ref b), (1, .ref (kA K 0)), (2, .ref (kA K 32)), (3, .ref (kA K 45)), (4, .ref (kA K 46)), (5, .int v5)] []) (hc9 : c9 + 85 ≤ 603072) (hs9 : s9 + 11934 ≤ 7194729) (M : Mm) : VV l K 1500 9 603072 7194729 rvI X (fn_La_law_1356 xs sl k28 v5 M) (c9 + 0) (s9 + 0) M 1356 [(0, .ref b), (1, .ref (kA K 0)), (2, .ref (kA K 32)), (3, .ref (kA K 45)), (4, .ref (kA K 46)), (5, .int v5)] [] := by
  unfold fn_La_law_1356
  refine V_aload_n hX (j := 1) (hj := rfl) 0 1357 rfl rfl ?_
  refine V_aload_n hX (j := 0) (hj := rfl) 1 1358 rfl rfl ?_
  refine V_iload hX (j := 5) (hj := rfl) 2 1360 rfl rfl ?_
  refine V_iconst hX (v := 1) (hv := by decide) 3 1361 rfl rfl ?_
  refine V_iadd hX 4 1362 rfl rfl ?_
  refine V_sld hX hSc 5 1363 rfl rfl (fun g1362 => ?_)
  refine V_aload_n hX (j := 0) (hj := rfl) 6 1364 rfl rfl ?_
  refine V_iload hX (j := 5) (hj := rfl) 7 1366 rfl rfl ?_
  refine V_iconst hX (v := 2) (hv := by decide) 8 1367 rfl rfl ?_
  refine V_iadd hX 9 1368 rfl rfl ?_
  refine V_sld hX hSc 10 1369 rfl rfl (fun g1368 => ?_)
  refine V_aload_n hX (j := 3) (hj := rfl) 11 1370 rfl rfl ?_
  refine V_callI hX 1373 (c9 + 1) (s9 + 6) rfl rfl rfl (by omega) (by omega) (VR_SX hX 12 (ct_La_countAbove (cx_t hX) K (xs (v5 + 1).toNatClampNeg) (xs (v5 + 2).toNatClampNeg) M) myw_La_countAbove mt_La_countAbove ml_La_251 (Nat.le_of_ble_eq_true rfl) (Nat.le_of_ble_eq_true rfl) rfl rfl (Nat.le_of_ble_eq_true rfl) rfl (by omega) (by omega)) (fun r1370 M1370 => ?_)
  refine V_istore hX 13 1375 [(6, .int r1370), (0, .ref b), (1, .ref (kA K 0)), (2, .ref (kA K 32)), (3, .ref (kA K 45)), (4, .ref (kA K 46)), (5, .int v5)] rfl rfl (Nat.le_of_ble_eq_true rfl) rfl ?_
  refine V_aload_n hX (j := 3) (hj := rfl) 14 1376 rfl rfl ?_
  refine V_aload_n hX (j := 1) (hj := rfl) 15 1377 rfl rfl ?_
  refine V_iload hX (j := 6) (hj := rfl) 16 1379 rfl rfl ?_
  refine V_iconst hX (v := 1) (hv := by decide) 17 1380 rfl rfl ?_
  refine V_iadd hX 18 1381 rfl rfl ?_
  refine V_sld hX hSc 19 1382 rfl rfl (fun g1381 => ?_)
  refine V_aload_n hX (j := 1) (hj := rfl) 20 1383 rfl rfl ?_
  refine V_iload hX (j := 6) (hj := rfl) 21 1385 rfl rfl ?_
  refine V_iconst hX (v := 2) (hv := by decide) 22 1386 rfl rfl ?_
  refine V_iadd hX 23 1387 rfl rfl ?_
  refine V_sld hX hSc 24 1388 rfl rfl (fun g1387 => ?_)
  refine V_callI hX 1391 (c9 + 1) (s9 + 6) rfl rfl rfl (by omega) (by omega) (VR_V hX 25 (ct_Mo_countAbove (cx_t hX) K (xs (v5 + 1).toNatClampNeg) (xs (v5 + 2).toNatClampNeg) M1370) my_Mo_countAbove mi_Mo_countAbove ms_Mo_countAbove ml_La_253 (Nat.le_of_ble_eq_true rfl) (Nat.le_of_ble_eq_true rfl) (by decide) (ent_32 K _) rfl rfl rfl (Nat.le_of_ble_eq_true rfl) rfl (by omega) (by omega)) (fun r1388 M1388 => ?_)
  refine V_istore hX 26 1393 [(7, .int r1388), (6, .int r1370), (0, .ref b), (1, .ref (kA K 0)), (2, .ref (kA K 32)), (3, .ref (kA K 45)), (4, .ref (kA K 46)), (5, .int v5)] rfl rfl (Nat.le_of_ble_eq_true rfl) rfl ?_
  refine V_aload_n hX (j := 4) (hj := rfl) 27 1394 rfl rfl ?_
  refine V_callI hX 1397 (c9 + 1) (s9 + 6) rfl rfl rfl (by omega) (by omega) (VR_V hX 28 (ct_Mo_thrown (cx_t hX) K M1388) my_Mo_thrown mi_Mo_thrown ms_Mo_thrown ml_La_204 (Nat.le_of_ble_eq_true rfl) (Nat.le_of_ble_eq_true rfl) (by decide) (ent_32 K _) rfl rfl rfl (Nat.le_of_ble_eq_true rfl) rfl (by omega) (by omega)) (fun r1394 M1394 => ?_)
  refine V_iload hX (j := 1) (hj := rfl) 29 1399 rfl rfl ?_
  refine V_icmp_eq hX 30 1402 1404 rfl rfl (by decide) (fun c1399 => ?_) (fun c1399 => ?_)
  · refine V_iload hX (j := 1) (hj := rfl) 33 1406 rfl rfl ?_
    refine V_if_ne hX 34 1409 1421 rfl rfl (by decide) (fun c1406 => ?_) (fun c1406 => ?_)
    · refine VV_sub [2, 3, 4, 5, 6, 7] rfl ?_
      exact bt_La_law_1421 hX hSc k28 v5 c9 s9 hk28 (by omega) (by omega) M1394
    · refine V_aload_n hX (j := 5) (hj := rfl) 35 1410 rfl rfl ?_
      refine V_iconst hX (v := 0) (hv := by decide) 36 1411 rfl rfl ?_
      refine V_lald hX 37 1412 rfl rfl ?_
      refine V_iload hX (j := 0) (hj := rfl) 38 1414 rfl rfl ?_
      refine V_i2l hX 39 1415 rfl rfl ?_
      refine V_lcmp hX 40 1416 rfl rfl ?_
      refine V_if_eq hX 41 1419 1421 rfl rfl (by decide) (fun c1416 => ?_) (fun c1416 => ?_)
      · refine VV_sub [2, 3, 4, 5, 6, 7] rfl ?_
        exact bt_La_law_1421 hX hSc k28 v5 c9 s9 hk28 (by omega) (by omega) M1394
      · refine V_iconst hX (v := 0) (hv := by decide) 42 1420 rfl rfl ?_
        exact V_zret hX 43 rfl rfl (by omega) (by omega) rfl
  · refine V_iconst hX (v := 0) (hv := by decide) 31 1403 rfl rfl ?_
    exact V_zret hX 32 rfl rfl (by omega) (by omega) rfl
set_option maxRecDepth 20000 in
theorem bt_La_law_1489 {l : Launch} {K : KT} {X : XT} (hX : Cx l K 1500 9 603072 7194729 X code "SeriesArchiveLaw" (some .boolean) [] L_La_law_1424) {b sl : Nat} {xs : Nat → Int32} (hSc : SC K X b sl xs) (k28 : Int32 → Mm → Rs Int32) (v5 : Int32) (c9 s9 : Nat) (hk28 : ∀ (v5 : Int32) M, VV l K 1500 9 603072 7194729 rvI X (k28 v5 M) (c9 + 85) (s9 + 11934) M 28 [(0, .ref b), (1, .ref (kA K 0)), (2, .ref (kA K 32)), (3, .ref (kA K 45)), (4, .ref (kA K 46)), (5, .int v5)] []) (hc9 : c9 + 85 ≤ 603072) (hs9 : s9 + 11934 ≤ 7194729) (M : Mm) : VV l K 1500 9 603072 7194729 rvI X (fn_La_law_1489 xs sl k28 v5 M) (c9 + 2) (s9 + 12) M 1489 [(0, .ref b), (1, .ref (kA K 0)), (2, .ref (kA K 32)), (3, .ref (kA K 45)), (4, .ref (kA K 46)), (5, .int v5)] [] := by
  unfold fn_La_law_1489
  refine V_goto hX 44 3926 rfl (by decide) ?_
  refine VV_wd (c9 + 85) (s9 + 11934) (by omega) (by omega) ?_
  exact bt_La_law_3926 (cx_L hX dec_La_law_3923) hSc k28 v5 c9 s9 hk28 (by omega) (by omega) M
set_option maxRecDepth 20000 in
theorem bt_La_law_1424 {l : Launch} {K : KT} {X : XT} (hX : Cx l K 1500 9 603072 7194729 X code "SeriesArchiveLaw" (some .boolean) [] L_La_law_1424) {b sl : Nat} {xs : Nat → Int32} (hSc : SC K X b sl xs) (k28 : Int32 → Mm → Rs Int32) (v5 : Int32) (c9 s9 : Nat) (hk28 : ∀ (v5 : Int32) M, VV l K 1500 9 603072 7194729 rvI X (k28 v5 M) (c9 + 85) (s9 + 11934) M 28 [(0, .ref b), (1, .ref (kA K 0)), (2, .ref (kA K 32)), (3, .ref (kA K 45)), (4, .ref (kA K 46)), (5, .int v5)] []) (hc9 : c9 + 85 ≤ 603072) (hs9 : s9 + 11934 ≤ 7194729) (M : Mm) : VV l K 1500 9 603072 7194729 rvI X (fn_La_law_1424 xs sl k28 v5 M) (c9 + 0) (s9 + 0) M 1424 [(0, .ref b), (1, .ref (kA K 0)), (2, .ref (kA K 32)), (3, .ref (kA K 45)), (4, .ref (kA K 46)), (5, .int v5)] [] := by
  unfold fn_La_law_1424
  refine V_aload_n hX (j := 1) (hj := rfl) 0 1425 rfl rfl ?_
  refine V_aload_n hX (j := 0) (hj := rfl) 1 1426 rfl rfl ?_
  refine V_iload hX (j := 5) (hj := rfl) 2 1428 rfl rfl ?_
  refine V_iconst hX (v := 1) (hv := by decide) 3 1429 rfl rfl ?_
  refine V_iadd hX 4 1430 rfl rfl ?_
  refine V_sld hX hSc 5 1431 rfl rfl (fun g1430 => ?_)
  refine V_aload_n hX (j := 0) (hj := rfl) 6 1432 rfl rfl ?_
  refine V_iload hX (j := 5) (hj := rfl) 7 1434 rfl rfl ?_
  refine V_iconst hX (v := 2) (hv := by decide) 8 1435 rfl rfl ?_
  refine V_iadd hX 9 1436 rfl rfl ?_
  refine V_sld hX hSc 10 1437 rfl rfl (fun g1436 => ?_)
  refine V_aload_n hX (j := 3) (hj := rfl) 11 1438 rfl rfl ?_
  refine V_callI hX 1441 (c9 + 2) (s9 + 12) rfl rfl rfl (by omega) (by omega) (VR_SX hX 12 (ct_La_valueByRank (cx_t hX) K (xs (v5 + 1).toNatClampNeg) (xs (v5 + 2).toNatClampNeg) M) myw_La_valueByRank mt_La_valueByRank ml_La_254 (Nat.le_of_ble_eq_true rfl) (Nat.le_of_ble_eq_true rfl) rfl rfl (Nat.le_of_ble_eq_true rfl) rfl (by omega) (by omega)) (fun r1438 M1438 => ?_)
  refine V_istore hX 13 1443 [(6, .int r1438), (0, .ref b), (1, .ref (kA K 0)), (2, .ref (kA K 32)), (3, .ref (kA K 45)), (4, .ref (kA K 46)), (5, .int v5)] rfl rfl (Nat.le_of_ble_eq_true rfl) rfl ?_
  refine V_aload_n hX (j := 3) (hj := rfl) 14 1444 rfl rfl ?_
  refine V_aload_n hX (j := 1) (hj := rfl) 15 1445 rfl rfl ?_
  refine V_iload hX (j := 6) (hj := rfl) 16 1447 rfl rfl ?_
  refine V_iconst hX (v := 1) (hv := by decide) 17 1448 rfl rfl ?_
  refine V_iadd hX 18 1449 rfl rfl ?_
  refine V_sld hX hSc 19 1450 rfl rfl (fun g1449 => ?_)
  refine V_aload_n hX (j := 1) (hj := rfl) 20 1451 rfl rfl ?_
  refine V_iload hX (j := 6) (hj := rfl) 21 1453 rfl rfl ?_
  refine V_iconst hX (v := 2) (hv := by decide) 22 1454 rfl rfl ?_
  refine V_iadd hX 23 1455 rfl rfl ?_
  refine V_sld hX hSc 24 1456 rfl rfl (fun g1455 => ?_)
  refine V_callI hX 1459 (c9 + 2) (s9 + 12) rfl rfl rfl (by omega) (by omega) (VR_V hX 25 (ct_Mo_valueByRank (cx_t hX) K (xs (v5 + 1).toNatClampNeg) (xs (v5 + 2).toNatClampNeg) M1438) my_Mo_valueByRank mi_Mo_valueByRank ms_Mo_valueByRank ml_La_256 (Nat.le_of_ble_eq_true rfl) (Nat.le_of_ble_eq_true rfl) (by decide) (ent_32 K _) rfl rfl rfl (Nat.le_of_ble_eq_true rfl) rfl (by omega) (by omega)) (fun r1456 M1456 => ?_)
  refine V_istore hX 26 1461 [(7, .int r1456), (6, .int r1438), (0, .ref b), (1, .ref (kA K 0)), (2, .ref (kA K 32)), (3, .ref (kA K 45)), (4, .ref (kA K 46)), (5, .int v5)] rfl rfl (Nat.le_of_ble_eq_true rfl) rfl ?_
  refine V_aload_n hX (j := 4) (hj := rfl) 27 1462 rfl rfl ?_
  refine V_callI hX 1465 (c9 + 2) (s9 + 12) rfl rfl rfl (by omega) (by omega) (VR_V hX 28 (ct_Mo_thrown (cx_t hX) K M1456) my_Mo_thrown mi_Mo_thrown ms_Mo_thrown ml_La_204 (Nat.le_of_ble_eq_true rfl) (Nat.le_of_ble_eq_true rfl) (by decide) (ent_32 K _) rfl rfl rfl (Nat.le_of_ble_eq_true rfl) rfl (by omega) (by omega)) (fun r1462 M1462 => ?_)
  refine V_iload hX (j := 1) (hj := rfl) 29 1467 rfl rfl ?_
  refine V_icmp_eq hX 30 1470 1472 rfl rfl (by decide) (fun c1467 => ?_) (fun c1467 => ?_)
  · refine V_iload hX (j := 1) (hj := rfl) 33 1474 rfl rfl ?_
    refine V_if_ne hX 34 1477 1489 rfl rfl (by decide) (fun c1474 => ?_) (fun c1474 => ?_)
    · refine VV_sub [2, 3, 4, 5, 6, 7] rfl ?_
      exact bt_La_law_1489 hX hSc k28 v5 c9 s9 hk28 (by omega) (by omega) M1462
    · refine V_aload_n hX (j := 5) (hj := rfl) 35 1478 rfl rfl ?_
      refine V_iconst hX (v := 0) (hv := by decide) 36 1479 rfl rfl ?_
      refine V_lald hX 37 1480 rfl rfl ?_
      refine V_iload hX (j := 0) (hj := rfl) 38 1482 rfl rfl ?_
      refine V_i2l hX 39 1483 rfl rfl ?_
      refine V_lcmp hX 40 1484 rfl rfl ?_
      refine V_if_eq hX 41 1487 1489 rfl rfl (by decide) (fun c1484 => ?_) (fun c1484 => ?_)
      · refine VV_sub [2, 3, 4, 5, 6, 7] rfl ?_
        exact bt_La_law_1489 hX hSc k28 v5 c9 s9 hk28 (by omega) (by omega) M1462
      · refine V_iconst hX (v := 0) (hv := by decide) 42 1488 rfl rfl ?_
        exact V_zret hX 43 rfl rfl (by omega) (by omega) rfl
  · refine V_iconst hX (v := 0) (hv := by decide) 31 1471 rfl rfl ?_
    exact V_zret hX 32 rfl rfl (by omega) (by omega) rfl
set_option maxRecDepth 20000 in
theorem bt_La_law_1566 {l : Launch} {K : KT} {X : XT} (hX : Cx l K 1500 9 603072 7194729 X code "SeriesArchiveLaw" (some .boolean) [] L_La_law_1492) {b sl : Nat} {xs : Nat → Int32} (hSc : SC K X b sl xs) (k28 : Int32 → Mm → Rs Int32) (v5 : Int32) (c9 s9 : Nat) (hk28 : ∀ (v5 : Int32) M, VV l K 1500 9 603072 7194729 rvI X (k28 v5 M) (c9 + 85) (s9 + 11934) M 28 [(0, .ref b), (1, .ref (kA K 0)), (2, .ref (kA K 32)), (3, .ref (kA K 45)), (4, .ref (kA K 46)), (5, .int v5)] []) (hc9 : c9 + 85 ≤ 603072) (hs9 : s9 + 11934 ≤ 7194729) (M : Mm) : VV l K 1500 9 603072 7194729 rvI X (fn_La_law_1566 xs sl k28 v5 M) (c9 + 2) (s9 + 12) M 1566 [(0, .ref b), (1, .ref (kA K 0)), (2, .ref (kA K 32)), (3, .ref (kA K 45)), (4, .ref (kA K 46)), (5, .int v5)] [] := by
  unfold fn_La_law_1566
  refine V_goto hX 45 3926 rfl (by decide) ?_
  refine VV_wd (c9 + 85) (s9 + 11934) (by omega) (by omega) ?_
  exact bt_La_law_3926 (cx_L hX dec_La_law_3923) hSc k28 v5 c9 s9 hk28 (by omega) (by omega) M
set_option maxRecDepth 20000 in
theorem bt_La_law_1492 {l : Launch} {K : KT} {X : XT} (hX : Cx l K 1500 9 603072 7194729 X code "SeriesArchiveLaw" (some .boolean) [] L_La_law_1492) {b sl : Nat} {xs : Nat → Int32} (hSc : SC K X b sl xs) (k28 : Int32 → Mm → Rs Int32) (v5 : Int32) (c9 s9 : Nat) (hk28 : ∀ (v5 : Int32) M, VV l K 1500 9 603072 7194729 rvI X (k28 v5 M) (c9 + 85) (s9 + 11934) M 28 [(0, .ref b), (1, .ref (kA K 0)), (2, .ref (kA K 32)), (3, .ref (kA K 45)), (4, .ref (kA K 46)), (5, .int v5)] []) (hc9 : c9 + 85 ≤ 603072) (hs9 : s9 + 11934 ≤ 7194729) (M : Mm) : VV l K 1500 9 603072 7194729 rvI X (fn_La_law_1492 xs sl k28 v5 M) (c9 + 0) (s9 + 0) M 1492 [(0, .ref b), (1, .ref (kA K 0)), (2, .ref (kA K 32)), (3, .ref (kA K 45)), (4, .ref (kA K 46)), (5, .int v5)] [] := by
  unfold fn_La_law_1492
  refine V_aload_n hX (j := 1) (hj := rfl) 0 1493 rfl rfl ?_
  refine V_aload_n hX (j := 0) (hj := rfl) 1 1494 rfl rfl ?_
  refine V_iload hX (j := 5) (hj := rfl) 2 1496 rfl rfl ?_
  refine V_iconst hX (v := 1) (hv := by decide) 3 1497 rfl rfl ?_
  refine V_iadd hX 4 1498 rfl rfl ?_
  refine V_sld hX hSc 5 1499 rfl rfl (fun g1498 => ?_)
  refine V_aload hX (j := 4) (hj := rfl) 6 1501 rfl rfl ?_
  refine V_callI hX 1504 (c9 + 2) (s9 + 12) rfl rfl rfl (by omega) (by omega) (VR_SX hX 7 (ct_La_mean (cx_t hX) K (xs (v5 + 1).toNatClampNeg) M) myw_La_mean mt_La_mean ml_La_257 (Nat.le_of_ble_eq_true rfl) (Nat.le_of_ble_eq_true rfl) rfl rfl (Nat.le_of_ble_eq_true rfl) rfl (by omega) (by omega)) (fun r1501 M1501 => ?_)
  refine V_istore hX 8 1506 [(6, .int r1501), (0, .ref b), (1, .ref (kA K 0)), (2, .ref (kA K 32)), (3, .ref (kA K 45)), (4, .ref (kA K 46)), (5, .int v5)] rfl rfl (Nat.le_of_ble_eq_true rfl) rfl ?_
  refine V_aload_n hX (j := 3) (hj := rfl) 9 1507 rfl rfl ?_
  refine V_aload_n hX (j := 1) (hj := rfl) 10 1508 rfl rfl ?_
  refine V_iload hX (j := 6) (hj := rfl) 11 1510 rfl rfl ?_
  refine V_iconst hX (v := 1) (hv := by decide) 12 1511 rfl rfl ?_
  refine V_iadd hX 13 1512 rfl rfl ?_
  refine V_sld hX hSc 14 1513 rfl rfl (fun g1512 => ?_)
  refine V_callD hX 1516 (c9 + 2) (s9 + 12) rfl rfl rfl (by omega) (by omega) (VR_V hX 15 (ct_Mo_mean (cx_t hX) K (xs (v5 + 1).toNatClampNeg) M1501) my_Mo_mean mi_Mo_mean ms_Mo_mean ml_La_260 (Nat.le_of_ble_eq_true rfl) (Nat.le_of_ble_eq_true rfl) (by decide) (ent_32 K _) rfl rfl rfl (Nat.le_of_ble_eq_true rfl) rfl (by omega) (by omega)) (fun r1513 M1513 => ?_)
  refine V_dstore hX 16 1518 [(7, .double r1513), (6, .int r1501), (0, .ref b), (1, .ref (kA K 0)), (2, .ref (kA K 32)), (3, .ref (kA K 45)), (4, .ref (kA K 46)), (5, .int v5)] rfl rfl (Nat.le_of_ble_eq_true rfl) rfl ?_
  refine V_aload_n hX (j := 4) (hj := rfl) 17 1519 rfl rfl ?_
  refine V_callI hX 1522 (c9 + 2) (s9 + 12) rfl rfl rfl (by omega) (by omega) (VR_V hX 18 (ct_Mo_thrown (cx_t hX) K M1513) my_Mo_thrown mi_Mo_thrown ms_Mo_thrown ml_La_204 (Nat.le_of_ble_eq_true rfl) (Nat.le_of_ble_eq_true rfl) (by decide) (ent_32 K _) rfl rfl rfl (Nat.le_of_ble_eq_true rfl) rfl (by omega) (by omega)) (fun r1519 M1519 => ?_)
  refine V_iload hX (j := 1) (hj := rfl) 19 1524 rfl rfl ?_
  refine V_icmp_eq hX 20 1527 1529 rfl rfl (by decide) (fun c1524 => ?_) (fun c1524 => ?_)
  · refine V_iload hX (j := 1) (hj := rfl) 23 1531 rfl rfl ?_
    refine V_if_ne hX 24 1534 1566 rfl rfl (by decide) (fun c1531 => ?_) (fun c1531 => ?_)
    · refine VV_sub [2, 3, 4, 5, 6, 7] rfl ?_
      exact bt_La_law_1566 hX hSc k28 v5 c9 s9 hk28 (by omega) (by omega) M1519
    · refine V_aload hX (j := 6) (hj := rfl) 25 1536 rfl rfl ?_
      refine V_iconst hX (v := 0) (hv := by decide) 26 1537 rfl rfl ?_
      refine V_dald hX 27 1538 rfl rfl ?_
      refine V_dload hX (j := 0) (hj := rfl) 28 1540 rfl rfl ?_
      refine V_dcmp hX 29 1541 rfl rfl ?_
      refine V_if_eq hX 30 1544 1566 rfl rfl (by decide) (fun c1541 => ?_) (fun c1541 => ?_)
      · refine VV_sub [2, 3, 4, 5, 6, 7] rfl ?_
        exact bt_La_law_1566 hX hSc k28 v5 c9 s9 hk28 (by omega) (by omega) M1519
      · refine V_aload hX (j := 6) (hj := rfl) 31 1546 rfl rfl ?_
        refine V_iconst hX (v := 0) (hv := by decide) 32 1547 rfl rfl ?_
        refine V_dald hX 33 1548 rfl rfl ?_
        refine V_aload hX (j := 6) (hj := rfl) 34 1550 rfl rfl ?_
        refine V_iconst hX (v := 0) (hv := by decide) 35 1551 rfl rfl ?_
        refine V_dald hX 36 1552 rfl rfl ?_
        refine V_dcmp hX 37 1553 rfl rfl ?_
        refine V_if_eq hX 38 1556 1564 rfl rfl (by decide) (fun c1553 => ?_) (fun c1553 => ?_)
        · refine V_iconst hX (v := 0) (hv := by decide) 43 1565 rfl rfl ?_
          exact V_zret hX 44 rfl rfl (by omega) (by omega) rfl
        · refine V_dload hX (j := 0) (hj := rfl) 39 1558 rfl rfl ?_
          refine V_dload hX (j := 0) (hj := rfl) 40 1560 rfl rfl ?_
          refine V_dcmp hX 41 1561 rfl rfl ?_
          refine V_if_ne hX 42 1564 1566 rfl rfl (by decide) (fun c1561 => ?_) (fun c1561 => ?_)
          · refine VV_sub [2, 3, 4, 5, 6, 7] rfl ?_
            exact bt_La_law_1566 hX hSc k28 v5 c9 s9 hk28 (by omega) (by omega) M1519
          · refine V_iconst hX (v := 0) (hv := by decide) 43 1565 rfl rfl ?_
            exact V_zret hX 44 rfl rfl (by omega) (by omega) rfl
  · refine V_iconst hX (v := 0) (hv := by decide) 21 1528 rfl rfl ?_
    exact V_zret hX 22 rfl rfl (by omega) (by omega) rfl
set_option maxRecDepth 20000 in
theorem bt_La_law_1646 {l : Launch} {K : KT} {X : XT} (hX : Cx l K 1500 9 603072 7194729 X code "SeriesArchiveLaw" (some .boolean) [] L_La_law_1569) {b sl : Nat} {xs : Nat → Int32} (hSc : SC K X b sl xs) (k28 : Int32 → Mm → Rs Int32) (v5 : Int32) (c9 s9 : Nat) (hk28 : ∀ (v5 : Int32) M, VV l K 1500 9 603072 7194729 rvI X (k28 v5 M) (c9 + 85) (s9 + 11934) M 28 [(0, .ref b), (1, .ref (kA K 0)), (2, .ref (kA K 32)), (3, .ref (kA K 45)), (4, .ref (kA K 46)), (5, .int v5)] []) (hc9 : c9 + 85 ≤ 603072) (hs9 : s9 + 11934 ≤ 7194729) (M : Mm) : VV l K 1500 9 603072 7194729 rvI X (fn_La_law_1646 xs sl k28 v5 M) (c9 + 3) (s9 + 18) M 1646 [(0, .ref b), (1, .ref (kA K 0)), (2, .ref (kA K 32)), (3, .ref (kA K 45)), (4, .ref (kA K 46)), (5, .int v5)] [] := by
  unfold fn_La_law_1646
  refine V_goto hX 54 3926 rfl (by decide) ?_
  refine VV_wd (c9 + 85) (s9 + 11934) (by omega) (by omega) ?_
  exact bt_La_law_3926 (cx_L hX dec_La_law_3923) hSc k28 v5 c9 s9 hk28 (by omega) (by omega) M
set_option maxRecDepth 20000 in
theorem bt_La_law_1569 {l : Launch} {K : KT} {X : XT} (hX : Cx l K 1500 9 603072 7194729 X code "SeriesArchiveLaw" (some .boolean) [] L_La_law_1569) {b sl : Nat} {xs : Nat → Int32} (hSc : SC K X b sl xs) (k28 : Int32 → Mm → Rs Int32) (v5 : Int32) (c9 s9 : Nat) (hk28 : ∀ (v5 : Int32) M, VV l K 1500 9 603072 7194729 rvI X (k28 v5 M) (c9 + 85) (s9 + 11934) M 28 [(0, .ref b), (1, .ref (kA K 0)), (2, .ref (kA K 32)), (3, .ref (kA K 45)), (4, .ref (kA K 46)), (5, .int v5)] []) (hc9 : c9 + 85 ≤ 603072) (hs9 : s9 + 11934 ≤ 7194729) (M : Mm) : VV l K 1500 9 603072 7194729 rvI X (fn_La_law_1569 xs sl k28 v5 M) (c9 + 0) (s9 + 0) M 1569 [(0, .ref b), (1, .ref (kA K 0)), (2, .ref (kA K 32)), (3, .ref (kA K 45)), (4, .ref (kA K 46)), (5, .int v5)] [] := by
  unfold fn_La_law_1569
  refine V_aload_n hX (j := 1) (hj := rfl) 0 1570 rfl rfl ?_
  refine V_aload_n hX (j := 0) (hj := rfl) 1 1571 rfl rfl ?_
  refine V_iload hX (j := 5) (hj := rfl) 2 1573 rfl rfl ?_
  refine V_iconst hX (v := 1) (hv := by decide) 3 1574 rfl rfl ?_
  refine V_iadd hX 4 1575 rfl rfl ?_
  refine V_sld hX hSc 5 1576 rfl rfl (fun g1575 => ?_)
  refine V_aload_n hX (j := 0) (hj := rfl) 6 1577 rfl rfl ?_
  refine V_iload hX (j := 5) (hj := rfl) 7 1579 rfl rfl ?_
  refine V_iconst hX (v := 2) (hv := by decide) 8 1580 rfl rfl ?_
  refine V_iadd hX 9 1581 rfl rfl ?_
  refine V_sld hX hSc 10 1582 rfl rfl (fun g1581 => ?_)
  refine V_aload_n hX (j := 0) (hj := rfl) 11 1583 rfl rfl ?_
  refine V_iload hX (j := 5) (hj := rfl) 12 1585 rfl rfl ?_
  refine V_iconst hX (v := 3) (hv := by decide) 13 1586 rfl rfl ?_
  refine V_iadd hX 14 1587 rfl rfl ?_
  refine V_sld hX hSc 15 1588 rfl rfl (fun g1587 => ?_)
  refine V_aload_n hX (j := 3) (hj := rfl) 16 1589 rfl rfl ?_
  refine V_callI hX 1592 (c9 + 3) (s9 + 18) rfl rfl rfl (by omega) (by omega) (VR_SX hX 17 (ct_La_windowMaximum (cx_t hX) K (xs (v5 + 1).toNatClampNeg) (xs (v5 + 2).toNatClampNeg) (xs (v5 + 3).toNatClampNeg) M) myw_La_windowMaximum mt_La_windowMaximum ml_La_261 (Nat.le_of_ble_eq_true rfl) (Nat.le_of_ble_eq_true rfl) rfl rfl (Nat.le_of_ble_eq_true rfl) rfl (by omega) (by omega)) (fun r1589 M1589 => ?_)
  refine V_istore hX 18 1594 [(6, .int r1589), (0, .ref b), (1, .ref (kA K 0)), (2, .ref (kA K 32)), (3, .ref (kA K 45)), (4, .ref (kA K 46)), (5, .int v5)] rfl rfl (Nat.le_of_ble_eq_true rfl) rfl ?_
  refine V_aload_n hX (j := 3) (hj := rfl) 19 1595 rfl rfl ?_
  refine V_aload_n hX (j := 1) (hj := rfl) 20 1596 rfl rfl ?_
  refine V_iload hX (j := 6) (hj := rfl) 21 1598 rfl rfl ?_
  refine V_iconst hX (v := 1) (hv := by decide) 22 1599 rfl rfl ?_
  refine V_iadd hX 23 1600 rfl rfl ?_
  refine V_sld hX hSc 24 1601 rfl rfl (fun g1600 => ?_)
  refine V_aload_n hX (j := 1) (hj := rfl) 25 1602 rfl rfl ?_
  refine V_iload hX (j := 6) (hj := rfl) 26 1604 rfl rfl ?_
  refine V_iconst hX (v := 2) (hv := by decide) 27 1605 rfl rfl ?_
  refine V_iadd hX 28 1606 rfl rfl ?_
  refine V_sld hX hSc 29 1607 rfl rfl (fun g1606 => ?_)
  refine V_aload_n hX (j := 1) (hj := rfl) 30 1608 rfl rfl ?_
  refine V_iload hX (j := 6) (hj := rfl) 31 1610 rfl rfl ?_
  refine V_iconst hX (v := 3) (hv := by decide) 32 1611 rfl rfl ?_
  refine V_iadd hX 33 1612 rfl rfl ?_
  refine V_sld hX hSc 34 1613 rfl rfl (fun g1612 => ?_)
  refine V_callI hX 1616 (c9 + 3) (s9 + 18) rfl rfl rfl (by omega) (by omega) (VR_V hX 35 (ct_Mo_windowMaximum (cx_t hX) K (xs (v5 + 1).toNatClampNeg) (xs (v5 + 2).toNatClampNeg) (xs (v5 + 3).toNatClampNeg) M1589) my_Mo_windowMaximum mi_Mo_windowMaximum ms_Mo_windowMaximum ml_La_263 (Nat.le_of_ble_eq_true rfl) (Nat.le_of_ble_eq_true rfl) (by decide) (ent_32 K _) rfl rfl rfl (Nat.le_of_ble_eq_true rfl) rfl (by omega) (by omega)) (fun r1613 M1613 => ?_)
  refine V_istore hX 36 1618 [(7, .int r1613), (6, .int r1589), (0, .ref b), (1, .ref (kA K 0)), (2, .ref (kA K 32)), (3, .ref (kA K 45)), (4, .ref (kA K 46)), (5, .int v5)] rfl rfl (Nat.le_of_ble_eq_true rfl) rfl ?_
  refine V_aload_n hX (j := 4) (hj := rfl) 37 1619 rfl rfl ?_
  refine V_callI hX 1622 (c9 + 3) (s9 + 18) rfl rfl rfl (by omega) (by omega) (VR_V hX 38 (ct_Mo_thrown (cx_t hX) K M1613) my_Mo_thrown mi_Mo_thrown ms_Mo_thrown ml_La_204 (Nat.le_of_ble_eq_true rfl) (Nat.le_of_ble_eq_true rfl) (by decide) (ent_32 K _) rfl rfl rfl (Nat.le_of_ble_eq_true rfl) rfl (by omega) (by omega)) (fun r1619 M1619 => ?_)
  refine V_iload hX (j := 1) (hj := rfl) 39 1624 rfl rfl ?_
  refine V_icmp_eq hX 40 1627 1629 rfl rfl (by decide) (fun c1624 => ?_) (fun c1624 => ?_)
  · refine V_iload hX (j := 1) (hj := rfl) 43 1631 rfl rfl ?_
    refine V_if_ne hX 44 1634 1646 rfl rfl (by decide) (fun c1631 => ?_) (fun c1631 => ?_)
    · refine VV_sub [2, 3, 4, 5, 6, 7] rfl ?_
      exact bt_La_law_1646 hX hSc k28 v5 c9 s9 hk28 (by omega) (by omega) M1619
    · refine V_aload_n hX (j := 5) (hj := rfl) 45 1635 rfl rfl ?_
      refine V_iconst hX (v := 0) (hv := by decide) 46 1636 rfl rfl ?_
      refine V_lald hX 47 1637 rfl rfl ?_
      refine V_iload hX (j := 0) (hj := rfl) 48 1639 rfl rfl ?_
      refine V_i2l hX 49 1640 rfl rfl ?_
      refine V_lcmp hX 50 1641 rfl rfl ?_
      refine V_if_eq hX 51 1644 1646 rfl rfl (by decide) (fun c1641 => ?_) (fun c1641 => ?_)
      · refine VV_sub [2, 3, 4, 5, 6, 7] rfl ?_
        exact bt_La_law_1646 hX hSc k28 v5 c9 s9 hk28 (by omega) (by omega) M1619
      · refine V_iconst hX (v := 0) (hv := by decide) 52 1645 rfl rfl ?_
        exact V_zret hX 53 rfl rfl (by omega) (by omega) rfl
  · refine V_iconst hX (v := 0) (hv := by decide) 41 1628 rfl rfl ?_
    exact V_zret hX 42 rfl rfl (by omega) (by omega) rfl
set_option maxRecDepth 20000 in
theorem bt_La_law_1726 {l : Launch} {K : KT} {X : XT} (hX : Cx l K 1500 9 603072 7194729 X code "SeriesArchiveLaw" (some .boolean) [] L_La_law_1649) {b sl : Nat} {xs : Nat → Int32} (hSc : SC K X b sl xs) (k28 : Int32 → Mm → Rs Int32) (v5 : Int32) (c9 s9 : Nat) (hk28 : ∀ (v5 : Int32) M, VV l K 1500 9 603072 7194729 rvI X (k28 v5 M) (c9 + 85) (s9 + 11934) M 28 [(0, .ref b), (1, .ref (kA K 0)), (2, .ref (kA K 32)), (3, .ref (kA K 45)), (4, .ref (kA K 46)), (5, .int v5)] []) (hc9 : c9 + 85 ≤ 603072) (hs9 : s9 + 11934 ≤ 7194729) (M : Mm) : VV l K 1500 9 603072 7194729 rvI X (fn_La_law_1726 xs sl k28 v5 M) (c9 + 3) (s9 + 18) M 1726 [(0, .ref b), (1, .ref (kA K 0)), (2, .ref (kA K 32)), (3, .ref (kA K 45)), (4, .ref (kA K 46)), (5, .int v5)] [] := by
  unfold fn_La_law_1726
  refine V_goto hX 54 3926 rfl (by decide) ?_
  refine VV_wd (c9 + 85) (s9 + 11934) (by omega) (by omega) ?_
  exact bt_La_law_3926 (cx_L hX dec_La_law_3923) hSc k28 v5 c9 s9 hk28 (by omega) (by omega) M
set_option maxRecDepth 20000 in
theorem bt_La_law_1649 {l : Launch} {K : KT} {X : XT} (hX : Cx l K 1500 9 603072 7194729 X code "SeriesArchiveLaw" (some .boolean) [] L_La_law_1649) {b sl : Nat} {xs : Nat → Int32} (hSc : SC K X b sl xs) (k28 : Int32 → Mm → Rs Int32) (v5 : Int32) (c9 s9 : Nat) (hk28 : ∀ (v5 : Int32) M, VV l K 1500 9 603072 7194729 rvI X (k28 v5 M) (c9 + 85) (s9 + 11934) M 28 [(0, .ref b), (1, .ref (kA K 0)), (2, .ref (kA K 32)), (3, .ref (kA K 45)), (4, .ref (kA K 46)), (5, .int v5)] []) (hc9 : c9 + 85 ≤ 603072) (hs9 : s9 + 11934 ≤ 7194729) (M : Mm) : VV l K 1500 9 603072 7194729 rvI X (fn_La_law_1649 xs sl k28 v5 M) (c9 + 0) (s9 + 0) M 1649 [(0, .ref b), (1, .ref (kA K 0)), (2, .ref (kA K 32)), (3, .ref (kA K 45)), (4, .ref (kA K 46)), (5, .int v5)] [] := by
  unfold fn_La_law_1649
  refine V_aload_n hX (j := 1) (hj := rfl) 0 1650 rfl rfl ?_
  refine V_aload_n hX (j := 0) (hj := rfl) 1 1651 rfl rfl ?_
  refine V_iload hX (j := 5) (hj := rfl) 2 1653 rfl rfl ?_
  refine V_iconst hX (v := 1) (hv := by decide) 3 1654 rfl rfl ?_
  refine V_iadd hX 4 1655 rfl rfl ?_
  refine V_sld hX hSc 5 1656 rfl rfl (fun g1655 => ?_)
  refine V_aload_n hX (j := 0) (hj := rfl) 6 1657 rfl rfl ?_
  refine V_iload hX (j := 5) (hj := rfl) 7 1659 rfl rfl ?_
  refine V_iconst hX (v := 2) (hv := by decide) 8 1660 rfl rfl ?_
  refine V_iadd hX 9 1661 rfl rfl ?_
  refine V_sld hX hSc 10 1662 rfl rfl (fun g1661 => ?_)
  refine V_aload_n hX (j := 0) (hj := rfl) 11 1663 rfl rfl ?_
  refine V_iload hX (j := 5) (hj := rfl) 12 1665 rfl rfl ?_
  refine V_iconst hX (v := 3) (hv := by decide) 13 1666 rfl rfl ?_
  refine V_iadd hX 14 1667 rfl rfl ?_
  refine V_sld hX hSc 15 1668 rfl rfl (fun g1667 => ?_)
  refine V_aload_n hX (j := 3) (hj := rfl) 16 1669 rfl rfl ?_
  refine V_callI hX 1672 (c9 + 3) (s9 + 18) rfl rfl rfl (by omega) (by omega) (VR_SX hX 17 (ct_La_windowMaximumByScan (cx_t hX) K (xs (v5 + 1).toNatClampNeg) (xs (v5 + 2).toNatClampNeg) (xs (v5 + 3).toNatClampNeg) M) myw_La_windowMaximumByScan mt_La_windowMaximumByScan ml_La_264 (Nat.le_of_ble_eq_true rfl) (Nat.le_of_ble_eq_true rfl) rfl rfl (Nat.le_of_ble_eq_true rfl) rfl (by omega) (by omega)) (fun r1669 M1669 => ?_)
  refine V_istore hX 18 1674 [(6, .int r1669), (0, .ref b), (1, .ref (kA K 0)), (2, .ref (kA K 32)), (3, .ref (kA K 45)), (4, .ref (kA K 46)), (5, .int v5)] rfl rfl (Nat.le_of_ble_eq_true rfl) rfl ?_
  refine V_aload_n hX (j := 3) (hj := rfl) 19 1675 rfl rfl ?_
  refine V_aload_n hX (j := 1) (hj := rfl) 20 1676 rfl rfl ?_
  refine V_iload hX (j := 6) (hj := rfl) 21 1678 rfl rfl ?_
  refine V_iconst hX (v := 1) (hv := by decide) 22 1679 rfl rfl ?_
  refine V_iadd hX 23 1680 rfl rfl ?_
  refine V_sld hX hSc 24 1681 rfl rfl (fun g1680 => ?_)
  refine V_aload_n hX (j := 1) (hj := rfl) 25 1682 rfl rfl ?_
  refine V_iload hX (j := 6) (hj := rfl) 26 1684 rfl rfl ?_
  refine V_iconst hX (v := 2) (hv := by decide) 27 1685 rfl rfl ?_
  refine V_iadd hX 28 1686 rfl rfl ?_
  refine V_sld hX hSc 29 1687 rfl rfl (fun g1686 => ?_)
  refine V_aload_n hX (j := 1) (hj := rfl) 30 1688 rfl rfl ?_
  refine V_iload hX (j := 6) (hj := rfl) 31 1690 rfl rfl ?_
  refine V_iconst hX (v := 3) (hv := by decide) 32 1691 rfl rfl ?_
  refine V_iadd hX 33 1692 rfl rfl ?_
  refine V_sld hX hSc 34 1693 rfl rfl (fun g1692 => ?_)
  refine V_callI hX 1696 (c9 + 3) (s9 + 18) rfl rfl rfl (by omega) (by omega) (VR_V hX 35 (ct_Mo_windowMaximumByScan (cx_t hX) K (xs (v5 + 1).toNatClampNeg) (xs (v5 + 2).toNatClampNeg) (xs (v5 + 3).toNatClampNeg) M1669) my_Mo_windowMaximumByScan mi_Mo_windowMaximumByScan ms_Mo_windowMaximumByScan ml_La_266 (Nat.le_of_ble_eq_true rfl) (Nat.le_of_ble_eq_true rfl) (by decide) (ent_32 K _) rfl rfl rfl (Nat.le_of_ble_eq_true rfl) rfl (by omega) (by omega)) (fun r1693 M1693 => ?_)
  refine V_istore hX 36 1698 [(7, .int r1693), (6, .int r1669), (0, .ref b), (1, .ref (kA K 0)), (2, .ref (kA K 32)), (3, .ref (kA K 45)), (4, .ref (kA K 46)), (5, .int v5)] rfl rfl (Nat.le_of_ble_eq_true rfl) rfl ?_
  refine V_aload_n hX (j := 4) (hj := rfl) 37 1699 rfl rfl ?_
  refine V_callI hX 1702 (c9 + 3) (s9 + 18) rfl rfl rfl (by omega) (by omega) (VR_V hX 38 (ct_Mo_thrown (cx_t hX) K M1693) my_Mo_thrown mi_Mo_thrown ms_Mo_thrown ml_La_204 (Nat.le_of_ble_eq_true rfl) (Nat.le_of_ble_eq_true rfl) (by decide) (ent_32 K _) rfl rfl rfl (Nat.le_of_ble_eq_true rfl) rfl (by omega) (by omega)) (fun r1699 M1699 => ?_)
  refine V_iload hX (j := 1) (hj := rfl) 39 1704 rfl rfl ?_
  refine V_icmp_eq hX 40 1707 1709 rfl rfl (by decide) (fun c1704 => ?_) (fun c1704 => ?_)
  · refine V_iload hX (j := 1) (hj := rfl) 43 1711 rfl rfl ?_
    refine V_if_ne hX 44 1714 1726 rfl rfl (by decide) (fun c1711 => ?_) (fun c1711 => ?_)
    · refine VV_sub [2, 3, 4, 5, 6, 7] rfl ?_
      exact bt_La_law_1726 hX hSc k28 v5 c9 s9 hk28 (by omega) (by omega) M1699
    · refine V_aload_n hX (j := 5) (hj := rfl) 45 1715 rfl rfl ?_
      refine V_iconst hX (v := 0) (hv := by decide) 46 1716 rfl rfl ?_
      refine V_lald hX 47 1717 rfl rfl ?_
      refine V_iload hX (j := 0) (hj := rfl) 48 1719 rfl rfl ?_
      refine V_i2l hX 49 1720 rfl rfl ?_
      refine V_lcmp hX 50 1721 rfl rfl ?_
      refine V_if_eq hX 51 1724 1726 rfl rfl (by decide) (fun c1721 => ?_) (fun c1721 => ?_)
      · refine VV_sub [2, 3, 4, 5, 6, 7] rfl ?_
        exact bt_La_law_1726 hX hSc k28 v5 c9 s9 hk28 (by omega) (by omega) M1699
      · refine V_iconst hX (v := 0) (hv := by decide) 52 1725 rfl rfl ?_
        exact V_zret hX 53 rfl rfl (by omega) (by omega) rfl
  · refine V_iconst hX (v := 0) (hv := by decide) 41 1708 rfl rfl ?_
    exact V_zret hX 42 rfl rfl (by omega) (by omega) rfl
set_option maxRecDepth 20000 in
theorem bt_La_law_1794 {l : Launch} {K : KT} {X : XT} (hX : Cx l K 1500 9 603072 7194729 X code "SeriesArchiveLaw" (some .boolean) [] L_La_law_1729) {b sl : Nat} {xs : Nat → Int32} (hSc : SC K X b sl xs) (k28 : Int32 → Mm → Rs Int32) (v5 : Int32) (c9 s9 : Nat) (hk28 : ∀ (v5 : Int32) M, VV l K 1500 9 603072 7194729 rvI X (k28 v5 M) (c9 + 85) (s9 + 11934) M 28 [(0, .ref b), (1, .ref (kA K 0)), (2, .ref (kA K 32)), (3, .ref (kA K 45)), (4, .ref (kA K 46)), (5, .int v5)] []) (hc9 : c9 + 85 ≤ 603072) (hs9 : s9 + 11934 ≤ 7194729) (M : Mm) : VV l K 1500 9 603072 7194729 rvI X (fn_La_law_1794 xs sl k28 v5 M) (c9 + 3) (s9 + 18) M 1794 [(0, .ref b), (1, .ref (kA K 0)), (2, .ref (kA K 32)), (3, .ref (kA K 45)), (4, .ref (kA K 46)), (5, .int v5)] [] := by
  unfold fn_La_law_1794
  refine V_goto hX 44 3926 rfl (by decide) ?_
  refine VV_wd (c9 + 85) (s9 + 11934) (by omega) (by omega) ?_
  exact bt_La_law_3926 (cx_L hX dec_La_law_3923) hSc k28 v5 c9 s9 hk28 (by omega) (by omega) M
set_option maxRecDepth 20000 in
theorem bt_La_law_1729 {l : Launch} {K : KT} {X : XT} (hX : Cx l K 1500 9 603072 7194729 X code "SeriesArchiveLaw" (some .boolean) [] L_La_law_1729) {b sl : Nat} {xs : Nat → Int32} (hSc : SC K X b sl xs) (k28 : Int32 → Mm → Rs Int32) (v5 : Int32) (c9 s9 : Nat) (hk28 : ∀ (v5 : Int32) M, VV l K 1500 9 603072 7194729 rvI X (k28 v5 M) (c9 + 85) (s9 + 11934) M 28 [(0, .ref b), (1, .ref (kA K 0)), (2, .ref (kA K 32)), (3, .ref (kA K 45)), (4, .ref (kA K 46)), (5, .int v5)] []) (hc9 : c9 + 85 ≤ 603072) (hs9 : s9 + 11934 ≤ 7194729) (M : Mm) : VV l K 1500 9 603072 7194729 rvI X (fn_La_law_1729 xs sl k28 v5 M) (c9 + 0) (s9 + 0) M 1729 [(0, .ref b), (1, .ref (kA K 0)), (2, .ref (kA K 32)), (3, .ref (kA K 45)), (4, .ref (kA K 46)), (5, .int v5)] [] := by
  unfold fn_La_law_1729
  refine V_aload_n hX (j := 1) (hj := rfl) 0 1730 rfl rfl ?_
  refine V_aload_n hX (j := 0) (hj := rfl) 1 1731 rfl rfl ?_
  refine V_iload hX (j := 5) (hj := rfl) 2 1733 rfl rfl ?_
  refine V_iconst hX (v := 1) (hv := by decide) 3 1734 rfl rfl ?_
  refine V_iadd hX 4 1735 rfl rfl ?_
  refine V_sld hX hSc 5 1736 rfl rfl (fun g1735 => ?_)
  refine V_aload_n hX (j := 0) (hj := rfl) 6 1737 rfl rfl ?_
  refine V_iload hX (j := 5) (hj := rfl) 7 1739 rfl rfl ?_
  refine V_iconst hX (v := 2) (hv := by decide) 8 1740 rfl rfl ?_
  refine V_iadd hX 9 1741 rfl rfl ?_
  refine V_sld hX hSc 10 1742 rfl rfl (fun g1741 => ?_)
  refine V_aload_n hX (j := 3) (hj := rfl) 11 1743 rfl rfl ?_
  refine V_callI hX 1746 (c9 + 3) (s9 + 18) rfl rfl rfl (by omega) (by omega) (VR_SX hX 12 (ct_La_nextGreater (cx_t hX) K (xs (v5 + 1).toNatClampNeg) (xs (v5 + 2).toNatClampNeg) M) myw_La_nextGreater mt_La_nextGreater ml_La_267 (Nat.le_of_ble_eq_true rfl) (Nat.le_of_ble_eq_true rfl) rfl rfl (Nat.le_of_ble_eq_true rfl) rfl (by omega) (by omega)) (fun r1743 M1743 => ?_)
  refine V_istore hX 13 1748 [(6, .int r1743), (0, .ref b), (1, .ref (kA K 0)), (2, .ref (kA K 32)), (3, .ref (kA K 45)), (4, .ref (kA K 46)), (5, .int v5)] rfl rfl (Nat.le_of_ble_eq_true rfl) rfl ?_
  refine V_aload_n hX (j := 3) (hj := rfl) 14 1749 rfl rfl ?_
  refine V_aload_n hX (j := 1) (hj := rfl) 15 1750 rfl rfl ?_
  refine V_iload hX (j := 6) (hj := rfl) 16 1752 rfl rfl ?_
  refine V_iconst hX (v := 1) (hv := by decide) 17 1753 rfl rfl ?_
  refine V_iadd hX 18 1754 rfl rfl ?_
  refine V_sld hX hSc 19 1755 rfl rfl (fun g1754 => ?_)
  refine V_aload_n hX (j := 1) (hj := rfl) 20 1756 rfl rfl ?_
  refine V_iload hX (j := 6) (hj := rfl) 21 1758 rfl rfl ?_
  refine V_iconst hX (v := 2) (hv := by decide) 22 1759 rfl rfl ?_
  refine V_iadd hX 23 1760 rfl rfl ?_
  refine V_sld hX hSc 24 1761 rfl rfl (fun g1760 => ?_)
  refine V_callI hX 1764 (c9 + 3) (s9 + 18) rfl rfl rfl (by omega) (by omega) (VR_V hX 25 (ct_Mo_nextGreater (cx_t hX) K (xs (v5 + 1).toNatClampNeg) (xs (v5 + 2).toNatClampNeg) M1743) my_Mo_nextGreater mi_Mo_nextGreater ms_Mo_nextGreater ml_La_269 (Nat.le_of_ble_eq_true rfl) (Nat.le_of_ble_eq_true rfl) (by decide) (ent_32 K _) rfl rfl rfl (Nat.le_of_ble_eq_true rfl) rfl (by omega) (by omega)) (fun r1761 M1761 => ?_)
  refine V_istore hX 26 1766 [(7, .int r1761), (6, .int r1743), (0, .ref b), (1, .ref (kA K 0)), (2, .ref (kA K 32)), (3, .ref (kA K 45)), (4, .ref (kA K 46)), (5, .int v5)] rfl rfl (Nat.le_of_ble_eq_true rfl) rfl ?_
  refine V_aload_n hX (j := 4) (hj := rfl) 27 1767 rfl rfl ?_
  refine V_callI hX 1770 (c9 + 3) (s9 + 18) rfl rfl rfl (by omega) (by omega) (VR_V hX 28 (ct_Mo_thrown (cx_t hX) K M1761) my_Mo_thrown mi_Mo_thrown ms_Mo_thrown ml_La_204 (Nat.le_of_ble_eq_true rfl) (Nat.le_of_ble_eq_true rfl) (by decide) (ent_32 K _) rfl rfl rfl (Nat.le_of_ble_eq_true rfl) rfl (by omega) (by omega)) (fun r1767 M1767 => ?_)
  refine V_iload hX (j := 1) (hj := rfl) 29 1772 rfl rfl ?_
  refine V_icmp_eq hX 30 1775 1777 rfl rfl (by decide) (fun c1772 => ?_) (fun c1772 => ?_)
  · refine V_iload hX (j := 1) (hj := rfl) 33 1779 rfl rfl ?_
    refine V_if_ne hX 34 1782 1794 rfl rfl (by decide) (fun c1779 => ?_) (fun c1779 => ?_)
    · refine VV_sub [2, 3, 4, 5, 6, 7] rfl ?_
      exact bt_La_law_1794 hX hSc k28 v5 c9 s9 hk28 (by omega) (by omega) M1767
    · refine V_aload_n hX (j := 5) (hj := rfl) 35 1783 rfl rfl ?_
      refine V_iconst hX (v := 0) (hv := by decide) 36 1784 rfl rfl ?_
      refine V_lald hX 37 1785 rfl rfl ?_
      refine V_iload hX (j := 0) (hj := rfl) 38 1787 rfl rfl ?_
      refine V_i2l hX 39 1788 rfl rfl ?_
      refine V_lcmp hX 40 1789 rfl rfl ?_
      refine V_if_eq hX 41 1792 1794 rfl rfl (by decide) (fun c1789 => ?_) (fun c1789 => ?_)
      · refine VV_sub [2, 3, 4, 5, 6, 7] rfl ?_
        exact bt_La_law_1794 hX hSc k28 v5 c9 s9 hk28 (by omega) (by omega) M1767
      · refine V_iconst hX (v := 0) (hv := by decide) 42 1793 rfl rfl ?_
        exact V_zret hX 43 rfl rfl (by omega) (by omega) rfl
  · refine V_iconst hX (v := 0) (hv := by decide) 31 1776 rfl rfl ?_
    exact V_zret hX 32 rfl rfl (by omega) (by omega) rfl
set_option maxRecDepth 20000 in
theorem bt_La_law_1862 {l : Launch} {K : KT} {X : XT} (hX : Cx l K 1500 9 603072 7194729 X code "SeriesArchiveLaw" (some .boolean) [] L_La_law_1797) {b sl : Nat} {xs : Nat → Int32} (hSc : SC K X b sl xs) (k28 : Int32 → Mm → Rs Int32) (v5 : Int32) (c9 s9 : Nat) (hk28 : ∀ (v5 : Int32) M, VV l K 1500 9 603072 7194729 rvI X (k28 v5 M) (c9 + 85) (s9 + 11934) M 28 [(0, .ref b), (1, .ref (kA K 0)), (2, .ref (kA K 32)), (3, .ref (kA K 45)), (4, .ref (kA K 46)), (5, .int v5)] []) (hc9 : c9 + 85 ≤ 603072) (hs9 : s9 + 11934 ≤ 7194729) (M : Mm) : VV l K 1500 9 603072 7194729 rvI X (fn_La_law_1862 xs sl k28 v5 M) (c9 + 3) (s9 + 18) M 1862 [(0, .ref b), (1, .ref (kA K 0)), (2, .ref (kA K 32)), (3, .ref (kA K 45)), (4, .ref (kA K 46)), (5, .int v5)] [] := by
  unfold fn_La_law_1862
  refine V_goto hX 44 3926 rfl (by decide) ?_
  refine VV_wd (c9 + 85) (s9 + 11934) (by omega) (by omega) ?_
  exact bt_La_law_3926 (cx_L hX dec_La_law_3923) hSc k28 v5 c9 s9 hk28 (by omega) (by omega) M
set_option maxRecDepth 20000 in
theorem bt_La_law_1797 {l : Launch} {K : KT} {X : XT} (hX : Cx l K 1500 9 603072 7194729 X code "SeriesArchiveLaw" (some .boolean) [] L_La_law_1797) {b sl : Nat} {xs : Nat → Int32} (hSc : SC K X b sl xs) (k28 : Int32 → Mm → Rs Int32) (v5 : Int32) (c9 s9 : Nat) (hk28 : ∀ (v5 : Int32) M, VV l K 1500 9 603072 7194729 rvI X (k28 v5 M) (c9 + 85) (s9 + 11934) M 28 [(0, .ref b), (1, .ref (kA K 0)), (2, .ref (kA K 32)), (3, .ref (kA K 45)), (4, .ref (kA K 46)), (5, .int v5)] []) (hc9 : c9 + 85 ≤ 603072) (hs9 : s9 + 11934 ≤ 7194729) (M : Mm) : VV l K 1500 9 603072 7194729 rvI X (fn_La_law_1797 xs sl k28 v5 M) (c9 + 0) (s9 + 0) M 1797 [(0, .ref b), (1, .ref (kA K 0)), (2, .ref (kA K 32)), (3, .ref (kA K 45)), (4, .ref (kA K 46)), (5, .int v5)] [] := by
  unfold fn_La_law_1797
  refine V_aload_n hX (j := 1) (hj := rfl) 0 1798 rfl rfl ?_
  refine V_aload_n hX (j := 0) (hj := rfl) 1 1799 rfl rfl ?_
  refine V_iload hX (j := 5) (hj := rfl) 2 1801 rfl rfl ?_
  refine V_iconst hX (v := 1) (hv := by decide) 3 1802 rfl rfl ?_
  refine V_iadd hX 4 1803 rfl rfl ?_
  refine V_sld hX hSc 5 1804 rfl rfl (fun g1803 => ?_)
  refine V_aload_n hX (j := 0) (hj := rfl) 6 1805 rfl rfl ?_
  refine V_iload hX (j := 5) (hj := rfl) 7 1807 rfl rfl ?_
  refine V_iconst hX (v := 2) (hv := by decide) 8 1808 rfl rfl ?_
  refine V_iadd hX 9 1809 rfl rfl ?_
  refine V_sld hX hSc 10 1810 rfl rfl (fun g1809 => ?_)
  refine V_aload_n hX (j := 3) (hj := rfl) 11 1811 rfl rfl ?_
  refine V_callI hX 1814 (c9 + 3) (s9 + 18) rfl rfl rfl (by omega) (by omega) (VR_SX hX 12 (ct_La_nextGreaterByScan (cx_t hX) K (xs (v5 + 1).toNatClampNeg) (xs (v5 + 2).toNatClampNeg) M) myw_La_nextGreaterByScan mt_La_nextGreaterByScan ml_La_270 (Nat.le_of_ble_eq_true rfl) (Nat.le_of_ble_eq_true rfl) rfl rfl (Nat.le_of_ble_eq_true rfl) rfl (by omega) (by omega)) (fun r1811 M1811 => ?_)
  refine V_istore hX 13 1816 [(6, .int r1811), (0, .ref b), (1, .ref (kA K 0)), (2, .ref (kA K 32)), (3, .ref (kA K 45)), (4, .ref (kA K 46)), (5, .int v5)] rfl rfl (Nat.le_of_ble_eq_true rfl) rfl ?_
  refine V_aload_n hX (j := 3) (hj := rfl) 14 1817 rfl rfl ?_
  refine V_aload_n hX (j := 1) (hj := rfl) 15 1818 rfl rfl ?_
  refine V_iload hX (j := 6) (hj := rfl) 16 1820 rfl rfl ?_
  refine V_iconst hX (v := 1) (hv := by decide) 17 1821 rfl rfl ?_
  refine V_iadd hX 18 1822 rfl rfl ?_
  refine V_sld hX hSc 19 1823 rfl rfl (fun g1822 => ?_)
  refine V_aload_n hX (j := 1) (hj := rfl) 20 1824 rfl rfl ?_
  refine V_iload hX (j := 6) (hj := rfl) 21 1826 rfl rfl ?_
  refine V_iconst hX (v := 2) (hv := by decide) 22 1827 rfl rfl ?_
  refine V_iadd hX 23 1828 rfl rfl ?_
  refine V_sld hX hSc 24 1829 rfl rfl (fun g1828 => ?_)
  refine V_callI hX 1832 (c9 + 3) (s9 + 18) rfl rfl rfl (by omega) (by omega) (VR_V hX 25 (ct_Mo_nextGreaterByScan (cx_t hX) K (xs (v5 + 1).toNatClampNeg) (xs (v5 + 2).toNatClampNeg) M1811) my_Mo_nextGreaterByScan mi_Mo_nextGreaterByScan ms_Mo_nextGreaterByScan ml_La_272 (Nat.le_of_ble_eq_true rfl) (Nat.le_of_ble_eq_true rfl) (by decide) (ent_32 K _) rfl rfl rfl (Nat.le_of_ble_eq_true rfl) rfl (by omega) (by omega)) (fun r1829 M1829 => ?_)
  refine V_istore hX 26 1834 [(7, .int r1829), (6, .int r1811), (0, .ref b), (1, .ref (kA K 0)), (2, .ref (kA K 32)), (3, .ref (kA K 45)), (4, .ref (kA K 46)), (5, .int v5)] rfl rfl (Nat.le_of_ble_eq_true rfl) rfl ?_
  refine V_aload_n hX (j := 4) (hj := rfl) 27 1835 rfl rfl ?_
  refine V_callI hX 1838 (c9 + 3) (s9 + 18) rfl rfl rfl (by omega) (by omega) (VR_V hX 28 (ct_Mo_thrown (cx_t hX) K M1829) my_Mo_thrown mi_Mo_thrown ms_Mo_thrown ml_La_204 (Nat.le_of_ble_eq_true rfl) (Nat.le_of_ble_eq_true rfl) (by decide) (ent_32 K _) rfl rfl rfl (Nat.le_of_ble_eq_true rfl) rfl (by omega) (by omega)) (fun r1835 M1835 => ?_)
  refine V_iload hX (j := 1) (hj := rfl) 29 1840 rfl rfl ?_
  refine V_icmp_eq hX 30 1843 1845 rfl rfl (by decide) (fun c1840 => ?_) (fun c1840 => ?_)
  · refine V_iload hX (j := 1) (hj := rfl) 33 1847 rfl rfl ?_
    refine V_if_ne hX 34 1850 1862 rfl rfl (by decide) (fun c1847 => ?_) (fun c1847 => ?_)
    · refine VV_sub [2, 3, 4, 5, 6, 7] rfl ?_
      exact bt_La_law_1862 hX hSc k28 v5 c9 s9 hk28 (by omega) (by omega) M1835
    · refine V_aload_n hX (j := 5) (hj := rfl) 35 1851 rfl rfl ?_
      refine V_iconst hX (v := 0) (hv := by decide) 36 1852 rfl rfl ?_
      refine V_lald hX 37 1853 rfl rfl ?_
      refine V_iload hX (j := 0) (hj := rfl) 38 1855 rfl rfl ?_
      refine V_i2l hX 39 1856 rfl rfl ?_
      refine V_lcmp hX 40 1857 rfl rfl ?_
      refine V_if_eq hX 41 1860 1862 rfl rfl (by decide) (fun c1857 => ?_) (fun c1857 => ?_)
      · refine VV_sub [2, 3, 4, 5, 6, 7] rfl ?_
        exact bt_La_law_1862 hX hSc k28 v5 c9 s9 hk28 (by omega) (by omega) M1835
      · refine V_iconst hX (v := 0) (hv := by decide) 42 1861 rfl rfl ?_
        exact V_zret hX 43 rfl rfl (by omega) (by omega) rfl
  · refine V_iconst hX (v := 0) (hv := by decide) 31 1844 rfl rfl ?_
    exact V_zret hX 32 rfl rfl (by omega) (by omega) rfl
set_option maxRecDepth 20000 in
theorem bt_La_law_1918 {l : Launch} {K : KT} {X : XT} (hX : Cx l K 1500 9 603072 7194729 X code "SeriesArchiveLaw" (some .boolean) [] L_La_law_1865) {b sl : Nat} {xs : Nat → Int32} (hSc : SC K X b sl xs) (k28 : Int32 → Mm → Rs Int32) (v5 : Int32) (c9 s9 : Nat) (hk28 : ∀ (v5 : Int32) M, VV l K 1500 9 603072 7194729 rvI X (k28 v5 M) (c9 + 85) (s9 + 11934) M 28 [(0, .ref b), (1, .ref (kA K 0)), (2, .ref (kA K 32)), (3, .ref (kA K 45)), (4, .ref (kA K 46)), (5, .int v5)] []) (hc9 : c9 + 85 ≤ 603072) (hs9 : s9 + 11934 ≤ 7194729) (M : Mm) : VV l K 1500 9 603072 7194729 rvI X (fn_La_law_1918 xs sl k28 v5 M) (c9 + 1) (s9 + 6) M 1918 [(0, .ref b), (1, .ref (kA K 0)), (2, .ref (kA K 32)), (3, .ref (kA K 45)), (4, .ref (kA K 46)), (5, .int v5)] [] := by
  unfold fn_La_law_1918
  refine V_goto hX 34 3926 rfl (by decide) ?_
  refine VV_wd (c9 + 85) (s9 + 11934) (by omega) (by omega) ?_
  exact bt_La_law_3926 (cx_L hX dec_La_law_3923) hSc k28 v5 c9 s9 hk28 (by omega) (by omega) M
set_option maxRecDepth 20000 in
theorem bt_La_law_1865 {l : Launch} {K : KT} {X : XT} (hX : Cx l K 1500 9 603072 7194729 X code "SeriesArchiveLaw" (some .boolean) [] L_La_law_1865) {b sl : Nat} {xs : Nat → Int32} (hSc : SC K X b sl xs) (k28 : Int32 → Mm → Rs Int32) (v5 : Int32) (c9 s9 : Nat) (hk28 : ∀ (v5 : Int32) M, VV l K 1500 9 603072 7194729 rvI X (k28 v5 M) (c9 + 85) (s9 + 11934) M 28 [(0, .ref b), (1, .ref (kA K 0)), (2, .ref (kA K 32)), (3, .ref (kA K 45)), (4, .ref (kA K 46)), (5, .int v5)] []) (hc9 : c9 + 85 ≤ 603072) (hs9 : s9 + 11934 ≤ 7194729) (M : Mm) : VV l K 1500 9 603072 7194729 rvI X (fn_La_law_1865 xs sl k28 v5 M) (c9 + 0) (s9 + 0) M 1865 [(0, .ref b), (1, .ref (kA K 0)), (2, .ref (kA K 32)), (3, .ref (kA K 45)), (4, .ref (kA K 46)), (5, .int v5)] [] := by
  unfold fn_La_law_1865
  refine V_aload_n hX (j := 1) (hj := rfl) 0 1866 rfl rfl ?_
  refine V_aload_n hX (j := 0) (hj := rfl) 1 1867 rfl rfl ?_
  refine V_iload hX (j := 5) (hj := rfl) 2 1869 rfl rfl ?_
  refine V_iconst hX (v := 1) (hv := by decide) 3 1870 rfl rfl ?_
  refine V_iadd hX 4 1871 rfl rfl ?_
  refine V_sld hX hSc 5 1872 rfl rfl (fun g1871 => ?_)
  refine V_aload_n hX (j := 3) (hj := rfl) 6 1873 rfl rfl ?_
  refine V_callI hX 1876 (c9 + 1) (s9 + 6) rfl rfl rfl (by omega) (by omega) (VR_SX hX 7 (ct_La_peakCount (cx_t hX) K (xs (v5 + 1).toNatClampNeg) M) myw_La_peakCount mt_La_peakCount ml_La_273 (Nat.le_of_ble_eq_true rfl) (Nat.le_of_ble_eq_true rfl) rfl rfl (Nat.le_of_ble_eq_true rfl) rfl (by omega) (by omega)) (fun r1873 M1873 => ?_)
  refine V_istore hX 8 1878 [(6, .int r1873), (0, .ref b), (1, .ref (kA K 0)), (2, .ref (kA K 32)), (3, .ref (kA K 45)), (4, .ref (kA K 46)), (5, .int v5)] rfl rfl (Nat.le_of_ble_eq_true rfl) rfl ?_
  refine V_aload_n hX (j := 3) (hj := rfl) 9 1879 rfl rfl ?_
  refine V_aload_n hX (j := 1) (hj := rfl) 10 1880 rfl rfl ?_
  refine V_iload hX (j := 6) (hj := rfl) 11 1882 rfl rfl ?_
  refine V_iconst hX (v := 1) (hv := by decide) 12 1883 rfl rfl ?_
  refine V_iadd hX 13 1884 rfl rfl ?_
  refine V_sld hX hSc 14 1885 rfl rfl (fun g1884 => ?_)
  refine V_callI hX 1888 (c9 + 1) (s9 + 6) rfl rfl rfl (by omega) (by omega) (VR_V hX 15 (ct_Mo_peakCount (cx_t hX) K (xs (v5 + 1).toNatClampNeg) M1873) my_Mo_peakCount mi_Mo_peakCount ms_Mo_peakCount ml_La_275 (Nat.le_of_ble_eq_true rfl) (Nat.le_of_ble_eq_true rfl) (by decide) (ent_32 K _) rfl rfl rfl (Nat.le_of_ble_eq_true rfl) rfl (by omega) (by omega)) (fun r1885 M1885 => ?_)
  refine V_istore hX 16 1890 [(7, .int r1885), (6, .int r1873), (0, .ref b), (1, .ref (kA K 0)), (2, .ref (kA K 32)), (3, .ref (kA K 45)), (4, .ref (kA K 46)), (5, .int v5)] rfl rfl (Nat.le_of_ble_eq_true rfl) rfl ?_
  refine V_aload_n hX (j := 4) (hj := rfl) 17 1891 rfl rfl ?_
  refine V_callI hX 1894 (c9 + 1) (s9 + 6) rfl rfl rfl (by omega) (by omega) (VR_V hX 18 (ct_Mo_thrown (cx_t hX) K M1885) my_Mo_thrown mi_Mo_thrown ms_Mo_thrown ml_La_204 (Nat.le_of_ble_eq_true rfl) (Nat.le_of_ble_eq_true rfl) (by decide) (ent_32 K _) rfl rfl rfl (Nat.le_of_ble_eq_true rfl) rfl (by omega) (by omega)) (fun r1891 M1891 => ?_)
  refine V_iload hX (j := 1) (hj := rfl) 19 1896 rfl rfl ?_
  refine V_icmp_eq hX 20 1899 1901 rfl rfl (by decide) (fun c1896 => ?_) (fun c1896 => ?_)
  · refine V_iload hX (j := 1) (hj := rfl) 23 1903 rfl rfl ?_
    refine V_if_ne hX 24 1906 1918 rfl rfl (by decide) (fun c1903 => ?_) (fun c1903 => ?_)
    · refine VV_sub [2, 3, 4, 5, 6, 7] rfl ?_
      exact bt_La_law_1918 hX hSc k28 v5 c9 s9 hk28 (by omega) (by omega) M1891
    · refine V_aload_n hX (j := 5) (hj := rfl) 25 1907 rfl rfl ?_
      refine V_iconst hX (v := 0) (hv := by decide) 26 1908 rfl rfl ?_
      refine V_lald hX 27 1909 rfl rfl ?_
      refine V_iload hX (j := 0) (hj := rfl) 28 1911 rfl rfl ?_
      refine V_i2l hX 29 1912 rfl rfl ?_
      refine V_lcmp hX 30 1913 rfl rfl ?_
      refine V_if_eq hX 31 1916 1918 rfl rfl (by decide) (fun c1913 => ?_) (fun c1913 => ?_)
      · refine VV_sub [2, 3, 4, 5, 6, 7] rfl ?_
        exact bt_La_law_1918 hX hSc k28 v5 c9 s9 hk28 (by omega) (by omega) M1891
      · refine V_iconst hX (v := 0) (hv := by decide) 32 1917 rfl rfl ?_
        exact V_zret hX 33 rfl rfl (by omega) (by omega) rfl
  · refine V_iconst hX (v := 0) (hv := by decide) 21 1900 rfl rfl ?_
    exact V_zret hX 22 rfl rfl (by omega) (by omega) rfl
set_option maxRecDepth 20000 in
theorem bt_La_law_1993 {l : Launch} {K : KT} {X : XT} (hX : Cx l K 1500 9 603072 7194729 X code "SeriesArchiveLaw" (some .boolean) [] L_La_law_1921) {b sl : Nat} {xs : Nat → Int32} (hSc : SC K X b sl xs) (k28 : Int32 → Mm → Rs Int32) (v5 : Int32) (c9 s9 : Nat) (hk28 : ∀ (v5 : Int32) M, VV l K 1500 9 603072 7194729 rvI X (k28 v5 M) (c9 + 85) (s9 + 11934) M 28 [(0, .ref b), (1, .ref (kA K 0)), (2, .ref (kA K 32)), (3, .ref (kA K 45)), (4, .ref (kA K 46)), (5, .int v5)] []) (hc9 : c9 + 85 ≤ 603072) (hs9 : s9 + 11934 ≤ 7194729) (M : Mm) : VV l K 1500 9 603072 7194729 rvI X (fn_La_law_1993 xs sl k28 v5 M) (c9 + 2) (s9 + 12) M 1993 [(0, .ref b), (1, .ref (kA K 0)), (2, .ref (kA K 32)), (3, .ref (kA K 45)), (4, .ref (kA K 46)), (5, .int v5)] [] := by
  unfold fn_La_law_1993
  refine V_goto hX 47 3926 rfl (by decide) ?_
  refine VV_wd (c9 + 85) (s9 + 11934) (by omega) (by omega) ?_
  exact bt_La_law_3926 (cx_L hX dec_La_law_3923) hSc k28 v5 c9 s9 hk28 (by omega) (by omega) M
set_option maxRecDepth 20000 in
theorem bt_La_law_1987 {l : Launch} {K : KT} {X : XT} (hX : Cx l K 1500 9 603072 7194729 X code "SeriesArchiveLaw" (some .boolean) [] L_La_law_1921) {b sl : Nat} {xs : Nat → Int32} (hSc : SC K X b sl xs) (k28 : Int32 → Mm → Rs Int32) (v5 : Int32) (c9 s9 : Nat) (hk28 : ∀ (v5 : Int32) M, VV l K 1500 9 603072 7194729 rvI X (k28 v5 M) (c9 + 85) (s9 + 11934) M 28 [(0, .ref b), (1, .ref (kA K 0)), (2, .ref (kA K 32)), (3, .ref (kA K 45)), (4, .ref (kA K 46)), (5, .int v5)] []) (hc9 : c9 + 85 ≤ 603072) (hs9 : s9 + 11934 ≤ 7194729) (s0 : Int32) (s1 : Int32) (M : Mm) : VV l K 1500 9 603072 7194729 rvI X (fn_La_law_1987 xs sl k28 v5 s0 s1 M) (c9 + 2) (s9 + 12) M 1987 [(0, .ref b), (1, .ref (kA K 0)), (2, .ref (kA K 32)), (3, .ref (kA K 45)), (4, .ref (kA K 46)), (5, .int v5)] [.long (s1).toInt64, .long (s0).toInt64] := by
  unfold fn_La_law_1987
  refine V_lcmp hX 43 1988 rfl rfl ?_
  refine V_if_eq hX 44 1991 1993 rfl rfl (by decide) (fun c1988 => ?_) (fun c1988 => ?_)
  · exact bt_La_law_1993 hX hSc k28 v5 c9 s9 hk28 (by omega) (by omega) M
  · refine V_iconst hX (v := 0) (hv := by decide) 45 1992 rfl rfl ?_
    exact V_zret hX 46 rfl rfl (by omega) (by omega) rfl
set_option maxRecDepth 20000 in
theorem bt_La_law_1921 {l : Launch} {K : KT} {X : XT} (hX : Cx l K 1500 9 603072 7194729 X code "SeriesArchiveLaw" (some .boolean) [] L_La_law_1921) {b sl : Nat} {xs : Nat → Int32} (hSc : SC K X b sl xs) (k28 : Int32 → Mm → Rs Int32) (v5 : Int32) (c9 s9 : Nat) (hk28 : ∀ (v5 : Int32) M, VV l K 1500 9 603072 7194729 rvI X (k28 v5 M) (c9 + 85) (s9 + 11934) M 28 [(0, .ref b), (1, .ref (kA K 0)), (2, .ref (kA K 32)), (3, .ref (kA K 45)), (4, .ref (kA K 46)), (5, .int v5)] []) (hc9 : c9 + 85 ≤ 603072) (hs9 : s9 + 11934 ≤ 7194729) (M : Mm) : VV l K 1500 9 603072 7194729 rvI X (fn_La_law_1921 xs sl k28 v5 M) (c9 + 0) (s9 + 0) M 1921 [(0, .ref b), (1, .ref (kA K 0)), (2, .ref (kA K 32)), (3, .ref (kA K 45)), (4, .ref (kA K 46)), (5, .int v5)] [] := by
  unfold fn_La_law_1921
  refine V_aload_n hX (j := 1) (hj := rfl) 0 1922 rfl rfl ?_
  refine V_aload_n hX (j := 0) (hj := rfl) 1 1923 rfl rfl ?_
  refine V_iload hX (j := 5) (hj := rfl) 2 1925 rfl rfl ?_
  refine V_iconst hX (v := 1) (hv := by decide) 3 1926 rfl rfl ?_
  refine V_iadd hX 4 1927 rfl rfl ?_
  refine V_sld hX hSc 5 1928 rfl rfl (fun g1927 => ?_)
  refine V_aload_n hX (j := 0) (hj := rfl) 6 1929 rfl rfl ?_
  refine V_iload hX (j := 5) (hj := rfl) 7 1931 rfl rfl ?_
  refine V_iconst hX (v := 2) (hv := by decide) 8 1932 rfl rfl ?_
  refine V_iadd hX 9 1933 rfl rfl ?_
  refine V_sld hX hSc 10 1934 rfl rfl (fun g1933 => ?_)
  refine V_aload_n hX (j := 3) (hj := rfl) 11 1935 rfl rfl ?_
  refine V_callI hX 1938 (c9 + 2) (s9 + 12) rfl rfl rfl (by omega) (by omega) (VR_SX hX 12 (ct_La_isPeak (cx_t hX) K (xs (v5 + 1).toNatClampNeg) (xs (v5 + 2).toNatClampNeg) M) myw_La_isPeak mt_La_isPeak ml_La_276 (Nat.le_of_ble_eq_true rfl) (Nat.le_of_ble_eq_true rfl) rfl rfl (Nat.le_of_ble_eq_true rfl) rfl (by omega) (by omega)) (fun r1935 M1935 => ?_)
  refine V_istore hX 13 1940 [(6, .int r1935), (0, .ref b), (1, .ref (kA K 0)), (2, .ref (kA K 32)), (3, .ref (kA K 45)), (4, .ref (kA K 46)), (5, .int v5)] rfl rfl (Nat.le_of_ble_eq_true rfl) rfl ?_
  refine V_aload_n hX (j := 3) (hj := rfl) 14 1941 rfl rfl ?_
  refine V_aload_n hX (j := 1) (hj := rfl) 15 1942 rfl rfl ?_
  refine V_iload hX (j := 6) (hj := rfl) 16 1944 rfl rfl ?_
  refine V_iconst hX (v := 1) (hv := by decide) 17 1945 rfl rfl ?_
  refine V_iadd hX 18 1946 rfl rfl ?_
  refine V_sld hX hSc 19 1947 rfl rfl (fun g1946 => ?_)
  refine V_aload_n hX (j := 1) (hj := rfl) 20 1948 rfl rfl ?_
  refine V_iload hX (j := 6) (hj := rfl) 21 1950 rfl rfl ?_
  refine V_iconst hX (v := 2) (hv := by decide) 22 1951 rfl rfl ?_
  refine V_iadd hX 23 1952 rfl rfl ?_
  refine V_sld hX hSc 24 1953 rfl rfl (fun g1952 => ?_)
  refine V_callI hX 1956 (c9 + 2) (s9 + 12) rfl rfl rfl (by omega) (by omega) (VR_V hX 25 (ct_Mo_isPeak (cx_t hX) K (xs (v5 + 1).toNatClampNeg) (xs (v5 + 2).toNatClampNeg) M1935) my_Mo_isPeak mi_Mo_isPeak ms_Mo_isPeak ml_La_278 (Nat.le_of_ble_eq_true rfl) (Nat.le_of_ble_eq_true rfl) (by decide) (ent_32 K _) rfl rfl rfl (Nat.le_of_ble_eq_true rfl) rfl (by omega) (by omega)) (fun r1953 M1953 => ?_)
  refine V_istore hX 26 1958 [(7, .int r1953), (6, .int r1935), (0, .ref b), (1, .ref (kA K 0)), (2, .ref (kA K 32)), (3, .ref (kA K 45)), (4, .ref (kA K 46)), (5, .int v5)] rfl rfl (Nat.le_of_ble_eq_true rfl) rfl ?_
  refine V_aload_n hX (j := 4) (hj := rfl) 27 1959 rfl rfl ?_
  refine V_callI hX 1962 (c9 + 2) (s9 + 12) rfl rfl rfl (by omega) (by omega) (VR_V hX 28 (ct_Mo_thrown (cx_t hX) K M1953) my_Mo_thrown mi_Mo_thrown ms_Mo_thrown ml_La_204 (Nat.le_of_ble_eq_true rfl) (Nat.le_of_ble_eq_true rfl) (by decide) (ent_32 K _) rfl rfl rfl (Nat.le_of_ble_eq_true rfl) rfl (by omega) (by omega)) (fun r1959 M1959 => ?_)
  refine V_iload hX (j := 1) (hj := rfl) 29 1964 rfl rfl ?_
  refine V_icmp_eq hX 30 1967 1969 rfl rfl (by decide) (fun c1964 => ?_) (fun c1964 => ?_)
  · refine V_iload hX (j := 1) (hj := rfl) 33 1971 rfl rfl ?_
    refine V_if_ne hX 34 1974 1993 rfl rfl (by decide) (fun c1971 => ?_) (fun c1971 => ?_)
    · refine VV_sub [2, 3, 4, 5, 6, 7] rfl ?_
      exact bt_La_law_1993 hX hSc k28 v5 c9 s9 hk28 (by omega) (by omega) M1959
    · refine V_aload_n hX (j := 5) (hj := rfl) 35 1975 rfl rfl ?_
      refine V_iconst hX (v := 0) (hv := by decide) 36 1976 rfl rfl ?_
      refine V_lald hX 37 1977 rfl rfl ?_
      refine V_iload hX (j := 0) (hj := rfl) 38 1979 rfl rfl ?_
      refine V_if_eq hX 39 1982 1986 rfl rfl (by decide) (fun c1979 => ?_) (fun c1979 => ?_)
      · refine V_lconst hX 42 1987 rfl rfl ((0 : Int32).toInt64) (by decide) ?_
        refine VV_sub [2, 3, 4, 5, 6, 7] rfl ?_
        exact bt_La_law_1987 hX hSc k28 v5 c9 s9 hk28 (by omega) (by omega) (M1959 45 0) (0 : Int32) M1959
      · refine V_lconst hX 40 1983 rfl rfl ((1 : Int32).toInt64) (by decide) ?_
        refine V_goto hX 41 1987 rfl (by decide) ?_
        refine VV_sub [2, 3, 4, 5, 6, 7] rfl ?_
        exact bt_La_law_1987 hX hSc k28 v5 c9 s9 hk28 (by omega) (by omega) (M1959 45 0) (1 : Int32) M1959
  · refine V_iconst hX (v := 0) (hv := by decide) 31 1968 rfl rfl ?_
    exact V_zret hX 32 rfl rfl (by omega) (by omega) rfl
set_option maxRecDepth 20000 in
theorem bt_La_law_2061 {l : Launch} {K : KT} {X : XT} (hX : Cx l K 1500 9 603072 7194729 X code "SeriesArchiveLaw" (some .boolean) [] L_La_law_1996) {b sl : Nat} {xs : Nat → Int32} (hSc : SC K X b sl xs) (k28 : Int32 → Mm → Rs Int32) (v5 : Int32) (c9 s9 : Nat) (hk28 : ∀ (v5 : Int32) M, VV l K 1500 9 603072 7194729 rvI X (k28 v5 M) (c9 + 85) (s9 + 11934) M 28 [(0, .ref b), (1, .ref (kA K 0)), (2, .ref (kA K 32)), (3, .ref (kA K 45)), (4, .ref (kA K 46)), (5, .int v5)] []) (hc9 : c9 + 85 ≤ 603072) (hs9 : s9 + 11934 ≤ 7194729) (M : Mm) : VV l K 1500 9 603072 7194729 rvI X (fn_La_law_2061 xs sl k28 v5 M) (c9 + 3) (s9 + 18) M 2061 [(0, .ref b), (1, .ref (kA K 0)), (2, .ref (kA K 32)), (3, .ref (kA K 45)), (4, .ref (kA K 46)), (5, .int v5)] [] := by
  unfold fn_La_law_2061
  refine V_goto hX 44 3926 rfl (by decide) ?_
  refine VV_wd (c9 + 85) (s9 + 11934) (by omega) (by omega) ?_
  exact bt_La_law_3926 (cx_L hX dec_La_law_3923) hSc k28 v5 c9 s9 hk28 (by omega) (by omega) M
set_option maxRecDepth 20000 in
theorem bt_La_law_1996 {l : Launch} {K : KT} {X : XT} (hX : Cx l K 1500 9 603072 7194729 X code "SeriesArchiveLaw" (some .boolean) [] L_La_law_1996) {b sl : Nat} {xs : Nat → Int32} (hSc : SC K X b sl xs) (k28 : Int32 → Mm → Rs Int32) (v5 : Int32) (c9 s9 : Nat) (hk28 : ∀ (v5 : Int32) M, VV l K 1500 9 603072 7194729 rvI X (k28 v5 M) (c9 + 85) (s9 + 11934) M 28 [(0, .ref b), (1, .ref (kA K 0)), (2, .ref (kA K 32)), (3, .ref (kA K 45)), (4, .ref (kA K 46)), (5, .int v5)] []) (hc9 : c9 + 85 ≤ 603072) (hs9 : s9 + 11934 ≤ 7194729) (M : Mm) : VV l K 1500 9 603072 7194729 rvI X (fn_La_law_1996 xs sl k28 v5 M) (c9 + 0) (s9 + 0) M 1996 [(0, .ref b), (1, .ref (kA K 0)), (2, .ref (kA K 32)), (3, .ref (kA K 45)), (4, .ref (kA K 46)), (5, .int v5)] [] := by
  unfold fn_La_law_1996
  refine V_aload_n hX (j := 1) (hj := rfl) 0 1997 rfl rfl ?_
  refine V_aload_n hX (j := 0) (hj := rfl) 1 1998 rfl rfl ?_
  refine V_iload hX (j := 5) (hj := rfl) 2 2000 rfl rfl ?_
  refine V_iconst hX (v := 1) (hv := by decide) 3 2001 rfl rfl ?_
  refine V_iadd hX 4 2002 rfl rfl ?_
  refine V_sld hX hSc 5 2003 rfl rfl (fun g2002 => ?_)
  refine V_aload_n hX (j := 0) (hj := rfl) 6 2004 rfl rfl ?_
  refine V_iload hX (j := 5) (hj := rfl) 7 2006 rfl rfl ?_
  refine V_iconst hX (v := 2) (hv := by decide) 8 2007 rfl rfl ?_
  refine V_iadd hX 9 2008 rfl rfl ?_
  refine V_sld hX hSc 10 2009 rfl rfl (fun g2008 => ?_)
  refine V_aload_n hX (j := 3) (hj := rfl) 11 2010 rfl rfl ?_
  refine V_callI hX 2013 (c9 + 3) (s9 + 18) rfl rfl rfl (by omega) (by omega) (VR_SX hX 12 (ct_La_prominence (cx_t hX) K (xs (v5 + 1).toNatClampNeg) (xs (v5 + 2).toNatClampNeg) M) myw_La_prominence mt_La_prominence ml_La_279 (Nat.le_of_ble_eq_true rfl) (Nat.le_of_ble_eq_true rfl) rfl rfl (Nat.le_of_ble_eq_true rfl) rfl (by omega) (by omega)) (fun r2010 M2010 => ?_)
  refine V_istore hX 13 2015 [(6, .int r2010), (0, .ref b), (1, .ref (kA K 0)), (2, .ref (kA K 32)), (3, .ref (kA K 45)), (4, .ref (kA K 46)), (5, .int v5)] rfl rfl (Nat.le_of_ble_eq_true rfl) rfl ?_
  refine V_aload_n hX (j := 3) (hj := rfl) 14 2016 rfl rfl ?_
  refine V_aload_n hX (j := 1) (hj := rfl) 15 2017 rfl rfl ?_
  refine V_iload hX (j := 6) (hj := rfl) 16 2019 rfl rfl ?_
  refine V_iconst hX (v := 1) (hv := by decide) 17 2020 rfl rfl ?_
  refine V_iadd hX 18 2021 rfl rfl ?_
  refine V_sld hX hSc 19 2022 rfl rfl (fun g2021 => ?_)
  refine V_aload_n hX (j := 1) (hj := rfl) 20 2023 rfl rfl ?_
  refine V_iload hX (j := 6) (hj := rfl) 21 2025 rfl rfl ?_
  refine V_iconst hX (v := 2) (hv := by decide) 22 2026 rfl rfl ?_
  refine V_iadd hX 23 2027 rfl rfl ?_
  refine V_sld hX hSc 24 2028 rfl rfl (fun g2027 => ?_)
  refine V_callI hX 2031 (c9 + 3) (s9 + 18) rfl rfl rfl (by omega) (by omega) (VR_V hX 25 (ct_Mo_prominence (cx_t hX) K (xs (v5 + 1).toNatClampNeg) (xs (v5 + 2).toNatClampNeg) M2010) my_Mo_prominence mi_Mo_prominence ms_Mo_prominence ml_La_281 (Nat.le_of_ble_eq_true rfl) (Nat.le_of_ble_eq_true rfl) (by decide) (ent_32 K _) rfl rfl rfl (Nat.le_of_ble_eq_true rfl) rfl (by omega) (by omega)) (fun r2028 M2028 => ?_)
  refine V_istore hX 26 2033 [(7, .int r2028), (6, .int r2010), (0, .ref b), (1, .ref (kA K 0)), (2, .ref (kA K 32)), (3, .ref (kA K 45)), (4, .ref (kA K 46)), (5, .int v5)] rfl rfl (Nat.le_of_ble_eq_true rfl) rfl ?_
  refine V_aload_n hX (j := 4) (hj := rfl) 27 2034 rfl rfl ?_
  refine V_callI hX 2037 (c9 + 3) (s9 + 18) rfl rfl rfl (by omega) (by omega) (VR_V hX 28 (ct_Mo_thrown (cx_t hX) K M2028) my_Mo_thrown mi_Mo_thrown ms_Mo_thrown ml_La_204 (Nat.le_of_ble_eq_true rfl) (Nat.le_of_ble_eq_true rfl) (by decide) (ent_32 K _) rfl rfl rfl (Nat.le_of_ble_eq_true rfl) rfl (by omega) (by omega)) (fun r2034 M2034 => ?_)
  refine V_iload hX (j := 1) (hj := rfl) 29 2039 rfl rfl ?_
  refine V_icmp_eq hX 30 2042 2044 rfl rfl (by decide) (fun c2039 => ?_) (fun c2039 => ?_)
  · refine V_iload hX (j := 1) (hj := rfl) 33 2046 rfl rfl ?_
    refine V_if_ne hX 34 2049 2061 rfl rfl (by decide) (fun c2046 => ?_) (fun c2046 => ?_)
    · refine VV_sub [2, 3, 4, 5, 6, 7] rfl ?_
      exact bt_La_law_2061 hX hSc k28 v5 c9 s9 hk28 (by omega) (by omega) M2034
    · refine V_aload_n hX (j := 5) (hj := rfl) 35 2050 rfl rfl ?_
      refine V_iconst hX (v := 0) (hv := by decide) 36 2051 rfl rfl ?_
      refine V_lald hX 37 2052 rfl rfl ?_
      refine V_iload hX (j := 0) (hj := rfl) 38 2054 rfl rfl ?_
      refine V_i2l hX 39 2055 rfl rfl ?_
      refine V_lcmp hX 40 2056 rfl rfl ?_
      refine V_if_eq hX 41 2059 2061 rfl rfl (by decide) (fun c2056 => ?_) (fun c2056 => ?_)
      · refine VV_sub [2, 3, 4, 5, 6, 7] rfl ?_
        exact bt_La_law_2061 hX hSc k28 v5 c9 s9 hk28 (by omega) (by omega) M2034
      · refine V_iconst hX (v := 0) (hv := by decide) 42 2060 rfl rfl ?_
        exact V_zret hX 43 rfl rfl (by omega) (by omega) rfl
  · refine V_iconst hX (v := 0) (hv := by decide) 31 2043 rfl rfl ?_
    exact V_zret hX 32 rfl rfl (by omega) (by omega) rfl
set_option maxRecDepth 20000 in
theorem bt_La_law_2129 {l : Launch} {K : KT} {X : XT} (hX : Cx l K 1500 9 603072 7194729 X code "SeriesArchiveLaw" (some .boolean) [] L_La_law_2064) {b sl : Nat} {xs : Nat → Int32} (hSc : SC K X b sl xs) (k28 : Int32 → Mm → Rs Int32) (v5 : Int32) (c9 s9 : Nat) (hk28 : ∀ (v5 : Int32) M, VV l K 1500 9 603072 7194729 rvI X (k28 v5 M) (c9 + 85) (s9 + 11934) M 28 [(0, .ref b), (1, .ref (kA K 0)), (2, .ref (kA K 32)), (3, .ref (kA K 45)), (4, .ref (kA K 46)), (5, .int v5)] []) (hc9 : c9 + 85 ≤ 603072) (hs9 : s9 + 11934 ≤ 7194729) (M : Mm) : VV l K 1500 9 603072 7194729 rvI X (fn_La_law_2129 xs sl k28 v5 M) (c9 + 3) (s9 + 18) M 2129 [(0, .ref b), (1, .ref (kA K 0)), (2, .ref (kA K 32)), (3, .ref (kA K 45)), (4, .ref (kA K 46)), (5, .int v5)] [] := by
  unfold fn_La_law_2129
  refine V_goto hX 44 3926 rfl (by decide) ?_
  refine VV_wd (c9 + 85) (s9 + 11934) (by omega) (by omega) ?_
  exact bt_La_law_3926 (cx_L hX dec_La_law_3923) hSc k28 v5 c9 s9 hk28 (by omega) (by omega) M
set_option maxRecDepth 20000 in
theorem bt_La_law_2064 {l : Launch} {K : KT} {X : XT} (hX : Cx l K 1500 9 603072 7194729 X code "SeriesArchiveLaw" (some .boolean) [] L_La_law_2064) {b sl : Nat} {xs : Nat → Int32} (hSc : SC K X b sl xs) (k28 : Int32 → Mm → Rs Int32) (v5 : Int32) (c9 s9 : Nat) (hk28 : ∀ (v5 : Int32) M, VV l K 1500 9 603072 7194729 rvI X (k28 v5 M) (c9 + 85) (s9 + 11934) M 28 [(0, .ref b), (1, .ref (kA K 0)), (2, .ref (kA K 32)), (3, .ref (kA K 45)), (4, .ref (kA K 46)), (5, .int v5)] []) (hc9 : c9 + 85 ≤ 603072) (hs9 : s9 + 11934 ≤ 7194729) (M : Mm) : VV l K 1500 9 603072 7194729 rvI X (fn_La_law_2064 xs sl k28 v5 M) (c9 + 0) (s9 + 0) M 2064 [(0, .ref b), (1, .ref (kA K 0)), (2, .ref (kA K 32)), (3, .ref (kA K 45)), (4, .ref (kA K 46)), (5, .int v5)] [] := by
  unfold fn_La_law_2064
  refine V_aload_n hX (j := 1) (hj := rfl) 0 2065 rfl rfl ?_
  refine V_aload_n hX (j := 0) (hj := rfl) 1 2066 rfl rfl ?_
  refine V_iload hX (j := 5) (hj := rfl) 2 2068 rfl rfl ?_
  refine V_iconst hX (v := 1) (hv := by decide) 3 2069 rfl rfl ?_
  refine V_iadd hX 4 2070 rfl rfl ?_
  refine V_sld hX hSc 5 2071 rfl rfl (fun g2070 => ?_)
  refine V_aload_n hX (j := 0) (hj := rfl) 6 2072 rfl rfl ?_
  refine V_iload hX (j := 5) (hj := rfl) 7 2074 rfl rfl ?_
  refine V_iconst hX (v := 2) (hv := by decide) 8 2075 rfl rfl ?_
  refine V_iadd hX 9 2076 rfl rfl ?_
  refine V_sld hX hSc 10 2077 rfl rfl (fun g2076 => ?_)
  refine V_aload_n hX (j := 3) (hj := rfl) 11 2078 rfl rfl ?_
  refine V_callI hX 2081 (c9 + 3) (s9 + 18) rfl rfl rfl (by omega) (by omega) (VR_SX hX 12 (ct_La_prominenceByLevels (cx_t hX) K (xs (v5 + 1).toNatClampNeg) (xs (v5 + 2).toNatClampNeg) M) myw_La_prominenceByLevels mt_La_prominenceByLevels ml_La_282 (Nat.le_of_ble_eq_true rfl) (Nat.le_of_ble_eq_true rfl) rfl rfl (Nat.le_of_ble_eq_true rfl) rfl (by omega) (by omega)) (fun r2078 M2078 => ?_)
  refine V_istore hX 13 2083 [(6, .int r2078), (0, .ref b), (1, .ref (kA K 0)), (2, .ref (kA K 32)), (3, .ref (kA K 45)), (4, .ref (kA K 46)), (5, .int v5)] rfl rfl (Nat.le_of_ble_eq_true rfl) rfl ?_
  refine V_aload_n hX (j := 3) (hj := rfl) 14 2084 rfl rfl ?_
  refine V_aload_n hX (j := 1) (hj := rfl) 15 2085 rfl rfl ?_
  refine V_iload hX (j := 6) (hj := rfl) 16 2087 rfl rfl ?_
  refine V_iconst hX (v := 1) (hv := by decide) 17 2088 rfl rfl ?_
  refine V_iadd hX 18 2089 rfl rfl ?_
  refine V_sld hX hSc 19 2090 rfl rfl (fun g2089 => ?_)
  refine V_aload_n hX (j := 1) (hj := rfl) 20 2091 rfl rfl ?_
  refine V_iload hX (j := 6) (hj := rfl) 21 2093 rfl rfl ?_
  refine V_iconst hX (v := 2) (hv := by decide) 22 2094 rfl rfl ?_
  refine V_iadd hX 23 2095 rfl rfl ?_
  refine V_sld hX hSc 24 2096 rfl rfl (fun g2095 => ?_)
  refine V_callI hX 2099 (c9 + 3) (s9 + 18) rfl rfl rfl (by omega) (by omega) (VR_V hX 25 (ct_Mo_prominenceByLevels (cx_t hX) K (xs (v5 + 1).toNatClampNeg) (xs (v5 + 2).toNatClampNeg) M2078) my_Mo_prominenceByLevels mi_Mo_prominenceByLevels ms_Mo_prominenceByLevels ml_La_284 (Nat.le_of_ble_eq_true rfl) (Nat.le_of_ble_eq_true rfl) (by decide) (ent_32 K _) rfl rfl rfl (Nat.le_of_ble_eq_true rfl) rfl (by omega) (by omega)) (fun r2096 M2096 => ?_)
  refine V_istore hX 26 2101 [(7, .int r2096), (6, .int r2078), (0, .ref b), (1, .ref (kA K 0)), (2, .ref (kA K 32)), (3, .ref (kA K 45)), (4, .ref (kA K 46)), (5, .int v5)] rfl rfl (Nat.le_of_ble_eq_true rfl) rfl ?_
  refine V_aload_n hX (j := 4) (hj := rfl) 27 2102 rfl rfl ?_
  refine V_callI hX 2105 (c9 + 3) (s9 + 18) rfl rfl rfl (by omega) (by omega) (VR_V hX 28 (ct_Mo_thrown (cx_t hX) K M2096) my_Mo_thrown mi_Mo_thrown ms_Mo_thrown ml_La_204 (Nat.le_of_ble_eq_true rfl) (Nat.le_of_ble_eq_true rfl) (by decide) (ent_32 K _) rfl rfl rfl (Nat.le_of_ble_eq_true rfl) rfl (by omega) (by omega)) (fun r2102 M2102 => ?_)
  refine V_iload hX (j := 1) (hj := rfl) 29 2107 rfl rfl ?_
  refine V_icmp_eq hX 30 2110 2112 rfl rfl (by decide) (fun c2107 => ?_) (fun c2107 => ?_)
  · refine V_iload hX (j := 1) (hj := rfl) 33 2114 rfl rfl ?_
    refine V_if_ne hX 34 2117 2129 rfl rfl (by decide) (fun c2114 => ?_) (fun c2114 => ?_)
    · refine VV_sub [2, 3, 4, 5, 6, 7] rfl ?_
      exact bt_La_law_2129 hX hSc k28 v5 c9 s9 hk28 (by omega) (by omega) M2102
    · refine V_aload_n hX (j := 5) (hj := rfl) 35 2118 rfl rfl ?_
      refine V_iconst hX (v := 0) (hv := by decide) 36 2119 rfl rfl ?_
      refine V_lald hX 37 2120 rfl rfl ?_
      refine V_iload hX (j := 0) (hj := rfl) 38 2122 rfl rfl ?_
      refine V_i2l hX 39 2123 rfl rfl ?_
      refine V_lcmp hX 40 2124 rfl rfl ?_
      refine V_if_eq hX 41 2127 2129 rfl rfl (by decide) (fun c2124 => ?_) (fun c2124 => ?_)
      · refine VV_sub [2, 3, 4, 5, 6, 7] rfl ?_
        exact bt_La_law_2129 hX hSc k28 v5 c9 s9 hk28 (by omega) (by omega) M2102
      · refine V_iconst hX (v := 0) (hv := by decide) 42 2128 rfl rfl ?_
        exact V_zret hX 43 rfl rfl (by omega) (by omega) rfl
  · refine V_iconst hX (v := 0) (hv := by decide) 31 2111 rfl rfl ?_
    exact V_zret hX 32 rfl rfl (by omega) (by omega) rfl
set_option maxRecDepth 20000 in
theorem bt_La_law_2197 {l : Launch} {K : KT} {X : XT} (hX : Cx l K 1500 9 603072 7194729 X code "SeriesArchiveLaw" (some .boolean) [] L_La_law_2132) {b sl : Nat} {xs : Nat → Int32} (hSc : SC K X b sl xs) (k28 : Int32 → Mm → Rs Int32) (v5 : Int32) (c9 s9 : Nat) (hk28 : ∀ (v5 : Int32) M, VV l K 1500 9 603072 7194729 rvI X (k28 v5 M) (c9 + 85) (s9 + 11934) M 28 [(0, .ref b), (1, .ref (kA K 0)), (2, .ref (kA K 32)), (3, .ref (kA K 45)), (4, .ref (kA K 46)), (5, .int v5)] []) (hc9 : c9 + 85 ≤ 603072) (hs9 : s9 + 11934 ≤ 7194729) (M : Mm) : VV l K 1500 9 603072 7194729 rvI X (fn_La_law_2197 xs sl k28 v5 M) (c9 + 2) (s9 + 12) M 2197 [(0, .ref b), (1, .ref (kA K 0)), (2, .ref (kA K 32)), (3, .ref (kA K 45)), (4, .ref (kA K 46)), (5, .int v5)] [] := by
  unfold fn_La_law_2197
  refine V_goto hX 44 3926 rfl (by decide) ?_
  refine VV_wd (c9 + 85) (s9 + 11934) (by omega) (by omega) ?_
  exact bt_La_law_3926 (cx_L hX dec_La_law_3923) hSc k28 v5 c9 s9 hk28 (by omega) (by omega) M
set_option maxRecDepth 20000 in
theorem bt_La_law_2132 {l : Launch} {K : KT} {X : XT} (hX : Cx l K 1500 9 603072 7194729 X code "SeriesArchiveLaw" (some .boolean) [] L_La_law_2132) {b sl : Nat} {xs : Nat → Int32} (hSc : SC K X b sl xs) (k28 : Int32 → Mm → Rs Int32) (v5 : Int32) (c9 s9 : Nat) (hk28 : ∀ (v5 : Int32) M, VV l K 1500 9 603072 7194729 rvI X (k28 v5 M) (c9 + 85) (s9 + 11934) M 28 [(0, .ref b), (1, .ref (kA K 0)), (2, .ref (kA K 32)), (3, .ref (kA K 45)), (4, .ref (kA K 46)), (5, .int v5)] []) (hc9 : c9 + 85 ≤ 603072) (hs9 : s9 + 11934 ≤ 7194729) (M : Mm) : VV l K 1500 9 603072 7194729 rvI X (fn_La_law_2132 xs sl k28 v5 M) (c9 + 0) (s9 + 0) M 2132 [(0, .ref b), (1, .ref (kA K 0)), (2, .ref (kA K 32)), (3, .ref (kA K 45)), (4, .ref (kA K 46)), (5, .int v5)] [] := by
  unfold fn_La_law_2132
  refine V_aload_n hX (j := 1) (hj := rfl) 0 2133 rfl rfl ?_
  refine V_aload_n hX (j := 0) (hj := rfl) 1 2134 rfl rfl ?_
  refine V_iload hX (j := 5) (hj := rfl) 2 2136 rfl rfl ?_
  refine V_iconst hX (v := 1) (hv := by decide) 3 2137 rfl rfl ?_
  refine V_iadd hX 4 2138 rfl rfl ?_
  refine V_sld hX hSc 5 2139 rfl rfl (fun g2138 => ?_)
  refine V_aload_n hX (j := 0) (hj := rfl) 6 2140 rfl rfl ?_
  refine V_iload hX (j := 5) (hj := rfl) 7 2142 rfl rfl ?_
  refine V_iconst hX (v := 2) (hv := by decide) 8 2143 rfl rfl ?_
  refine V_iadd hX 9 2144 rfl rfl ?_
  refine V_sld hX hSc 10 2145 rfl rfl (fun g2144 => ?_)
  refine V_aload_n hX (j := 3) (hj := rfl) 11 2146 rfl rfl ?_
  refine V_callI hX 2149 (c9 + 2) (s9 + 12) rfl rfl rfl (by omega) (by omega) (VR_SX hX 12 (ct_La_peakByProminence (cx_t hX) K (xs (v5 + 1).toNatClampNeg) (xs (v5 + 2).toNatClampNeg) M) myw_La_peakByProminence mt_La_peakByProminence ml_La_285 (Nat.le_of_ble_eq_true rfl) (Nat.le_of_ble_eq_true rfl) rfl rfl (Nat.le_of_ble_eq_true rfl) rfl (by omega) (by omega)) (fun r2146 M2146 => ?_)
  refine V_istore hX 13 2151 [(6, .int r2146), (0, .ref b), (1, .ref (kA K 0)), (2, .ref (kA K 32)), (3, .ref (kA K 45)), (4, .ref (kA K 46)), (5, .int v5)] rfl rfl (Nat.le_of_ble_eq_true rfl) rfl ?_
  refine V_aload_n hX (j := 3) (hj := rfl) 14 2152 rfl rfl ?_
  refine V_aload_n hX (j := 1) (hj := rfl) 15 2153 rfl rfl ?_
  refine V_iload hX (j := 6) (hj := rfl) 16 2155 rfl rfl ?_
  refine V_iconst hX (v := 1) (hv := by decide) 17 2156 rfl rfl ?_
  refine V_iadd hX 18 2157 rfl rfl ?_
  refine V_sld hX hSc 19 2158 rfl rfl (fun g2157 => ?_)
  refine V_aload_n hX (j := 1) (hj := rfl) 20 2159 rfl rfl ?_
  refine V_iload hX (j := 6) (hj := rfl) 21 2161 rfl rfl ?_
  refine V_iconst hX (v := 2) (hv := by decide) 22 2162 rfl rfl ?_
  refine V_iadd hX 23 2163 rfl rfl ?_
  refine V_sld hX hSc 24 2164 rfl rfl (fun g2163 => ?_)
  refine V_callI hX 2167 (c9 + 2) (s9 + 12) rfl rfl rfl (by omega) (by omega) (VR_V hX 25 (ct_Mo_peakByProminence (cx_t hX) K (xs (v5 + 1).toNatClampNeg) (xs (v5 + 2).toNatClampNeg) M2146) my_Mo_peakByProminence mi_Mo_peakByProminence ms_Mo_peakByProminence ml_La_287 (Nat.le_of_ble_eq_true rfl) (Nat.le_of_ble_eq_true rfl) (by decide) (ent_32 K _) rfl rfl rfl (Nat.le_of_ble_eq_true rfl) rfl (by omega) (by omega)) (fun r2164 M2164 => ?_)
  refine V_istore hX 26 2169 [(7, .int r2164), (6, .int r2146), (0, .ref b), (1, .ref (kA K 0)), (2, .ref (kA K 32)), (3, .ref (kA K 45)), (4, .ref (kA K 46)), (5, .int v5)] rfl rfl (Nat.le_of_ble_eq_true rfl) rfl ?_
  refine V_aload_n hX (j := 4) (hj := rfl) 27 2170 rfl rfl ?_
  refine V_callI hX 2173 (c9 + 2) (s9 + 12) rfl rfl rfl (by omega) (by omega) (VR_V hX 28 (ct_Mo_thrown (cx_t hX) K M2164) my_Mo_thrown mi_Mo_thrown ms_Mo_thrown ml_La_204 (Nat.le_of_ble_eq_true rfl) (Nat.le_of_ble_eq_true rfl) (by decide) (ent_32 K _) rfl rfl rfl (Nat.le_of_ble_eq_true rfl) rfl (by omega) (by omega)) (fun r2170 M2170 => ?_)
  refine V_iload hX (j := 1) (hj := rfl) 29 2175 rfl rfl ?_
  refine V_icmp_eq hX 30 2178 2180 rfl rfl (by decide) (fun c2175 => ?_) (fun c2175 => ?_)
  · refine V_iload hX (j := 1) (hj := rfl) 33 2182 rfl rfl ?_
    refine V_if_ne hX 34 2185 2197 rfl rfl (by decide) (fun c2182 => ?_) (fun c2182 => ?_)
    · refine VV_sub [2, 3, 4, 5, 6, 7] rfl ?_
      exact bt_La_law_2197 hX hSc k28 v5 c9 s9 hk28 (by omega) (by omega) M2170
    · refine V_aload_n hX (j := 5) (hj := rfl) 35 2186 rfl rfl ?_
      refine V_iconst hX (v := 0) (hv := by decide) 36 2187 rfl rfl ?_
      refine V_lald hX 37 2188 rfl rfl ?_
      refine V_iload hX (j := 0) (hj := rfl) 38 2190 rfl rfl ?_
      refine V_i2l hX 39 2191 rfl rfl ?_
      refine V_lcmp hX 40 2192 rfl rfl ?_
      refine V_if_eq hX 41 2195 2197 rfl rfl (by decide) (fun c2192 => ?_) (fun c2192 => ?_)
      · refine VV_sub [2, 3, 4, 5, 6, 7] rfl ?_
        exact bt_La_law_2197 hX hSc k28 v5 c9 s9 hk28 (by omega) (by omega) M2170
      · refine V_iconst hX (v := 0) (hv := by decide) 42 2196 rfl rfl ?_
        exact V_zret hX 43 rfl rfl (by omega) (by omega) rfl
  · refine V_iconst hX (v := 0) (hv := by decide) 31 2179 rfl rfl ?_
    exact V_zret hX 32 rfl rfl (by omega) (by omega) rfl
set_option maxRecDepth 20000 in
theorem bt_La_law_2253 {l : Launch} {K : KT} {X : XT} (hX : Cx l K 1500 9 603072 7194729 X code "SeriesArchiveLaw" (some .boolean) [] L_La_law_2200) {b sl : Nat} {xs : Nat → Int32} (hSc : SC K X b sl xs) (k28 : Int32 → Mm → Rs Int32) (v5 : Int32) (c9 s9 : Nat) (hk28 : ∀ (v5 : Int32) M, VV l K 1500 9 603072 7194729 rvI X (k28 v5 M) (c9 + 85) (s9 + 11934) M 28 [(0, .ref b), (1, .ref (kA K 0)), (2, .ref (kA K 32)), (3, .ref (kA K 45)), (4, .ref (kA K 46)), (5, .int v5)] []) (hc9 : c9 + 85 ≤ 603072) (hs9 : s9 + 11934 ≤ 7194729) (M : Mm) : VV l K 1500 9 603072 7194729 rvI X (fn_La_law_2253 xs sl k28 v5 M) (c9 + 2) (s9 + 12) M 2253 [(0, .ref b), (1, .ref (kA K 0)), (2, .ref (kA K 32)), (3, .ref (kA K 45)), (4, .ref (kA K 46)), (5, .int v5)] [] := by
  unfold fn_La_law_2253
  refine V_goto hX 34 3926 rfl (by decide) ?_
  refine VV_wd (c9 + 85) (s9 + 11934) (by omega) (by omega) ?_
  exact bt_La_law_3926 (cx_L hX dec_La_law_3923) hSc k28 v5 c9 s9 hk28 (by omega) (by omega) M
set_option maxRecDepth 20000 in
theorem bt_La_law_2200 {l : Launch} {K : KT} {X : XT} (hX : Cx l K 1500 9 603072 7194729 X code "SeriesArchiveLaw" (some .boolean) [] L_La_law_2200) {b sl : Nat} {xs : Nat → Int32} (hSc : SC K X b sl xs) (k28 : Int32 → Mm → Rs Int32) (v5 : Int32) (c9 s9 : Nat) (hk28 : ∀ (v5 : Int32) M, VV l K 1500 9 603072 7194729 rvI X (k28 v5 M) (c9 + 85) (s9 + 11934) M 28 [(0, .ref b), (1, .ref (kA K 0)), (2, .ref (kA K 32)), (3, .ref (kA K 45)), (4, .ref (kA K 46)), (5, .int v5)] []) (hc9 : c9 + 85 ≤ 603072) (hs9 : s9 + 11934 ≤ 7194729) (M : Mm) : VV l K 1500 9 603072 7194729 rvI X (fn_La_law_2200 xs sl k28 v5 M) (c9 + 0) (s9 + 0) M 2200 [(0, .ref b), (1, .ref (kA K 0)), (2, .ref (kA K 32)), (3, .ref (kA K 45)), (4, .ref (kA K 46)), (5, .int v5)] [] := by
  unfold fn_La_law_2200
  refine V_aload_n hX (j := 1) (hj := rfl) 0 2201 rfl rfl ?_
  refine V_aload_n hX (j := 0) (hj := rfl) 1 2202 rfl rfl ?_
  refine V_iload hX (j := 5) (hj := rfl) 2 2204 rfl rfl ?_
  refine V_iconst hX (v := 1) (hv := by decide) 3 2205 rfl rfl ?_
  refine V_iadd hX 4 2206 rfl rfl ?_
  refine V_sld hX hSc 5 2207 rfl rfl (fun g2206 => ?_)
  refine V_aload_n hX (j := 3) (hj := rfl) 6 2208 rfl rfl ?_
  refine V_callI hX 2211 (c9 + 2) (s9 + 12) rfl rfl rfl (by omega) (by omega) (VR_SX hX 7 (ct_La_bestSum (cx_t hX) K (xs (v5 + 1).toNatClampNeg) M) myw_La_bestSum mt_La_bestSum ml_La_288 (Nat.le_of_ble_eq_true rfl) (Nat.le_of_ble_eq_true rfl) rfl rfl (Nat.le_of_ble_eq_true rfl) rfl (by omega) (by omega)) (fun r2208 M2208 => ?_)
  refine V_istore hX 8 2213 [(6, .int r2208), (0, .ref b), (1, .ref (kA K 0)), (2, .ref (kA K 32)), (3, .ref (kA K 45)), (4, .ref (kA K 46)), (5, .int v5)] rfl rfl (Nat.le_of_ble_eq_true rfl) rfl ?_
  refine V_aload_n hX (j := 3) (hj := rfl) 9 2214 rfl rfl ?_
  refine V_aload_n hX (j := 1) (hj := rfl) 10 2215 rfl rfl ?_
  refine V_iload hX (j := 6) (hj := rfl) 11 2217 rfl rfl ?_
  refine V_iconst hX (v := 1) (hv := by decide) 12 2218 rfl rfl ?_
  refine V_iadd hX 13 2219 rfl rfl ?_
  refine V_sld hX hSc 14 2220 rfl rfl (fun g2219 => ?_)
  refine V_callI hX 2223 (c9 + 2) (s9 + 12) rfl rfl rfl (by omega) (by omega) (VR_V hX 15 (ct_Mo_bestSum (cx_t hX) K (xs (v5 + 1).toNatClampNeg) M2208) my_Mo_bestSum mi_Mo_bestSum ms_Mo_bestSum ml_La_290 (Nat.le_of_ble_eq_true rfl) (Nat.le_of_ble_eq_true rfl) (by decide) (ent_32 K _) rfl rfl rfl (Nat.le_of_ble_eq_true rfl) rfl (by omega) (by omega)) (fun r2220 M2220 => ?_)
  refine V_istore hX 16 2225 [(7, .int r2220), (6, .int r2208), (0, .ref b), (1, .ref (kA K 0)), (2, .ref (kA K 32)), (3, .ref (kA K 45)), (4, .ref (kA K 46)), (5, .int v5)] rfl rfl (Nat.le_of_ble_eq_true rfl) rfl ?_
  refine V_aload_n hX (j := 4) (hj := rfl) 17 2226 rfl rfl ?_
  refine V_callI hX 2229 (c9 + 2) (s9 + 12) rfl rfl rfl (by omega) (by omega) (VR_V hX 18 (ct_Mo_thrown (cx_t hX) K M2220) my_Mo_thrown mi_Mo_thrown ms_Mo_thrown ml_La_204 (Nat.le_of_ble_eq_true rfl) (Nat.le_of_ble_eq_true rfl) (by decide) (ent_32 K _) rfl rfl rfl (Nat.le_of_ble_eq_true rfl) rfl (by omega) (by omega)) (fun r2226 M2226 => ?_)
  refine V_iload hX (j := 1) (hj := rfl) 19 2231 rfl rfl ?_
  refine V_icmp_eq hX 20 2234 2236 rfl rfl (by decide) (fun c2231 => ?_) (fun c2231 => ?_)
  · refine V_iload hX (j := 1) (hj := rfl) 23 2238 rfl rfl ?_
    refine V_if_ne hX 24 2241 2253 rfl rfl (by decide) (fun c2238 => ?_) (fun c2238 => ?_)
    · refine VV_sub [2, 3, 4, 5, 6, 7] rfl ?_
      exact bt_La_law_2253 hX hSc k28 v5 c9 s9 hk28 (by omega) (by omega) M2226
    · refine V_aload_n hX (j := 5) (hj := rfl) 25 2242 rfl rfl ?_
      refine V_iconst hX (v := 0) (hv := by decide) 26 2243 rfl rfl ?_
      refine V_lald hX 27 2244 rfl rfl ?_
      refine V_iload hX (j := 0) (hj := rfl) 28 2246 rfl rfl ?_
      refine V_i2l hX 29 2247 rfl rfl ?_
      refine V_lcmp hX 30 2248 rfl rfl ?_
      refine V_if_eq hX 31 2251 2253 rfl rfl (by decide) (fun c2248 => ?_) (fun c2248 => ?_)
      · refine VV_sub [2, 3, 4, 5, 6, 7] rfl ?_
        exact bt_La_law_2253 hX hSc k28 v5 c9 s9 hk28 (by omega) (by omega) M2226
      · refine V_iconst hX (v := 0) (hv := by decide) 32 2252 rfl rfl ?_
        exact V_zret hX 33 rfl rfl (by omega) (by omega) rfl
  · refine V_iconst hX (v := 0) (hv := by decide) 21 2235 rfl rfl ?_
    exact V_zret hX 22 rfl rfl (by omega) (by omega) rfl
set_option maxRecDepth 20000 in
theorem bt_La_law_2309 {l : Launch} {K : KT} {X : XT} (hX : Cx l K 1500 9 603072 7194729 X code "SeriesArchiveLaw" (some .boolean) [] L_La_law_2256) {b sl : Nat} {xs : Nat → Int32} (hSc : SC K X b sl xs) (k28 : Int32 → Mm → Rs Int32) (v5 : Int32) (c9 s9 : Nat) (hk28 : ∀ (v5 : Int32) M, VV l K 1500 9 603072 7194729 rvI X (k28 v5 M) (c9 + 85) (s9 + 11934) M 28 [(0, .ref b), (1, .ref (kA K 0)), (2, .ref (kA K 32)), (3, .ref (kA K 45)), (4, .ref (kA K 46)), (5, .int v5)] []) (hc9 : c9 + 85 ≤ 603072) (hs9 : s9 + 11934 ≤ 7194729) (M : Mm) : VV l K 1500 9 603072 7194729 rvI X (fn_La_law_2309 xs sl k28 v5 M) (c9 + 2) (s9 + 12) M 2309 [(0, .ref b), (1, .ref (kA K 0)), (2, .ref (kA K 32)), (3, .ref (kA K 45)), (4, .ref (kA K 46)), (5, .int v5)] [] := by
  unfold fn_La_law_2309
  refine V_goto hX 34 3926 rfl (by decide) ?_
  refine VV_wd (c9 + 85) (s9 + 11934) (by omega) (by omega) ?_
  exact bt_La_law_3926 (cx_L hX dec_La_law_3923) hSc k28 v5 c9 s9 hk28 (by omega) (by omega) M
set_option maxRecDepth 20000 in
theorem bt_La_law_2256 {l : Launch} {K : KT} {X : XT} (hX : Cx l K 1500 9 603072 7194729 X code "SeriesArchiveLaw" (some .boolean) [] L_La_law_2256) {b sl : Nat} {xs : Nat → Int32} (hSc : SC K X b sl xs) (k28 : Int32 → Mm → Rs Int32) (v5 : Int32) (c9 s9 : Nat) (hk28 : ∀ (v5 : Int32) M, VV l K 1500 9 603072 7194729 rvI X (k28 v5 M) (c9 + 85) (s9 + 11934) M 28 [(0, .ref b), (1, .ref (kA K 0)), (2, .ref (kA K 32)), (3, .ref (kA K 45)), (4, .ref (kA K 46)), (5, .int v5)] []) (hc9 : c9 + 85 ≤ 603072) (hs9 : s9 + 11934 ≤ 7194729) (M : Mm) : VV l K 1500 9 603072 7194729 rvI X (fn_La_law_2256 xs sl k28 v5 M) (c9 + 0) (s9 + 0) M 2256 [(0, .ref b), (1, .ref (kA K 0)), (2, .ref (kA K 32)), (3, .ref (kA K 45)), (4, .ref (kA K 46)), (5, .int v5)] [] := by
  unfold fn_La_law_2256
  refine V_aload_n hX (j := 1) (hj := rfl) 0 2257 rfl rfl ?_
  refine V_aload_n hX (j := 0) (hj := rfl) 1 2258 rfl rfl ?_
  refine V_iload hX (j := 5) (hj := rfl) 2 2260 rfl rfl ?_
  refine V_iconst hX (v := 1) (hv := by decide) 3 2261 rfl rfl ?_
  refine V_iadd hX 4 2262 rfl rfl ?_
  refine V_sld hX hSc 5 2263 rfl rfl (fun g2262 => ?_)
  refine V_aload_n hX (j := 3) (hj := rfl) 6 2264 rfl rfl ?_
  refine V_callI hX 2267 (c9 + 2) (s9 + 12) rfl rfl rfl (by omega) (by omega) (VR_SX hX 7 (ct_La_bestSumByRanges (cx_t hX) K (xs (v5 + 1).toNatClampNeg) M) myw_La_bestSumByRanges mt_La_bestSumByRanges ml_La_291 (Nat.le_of_ble_eq_true rfl) (Nat.le_of_ble_eq_true rfl) rfl rfl (Nat.le_of_ble_eq_true rfl) rfl (by omega) (by omega)) (fun r2264 M2264 => ?_)
  refine V_istore hX 8 2269 [(6, .int r2264), (0, .ref b), (1, .ref (kA K 0)), (2, .ref (kA K 32)), (3, .ref (kA K 45)), (4, .ref (kA K 46)), (5, .int v5)] rfl rfl (Nat.le_of_ble_eq_true rfl) rfl ?_
  refine V_aload_n hX (j := 3) (hj := rfl) 9 2270 rfl rfl ?_
  refine V_aload_n hX (j := 1) (hj := rfl) 10 2271 rfl rfl ?_
  refine V_iload hX (j := 6) (hj := rfl) 11 2273 rfl rfl ?_
  refine V_iconst hX (v := 1) (hv := by decide) 12 2274 rfl rfl ?_
  refine V_iadd hX 13 2275 rfl rfl ?_
  refine V_sld hX hSc 14 2276 rfl rfl (fun g2275 => ?_)
  refine V_callI hX 2279 (c9 + 2) (s9 + 12) rfl rfl rfl (by omega) (by omega) (VR_V hX 15 (ct_Mo_bestSumByRanges (cx_t hX) K (xs (v5 + 1).toNatClampNeg) M2264) my_Mo_bestSumByRanges mi_Mo_bestSumByRanges ms_Mo_bestSumByRanges ml_La_293 (Nat.le_of_ble_eq_true rfl) (Nat.le_of_ble_eq_true rfl) (by decide) (ent_32 K _) rfl rfl rfl (Nat.le_of_ble_eq_true rfl) rfl (by omega) (by omega)) (fun r2276 M2276 => ?_)
  refine V_istore hX 16 2281 [(7, .int r2276), (6, .int r2264), (0, .ref b), (1, .ref (kA K 0)), (2, .ref (kA K 32)), (3, .ref (kA K 45)), (4, .ref (kA K 46)), (5, .int v5)] rfl rfl (Nat.le_of_ble_eq_true rfl) rfl ?_
  refine V_aload_n hX (j := 4) (hj := rfl) 17 2282 rfl rfl ?_
  refine V_callI hX 2285 (c9 + 2) (s9 + 12) rfl rfl rfl (by omega) (by omega) (VR_V hX 18 (ct_Mo_thrown (cx_t hX) K M2276) my_Mo_thrown mi_Mo_thrown ms_Mo_thrown ml_La_204 (Nat.le_of_ble_eq_true rfl) (Nat.le_of_ble_eq_true rfl) (by decide) (ent_32 K _) rfl rfl rfl (Nat.le_of_ble_eq_true rfl) rfl (by omega) (by omega)) (fun r2282 M2282 => ?_)
  refine V_iload hX (j := 1) (hj := rfl) 19 2287 rfl rfl ?_
  refine V_icmp_eq hX 20 2290 2292 rfl rfl (by decide) (fun c2287 => ?_) (fun c2287 => ?_)
  · refine V_iload hX (j := 1) (hj := rfl) 23 2294 rfl rfl ?_
    refine V_if_ne hX 24 2297 2309 rfl rfl (by decide) (fun c2294 => ?_) (fun c2294 => ?_)
    · refine VV_sub [2, 3, 4, 5, 6, 7] rfl ?_
      exact bt_La_law_2309 hX hSc k28 v5 c9 s9 hk28 (by omega) (by omega) M2282
    · refine V_aload_n hX (j := 5) (hj := rfl) 25 2298 rfl rfl ?_
      refine V_iconst hX (v := 0) (hv := by decide) 26 2299 rfl rfl ?_
      refine V_lald hX 27 2300 rfl rfl ?_
      refine V_iload hX (j := 0) (hj := rfl) 28 2302 rfl rfl ?_
      refine V_i2l hX 29 2303 rfl rfl ?_
      refine V_lcmp hX 30 2304 rfl rfl ?_
      refine V_if_eq hX 31 2307 2309 rfl rfl (by decide) (fun c2304 => ?_) (fun c2304 => ?_)
      · refine VV_sub [2, 3, 4, 5, 6, 7] rfl ?_
        exact bt_La_law_2309 hX hSc k28 v5 c9 s9 hk28 (by omega) (by omega) M2282
      · refine V_iconst hX (v := 0) (hv := by decide) 32 2308 rfl rfl ?_
        exact V_zret hX 33 rfl rfl (by omega) (by omega) rfl
  · refine V_iconst hX (v := 0) (hv := by decide) 21 2291 rfl rfl ?_
    exact V_zret hX 22 rfl rfl (by omega) (by omega) rfl
set_option maxRecDepth 20000 in
theorem bt_La_law_2365 {l : Launch} {K : KT} {X : XT} (hX : Cx l K 1500 9 603072 7194729 X code "SeriesArchiveLaw" (some .boolean) [] L_La_law_2312) {b sl : Nat} {xs : Nat → Int32} (hSc : SC K X b sl xs) (k28 : Int32 → Mm → Rs Int32) (v5 : Int32) (c9 s9 : Nat) (hk28 : ∀ (v5 : Int32) M, VV l K 1500 9 603072 7194729 rvI X (k28 v5 M) (c9 + 85) (s9 + 11934) M 28 [(0, .ref b), (1, .ref (kA K 0)), (2, .ref (kA K 32)), (3, .ref (kA K 45)), (4, .ref (kA K 46)), (5, .int v5)] []) (hc9 : c9 + 85 ≤ 603072) (hs9 : s9 + 11934 ≤ 7194729) (M : Mm) : VV l K 1500 9 603072 7194729 rvI X (fn_La_law_2365 xs sl k28 v5 M) (c9 + 2) (s9 + 12) M 2365 [(0, .ref b), (1, .ref (kA K 0)), (2, .ref (kA K 32)), (3, .ref (kA K 45)), (4, .ref (kA K 46)), (5, .int v5)] [] := by
  unfold fn_La_law_2365
  refine V_goto hX 34 3926 rfl (by decide) ?_
  refine VV_wd (c9 + 85) (s9 + 11934) (by omega) (by omega) ?_
  exact bt_La_law_3926 (cx_L hX dec_La_law_3923) hSc k28 v5 c9 s9 hk28 (by omega) (by omega) M
set_option maxRecDepth 20000 in
theorem bt_La_law_2312 {l : Launch} {K : KT} {X : XT} (hX : Cx l K 1500 9 603072 7194729 X code "SeriesArchiveLaw" (some .boolean) [] L_La_law_2312) {b sl : Nat} {xs : Nat → Int32} (hSc : SC K X b sl xs) (k28 : Int32 → Mm → Rs Int32) (v5 : Int32) (c9 s9 : Nat) (hk28 : ∀ (v5 : Int32) M, VV l K 1500 9 603072 7194729 rvI X (k28 v5 M) (c9 + 85) (s9 + 11934) M 28 [(0, .ref b), (1, .ref (kA K 0)), (2, .ref (kA K 32)), (3, .ref (kA K 45)), (4, .ref (kA K 46)), (5, .int v5)] []) (hc9 : c9 + 85 ≤ 603072) (hs9 : s9 + 11934 ≤ 7194729) (M : Mm) : VV l K 1500 9 603072 7194729 rvI X (fn_La_law_2312 xs sl k28 v5 M) (c9 + 0) (s9 + 0) M 2312 [(0, .ref b), (1, .ref (kA K 0)), (2, .ref (kA K 32)), (3, .ref (kA K 45)), (4, .ref (kA K 46)), (5, .int v5)] [] := by
  unfold fn_La_law_2312
  refine V_aload_n hX (j := 1) (hj := rfl) 0 2313 rfl rfl ?_
  refine V_aload_n hX (j := 0) (hj := rfl) 1 2314 rfl rfl ?_
  refine V_iload hX (j := 5) (hj := rfl) 2 2316 rfl rfl ?_
  refine V_iconst hX (v := 1) (hv := by decide) 3 2317 rfl rfl ?_
  refine V_iadd hX 4 2318 rfl rfl ?_
  refine V_sld hX hSc 5 2319 rfl rfl (fun g2318 => ?_)
  refine V_aload_n hX (j := 3) (hj := rfl) 6 2320 rfl rfl ?_
  refine V_callI hX 2323 (c9 + 2) (s9 + 12) rfl rfl rfl (by omega) (by omega) (VR_SX hX 7 (ct_La_bestStart (cx_t hX) K (xs (v5 + 1).toNatClampNeg) M) myw_La_bestStart mt_La_bestStart ml_La_294 (Nat.le_of_ble_eq_true rfl) (Nat.le_of_ble_eq_true rfl) rfl rfl (Nat.le_of_ble_eq_true rfl) rfl (by omega) (by omega)) (fun r2320 M2320 => ?_)
  refine V_istore hX 8 2325 [(6, .int r2320), (0, .ref b), (1, .ref (kA K 0)), (2, .ref (kA K 32)), (3, .ref (kA K 45)), (4, .ref (kA K 46)), (5, .int v5)] rfl rfl (Nat.le_of_ble_eq_true rfl) rfl ?_
  refine V_aload_n hX (j := 3) (hj := rfl) 9 2326 rfl rfl ?_
  refine V_aload_n hX (j := 1) (hj := rfl) 10 2327 rfl rfl ?_
  refine V_iload hX (j := 6) (hj := rfl) 11 2329 rfl rfl ?_
  refine V_iconst hX (v := 1) (hv := by decide) 12 2330 rfl rfl ?_
  refine V_iadd hX 13 2331 rfl rfl ?_
  refine V_sld hX hSc 14 2332 rfl rfl (fun g2331 => ?_)
  refine V_callI hX 2335 (c9 + 2) (s9 + 12) rfl rfl rfl (by omega) (by omega) (VR_V hX 15 (ct_Mo_bestStart (cx_t hX) K (xs (v5 + 1).toNatClampNeg) M2320) my_Mo_bestStart mi_Mo_bestStart ms_Mo_bestStart ml_La_296 (Nat.le_of_ble_eq_true rfl) (Nat.le_of_ble_eq_true rfl) (by decide) (ent_32 K _) rfl rfl rfl (Nat.le_of_ble_eq_true rfl) rfl (by omega) (by omega)) (fun r2332 M2332 => ?_)
  refine V_istore hX 16 2337 [(7, .int r2332), (6, .int r2320), (0, .ref b), (1, .ref (kA K 0)), (2, .ref (kA K 32)), (3, .ref (kA K 45)), (4, .ref (kA K 46)), (5, .int v5)] rfl rfl (Nat.le_of_ble_eq_true rfl) rfl ?_
  refine V_aload_n hX (j := 4) (hj := rfl) 17 2338 rfl rfl ?_
  refine V_callI hX 2341 (c9 + 2) (s9 + 12) rfl rfl rfl (by omega) (by omega) (VR_V hX 18 (ct_Mo_thrown (cx_t hX) K M2332) my_Mo_thrown mi_Mo_thrown ms_Mo_thrown ml_La_204 (Nat.le_of_ble_eq_true rfl) (Nat.le_of_ble_eq_true rfl) (by decide) (ent_32 K _) rfl rfl rfl (Nat.le_of_ble_eq_true rfl) rfl (by omega) (by omega)) (fun r2338 M2338 => ?_)
  refine V_iload hX (j := 1) (hj := rfl) 19 2343 rfl rfl ?_
  refine V_icmp_eq hX 20 2346 2348 rfl rfl (by decide) (fun c2343 => ?_) (fun c2343 => ?_)
  · refine V_iload hX (j := 1) (hj := rfl) 23 2350 rfl rfl ?_
    refine V_if_ne hX 24 2353 2365 rfl rfl (by decide) (fun c2350 => ?_) (fun c2350 => ?_)
    · refine VV_sub [2, 3, 4, 5, 6, 7] rfl ?_
      exact bt_La_law_2365 hX hSc k28 v5 c9 s9 hk28 (by omega) (by omega) M2338
    · refine V_aload_n hX (j := 5) (hj := rfl) 25 2354 rfl rfl ?_
      refine V_iconst hX (v := 0) (hv := by decide) 26 2355 rfl rfl ?_
      refine V_lald hX 27 2356 rfl rfl ?_
      refine V_iload hX (j := 0) (hj := rfl) 28 2358 rfl rfl ?_
      refine V_i2l hX 29 2359 rfl rfl ?_
      refine V_lcmp hX 30 2360 rfl rfl ?_
      refine V_if_eq hX 31 2363 2365 rfl rfl (by decide) (fun c2360 => ?_) (fun c2360 => ?_)
      · refine VV_sub [2, 3, 4, 5, 6, 7] rfl ?_
        exact bt_La_law_2365 hX hSc k28 v5 c9 s9 hk28 (by omega) (by omega) M2338
      · refine V_iconst hX (v := 0) (hv := by decide) 32 2364 rfl rfl ?_
        exact V_zret hX 33 rfl rfl (by omega) (by omega) rfl
  · refine V_iconst hX (v := 0) (hv := by decide) 21 2347 rfl rfl ?_
    exact V_zret hX 22 rfl rfl (by omega) (by omega) rfl
set_option maxRecDepth 20000 in
theorem bt_La_law_2421 {l : Launch} {K : KT} {X : XT} (hX : Cx l K 1500 9 603072 7194729 X code "SeriesArchiveLaw" (some .boolean) [] L_La_law_2368) {b sl : Nat} {xs : Nat → Int32} (hSc : SC K X b sl xs) (k28 : Int32 → Mm → Rs Int32) (v5 : Int32) (c9 s9 : Nat) (hk28 : ∀ (v5 : Int32) M, VV l K 1500 9 603072 7194729 rvI X (k28 v5 M) (c9 + 85) (s9 + 11934) M 28 [(0, .ref b), (1, .ref (kA K 0)), (2, .ref (kA K 32)), (3, .ref (kA K 45)), (4, .ref (kA K 46)), (5, .int v5)] []) (hc9 : c9 + 85 ≤ 603072) (hs9 : s9 + 11934 ≤ 7194729) (M : Mm) : VV l K 1500 9 603072 7194729 rvI X (fn_La_law_2421 xs sl k28 v5 M) (c9 + 2) (s9 + 12) M 2421 [(0, .ref b), (1, .ref (kA K 0)), (2, .ref (kA K 32)), (3, .ref (kA K 45)), (4, .ref (kA K 46)), (5, .int v5)] [] := by
  unfold fn_La_law_2421
  refine V_goto hX 34 3926 rfl (by decide) ?_
  refine VV_wd (c9 + 85) (s9 + 11934) (by omega) (by omega) ?_
  exact bt_La_law_3926 (cx_L hX dec_La_law_3923) hSc k28 v5 c9 s9 hk28 (by omega) (by omega) M
set_option maxRecDepth 20000 in
theorem bt_La_law_2368 {l : Launch} {K : KT} {X : XT} (hX : Cx l K 1500 9 603072 7194729 X code "SeriesArchiveLaw" (some .boolean) [] L_La_law_2368) {b sl : Nat} {xs : Nat → Int32} (hSc : SC K X b sl xs) (k28 : Int32 → Mm → Rs Int32) (v5 : Int32) (c9 s9 : Nat) (hk28 : ∀ (v5 : Int32) M, VV l K 1500 9 603072 7194729 rvI X (k28 v5 M) (c9 + 85) (s9 + 11934) M 28 [(0, .ref b), (1, .ref (kA K 0)), (2, .ref (kA K 32)), (3, .ref (kA K 45)), (4, .ref (kA K 46)), (5, .int v5)] []) (hc9 : c9 + 85 ≤ 603072) (hs9 : s9 + 11934 ≤ 7194729) (M : Mm) : VV l K 1500 9 603072 7194729 rvI X (fn_La_law_2368 xs sl k28 v5 M) (c9 + 0) (s9 + 0) M 2368 [(0, .ref b), (1, .ref (kA K 0)), (2, .ref (kA K 32)), (3, .ref (kA K 45)), (4, .ref (kA K 46)), (5, .int v5)] [] := by
  unfold fn_La_law_2368
  refine V_aload_n hX (j := 1) (hj := rfl) 0 2369 rfl rfl ?_
  refine V_aload_n hX (j := 0) (hj := rfl) 1 2370 rfl rfl ?_
  refine V_iload hX (j := 5) (hj := rfl) 2 2372 rfl rfl ?_
  refine V_iconst hX (v := 1) (hv := by decide) 3 2373 rfl rfl ?_
  refine V_iadd hX 4 2374 rfl rfl ?_
  refine V_sld hX hSc 5 2375 rfl rfl (fun g2374 => ?_)
  refine V_aload_n hX (j := 3) (hj := rfl) 6 2376 rfl rfl ?_
  refine V_callI hX 2379 (c9 + 2) (s9 + 12) rfl rfl rfl (by omega) (by omega) (VR_SX hX 7 (ct_La_bestEnd (cx_t hX) K (xs (v5 + 1).toNatClampNeg) M) myw_La_bestEnd mt_La_bestEnd ml_La_297 (Nat.le_of_ble_eq_true rfl) (Nat.le_of_ble_eq_true rfl) rfl rfl (Nat.le_of_ble_eq_true rfl) rfl (by omega) (by omega)) (fun r2376 M2376 => ?_)
  refine V_istore hX 8 2381 [(6, .int r2376), (0, .ref b), (1, .ref (kA K 0)), (2, .ref (kA K 32)), (3, .ref (kA K 45)), (4, .ref (kA K 46)), (5, .int v5)] rfl rfl (Nat.le_of_ble_eq_true rfl) rfl ?_
  refine V_aload_n hX (j := 3) (hj := rfl) 9 2382 rfl rfl ?_
  refine V_aload_n hX (j := 1) (hj := rfl) 10 2383 rfl rfl ?_
  refine V_iload hX (j := 6) (hj := rfl) 11 2385 rfl rfl ?_
  refine V_iconst hX (v := 1) (hv := by decide) 12 2386 rfl rfl ?_
  refine V_iadd hX 13 2387 rfl rfl ?_
  refine V_sld hX hSc 14 2388 rfl rfl (fun g2387 => ?_)
  refine V_callI hX 2391 (c9 + 2) (s9 + 12) rfl rfl rfl (by omega) (by omega) (VR_V hX 15 (ct_Mo_bestEnd (cx_t hX) K (xs (v5 + 1).toNatClampNeg) M2376) my_Mo_bestEnd mi_Mo_bestEnd ms_Mo_bestEnd ml_La_299 (Nat.le_of_ble_eq_true rfl) (Nat.le_of_ble_eq_true rfl) (by decide) (ent_32 K _) rfl rfl rfl (Nat.le_of_ble_eq_true rfl) rfl (by omega) (by omega)) (fun r2388 M2388 => ?_)
  refine V_istore hX 16 2393 [(7, .int r2388), (6, .int r2376), (0, .ref b), (1, .ref (kA K 0)), (2, .ref (kA K 32)), (3, .ref (kA K 45)), (4, .ref (kA K 46)), (5, .int v5)] rfl rfl (Nat.le_of_ble_eq_true rfl) rfl ?_
  refine V_aload_n hX (j := 4) (hj := rfl) 17 2394 rfl rfl ?_
  refine V_callI hX 2397 (c9 + 2) (s9 + 12) rfl rfl rfl (by omega) (by omega) (VR_V hX 18 (ct_Mo_thrown (cx_t hX) K M2388) my_Mo_thrown mi_Mo_thrown ms_Mo_thrown ml_La_204 (Nat.le_of_ble_eq_true rfl) (Nat.le_of_ble_eq_true rfl) (by decide) (ent_32 K _) rfl rfl rfl (Nat.le_of_ble_eq_true rfl) rfl (by omega) (by omega)) (fun r2394 M2394 => ?_)
  refine V_iload hX (j := 1) (hj := rfl) 19 2399 rfl rfl ?_
  refine V_icmp_eq hX 20 2402 2404 rfl rfl (by decide) (fun c2399 => ?_) (fun c2399 => ?_)
  · refine V_iload hX (j := 1) (hj := rfl) 23 2406 rfl rfl ?_
    refine V_if_ne hX 24 2409 2421 rfl rfl (by decide) (fun c2406 => ?_) (fun c2406 => ?_)
    · refine VV_sub [2, 3, 4, 5, 6, 7] rfl ?_
      exact bt_La_law_2421 hX hSc k28 v5 c9 s9 hk28 (by omega) (by omega) M2394
    · refine V_aload_n hX (j := 5) (hj := rfl) 25 2410 rfl rfl ?_
      refine V_iconst hX (v := 0) (hv := by decide) 26 2411 rfl rfl ?_
      refine V_lald hX 27 2412 rfl rfl ?_
      refine V_iload hX (j := 0) (hj := rfl) 28 2414 rfl rfl ?_
      refine V_i2l hX 29 2415 rfl rfl ?_
      refine V_lcmp hX 30 2416 rfl rfl ?_
      refine V_if_eq hX 31 2419 2421 rfl rfl (by decide) (fun c2416 => ?_) (fun c2416 => ?_)
      · refine VV_sub [2, 3, 4, 5, 6, 7] rfl ?_
        exact bt_La_law_2421 hX hSc k28 v5 c9 s9 hk28 (by omega) (by omega) M2394
      · refine V_iconst hX (v := 0) (hv := by decide) 32 2420 rfl rfl ?_
        exact V_zret hX 33 rfl rfl (by omega) (by omega) rfl
  · refine V_iconst hX (v := 0) (hv := by decide) 21 2403 rfl rfl ?_
    exact V_zret hX 22 rfl rfl (by omega) (by omega) rfl
set_option maxRecDepth 20000 in
theorem bt_La_law_2477 {l : Launch} {K : KT} {X : XT} (hX : Cx l K 1500 9 603072 7194729 X code "SeriesArchiveLaw" (some .boolean) [] L_La_law_2424) {b sl : Nat} {xs : Nat → Int32} (hSc : SC K X b sl xs) (k28 : Int32 → Mm → Rs Int32) (v5 : Int32) (c9 s9 : Nat) (hk28 : ∀ (v5 : Int32) M, VV l K 1500 9 603072 7194729 rvI X (k28 v5 M) (c9 + 85) (s9 + 11934) M 28 [(0, .ref b), (1, .ref (kA K 0)), (2, .ref (kA K 32)), (3, .ref (kA K 45)), (4, .ref (kA K 46)), (5, .int v5)] []) (hc9 : c9 + 85 ≤ 603072) (hs9 : s9 + 11934 ≤ 7194729) (M : Mm) : VV l K 1500 9 603072 7194729 rvI X (fn_La_law_2477 xs sl k28 v5 M) (c9 + 1) (s9 + 6) M 2477 [(0, .ref b), (1, .ref (kA K 0)), (2, .ref (kA K 32)), (3, .ref (kA K 45)), (4, .ref (kA K 46)), (5, .int v5)] [] := by
  unfold fn_La_law_2477
  refine V_goto hX 34 3926 rfl (by decide) ?_
  refine VV_wd (c9 + 85) (s9 + 11934) (by omega) (by omega) ?_
  exact bt_La_law_3926 (cx_L hX dec_La_law_3923) hSc k28 v5 c9 s9 hk28 (by omega) (by omega) M
set_option maxRecDepth 20000 in
theorem bt_La_law_2424 {l : Launch} {K : KT} {X : XT} (hX : Cx l K 1500 9 603072 7194729 X code "SeriesArchiveLaw" (some .boolean) [] L_La_law_2424) {b sl : Nat} {xs : Nat → Int32} (hSc : SC K X b sl xs) (k28 : Int32 → Mm → Rs Int32) (v5 : Int32) (c9 s9 : Nat) (hk28 : ∀ (v5 : Int32) M, VV l K 1500 9 603072 7194729 rvI X (k28 v5 M) (c9 + 85) (s9 + 11934) M 28 [(0, .ref b), (1, .ref (kA K 0)), (2, .ref (kA K 32)), (3, .ref (kA K 45)), (4, .ref (kA K 46)), (5, .int v5)] []) (hc9 : c9 + 85 ≤ 603072) (hs9 : s9 + 11934 ≤ 7194729) (M : Mm) : VV l K 1500 9 603072 7194729 rvI X (fn_La_law_2424 xs sl k28 v5 M) (c9 + 0) (s9 + 0) M 2424 [(0, .ref b), (1, .ref (kA K 0)), (2, .ref (kA K 32)), (3, .ref (kA K 45)), (4, .ref (kA K 46)), (5, .int v5)] [] := by
  unfold fn_La_law_2424
  refine V_aload_n hX (j := 1) (hj := rfl) 0 2425 rfl rfl ?_
  refine V_aload_n hX (j := 0) (hj := rfl) 1 2426 rfl rfl ?_
  refine V_iload hX (j := 5) (hj := rfl) 2 2428 rfl rfl ?_
  refine V_iconst hX (v := 1) (hv := by decide) 3 2429 rfl rfl ?_
  refine V_iadd hX 4 2430 rfl rfl ?_
  refine V_sld hX hSc 5 2431 rfl rfl (fun g2430 => ?_)
  refine V_aload_n hX (j := 3) (hj := rfl) 6 2432 rfl rfl ?_
  refine V_callI hX 2435 (c9 + 1) (s9 + 6) rfl rfl rfl (by omega) (by omega) (VR_SX hX 7 (ct_La_inversions (cx_t hX) K (xs (v5 + 1).toNatClampNeg) M) myw_La_inversions mt_La_inversions ml_La_300 (Nat.le_of_ble_eq_true rfl) (Nat.le_of_ble_eq_true rfl) rfl rfl (Nat.le_of_ble_eq_true rfl) rfl (by omega) (by omega)) (fun r2432 M2432 => ?_)
  refine V_istore hX 8 2437 [(6, .int r2432), (0, .ref b), (1, .ref (kA K 0)), (2, .ref (kA K 32)), (3, .ref (kA K 45)), (4, .ref (kA K 46)), (5, .int v5)] rfl rfl (Nat.le_of_ble_eq_true rfl) rfl ?_
  refine V_aload_n hX (j := 3) (hj := rfl) 9 2438 rfl rfl ?_
  refine V_aload_n hX (j := 1) (hj := rfl) 10 2439 rfl rfl ?_
  refine V_iload hX (j := 6) (hj := rfl) 11 2441 rfl rfl ?_
  refine V_iconst hX (v := 1) (hv := by decide) 12 2442 rfl rfl ?_
  refine V_iadd hX 13 2443 rfl rfl ?_
  refine V_sld hX hSc 14 2444 rfl rfl (fun g2443 => ?_)
  refine V_callI hX 2447 (c9 + 1) (s9 + 6) rfl rfl rfl (by omega) (by omega) (VR_V hX 15 (ct_Mo_inversions (cx_t hX) K (xs (v5 + 1).toNatClampNeg) M2432) my_Mo_inversions mi_Mo_inversions ms_Mo_inversions ml_La_302 (Nat.le_of_ble_eq_true rfl) (Nat.le_of_ble_eq_true rfl) (by decide) (ent_32 K _) rfl rfl rfl (Nat.le_of_ble_eq_true rfl) rfl (by omega) (by omega)) (fun r2444 M2444 => ?_)
  refine V_istore hX 16 2449 [(7, .int r2444), (6, .int r2432), (0, .ref b), (1, .ref (kA K 0)), (2, .ref (kA K 32)), (3, .ref (kA K 45)), (4, .ref (kA K 46)), (5, .int v5)] rfl rfl (Nat.le_of_ble_eq_true rfl) rfl ?_
  refine V_aload_n hX (j := 4) (hj := rfl) 17 2450 rfl rfl ?_
  refine V_callI hX 2453 (c9 + 1) (s9 + 6) rfl rfl rfl (by omega) (by omega) (VR_V hX 18 (ct_Mo_thrown (cx_t hX) K M2444) my_Mo_thrown mi_Mo_thrown ms_Mo_thrown ml_La_204 (Nat.le_of_ble_eq_true rfl) (Nat.le_of_ble_eq_true rfl) (by decide) (ent_32 K _) rfl rfl rfl (Nat.le_of_ble_eq_true rfl) rfl (by omega) (by omega)) (fun r2450 M2450 => ?_)
  refine V_iload hX (j := 1) (hj := rfl) 19 2455 rfl rfl ?_
  refine V_icmp_eq hX 20 2458 2460 rfl rfl (by decide) (fun c2455 => ?_) (fun c2455 => ?_)
  · refine V_iload hX (j := 1) (hj := rfl) 23 2462 rfl rfl ?_
    refine V_if_ne hX 24 2465 2477 rfl rfl (by decide) (fun c2462 => ?_) (fun c2462 => ?_)
    · refine VV_sub [2, 3, 4, 5, 6, 7] rfl ?_
      exact bt_La_law_2477 hX hSc k28 v5 c9 s9 hk28 (by omega) (by omega) M2450
    · refine V_aload_n hX (j := 5) (hj := rfl) 25 2466 rfl rfl ?_
      refine V_iconst hX (v := 0) (hv := by decide) 26 2467 rfl rfl ?_
      refine V_lald hX 27 2468 rfl rfl ?_
      refine V_iload hX (j := 0) (hj := rfl) 28 2470 rfl rfl ?_
      refine V_i2l hX 29 2471 rfl rfl ?_
      refine V_lcmp hX 30 2472 rfl rfl ?_
      refine V_if_eq hX 31 2475 2477 rfl rfl (by decide) (fun c2472 => ?_) (fun c2472 => ?_)
      · refine VV_sub [2, 3, 4, 5, 6, 7] rfl ?_
        exact bt_La_law_2477 hX hSc k28 v5 c9 s9 hk28 (by omega) (by omega) M2450
      · refine V_iconst hX (v := 0) (hv := by decide) 32 2476 rfl rfl ?_
        exact V_zret hX 33 rfl rfl (by omega) (by omega) rfl
  · refine V_iconst hX (v := 0) (hv := by decide) 21 2459 rfl rfl ?_
    exact V_zret hX 22 rfl rfl (by omega) (by omega) rfl
set_option maxRecDepth 20000 in
theorem bt_La_law_2533 {l : Launch} {K : KT} {X : XT} (hX : Cx l K 1500 9 603072 7194729 X code "SeriesArchiveLaw" (some .boolean) [] L_La_law_2480) {b sl : Nat} {xs : Nat → Int32} (hSc : SC K X b sl xs) (k28 : Int32 → Mm → Rs Int32) (v5 : Int32) (c9 s9 : Nat) (hk28 : ∀ (v5 : Int32) M, VV l K 1500 9 603072 7194729 rvI X (k28 v5 M) (c9 + 85) (s9 + 11934) M 28 [(0, .ref b), (1, .ref (kA K 0)), (2, .ref (kA K 32)), (3, .ref (kA K 45)), (4, .ref (kA K 46)), (5, .int v5)] []) (hc9 : c9 + 85 ≤ 603072) (hs9 : s9 + 11934 ≤ 7194729) (M : Mm) : VV l K 1500 9 603072 7194729 rvI X (fn_La_law_2533 xs sl k28 v5 M) (c9 + 1) (s9 + 6) M 2533 [(0, .ref b), (1, .ref (kA K 0)), (2, .ref (kA K 32)), (3, .ref (kA K 45)), (4, .ref (kA K 46)), (5, .int v5)] [] := by
  unfold fn_La_law_2533
  refine V_goto hX 34 3926 rfl (by decide) ?_
  refine VV_wd (c9 + 85) (s9 + 11934) (by omega) (by omega) ?_
  exact bt_La_law_3926 (cx_L hX dec_La_law_3923) hSc k28 v5 c9 s9 hk28 (by omega) (by omega) M
set_option maxRecDepth 20000 in
theorem bt_La_law_2480 {l : Launch} {K : KT} {X : XT} (hX : Cx l K 1500 9 603072 7194729 X code "SeriesArchiveLaw" (some .boolean) [] L_La_law_2480) {b sl : Nat} {xs : Nat → Int32} (hSc : SC K X b sl xs) (k28 : Int32 → Mm → Rs Int32) (v5 : Int32) (c9 s9 : Nat) (hk28 : ∀ (v5 : Int32) M, VV l K 1500 9 603072 7194729 rvI X (k28 v5 M) (c9 + 85) (s9 + 11934) M 28 [(0, .ref b), (1, .ref (kA K 0)), (2, .ref (kA K 32)), (3, .ref (kA K 45)), (4, .ref (kA K 46)), (5, .int v5)] []) (hc9 : c9 + 85 ≤ 603072) (hs9 : s9 + 11934 ≤ 7194729) (M : Mm) : VV l K 1500 9 603072 7194729 rvI X (fn_La_law_2480 xs sl k28 v5 M) (c9 + 0) (s9 + 0) M 2480 [(0, .ref b), (1, .ref (kA K 0)), (2, .ref (kA K 32)), (3, .ref (kA K 45)), (4, .ref (kA K 46)), (5, .int v5)] [] := by
  unfold fn_La_law_2480
  refine V_aload_n hX (j := 1) (hj := rfl) 0 2481 rfl rfl ?_
  refine V_aload_n hX (j := 0) (hj := rfl) 1 2482 rfl rfl ?_
  refine V_iload hX (j := 5) (hj := rfl) 2 2484 rfl rfl ?_
  refine V_iconst hX (v := 1) (hv := by decide) 3 2485 rfl rfl ?_
  refine V_iadd hX 4 2486 rfl rfl ?_
  refine V_sld hX hSc 5 2487 rfl rfl (fun g2486 => ?_)
  refine V_aload_n hX (j := 3) (hj := rfl) 6 2488 rfl rfl ?_
  refine V_callI hX 2491 (c9 + 1) (s9 + 6) rfl rfl rfl (by omega) (by omega) (VR_SX hX 7 (ct_La_inversionsByPairs (cx_t hX) K (xs (v5 + 1).toNatClampNeg) M) myw_La_inversionsByPairs mt_La_inversionsByPairs ml_La_303 (Nat.le_of_ble_eq_true rfl) (Nat.le_of_ble_eq_true rfl) rfl rfl (Nat.le_of_ble_eq_true rfl) rfl (by omega) (by omega)) (fun r2488 M2488 => ?_)
  refine V_istore hX 8 2493 [(6, .int r2488), (0, .ref b), (1, .ref (kA K 0)), (2, .ref (kA K 32)), (3, .ref (kA K 45)), (4, .ref (kA K 46)), (5, .int v5)] rfl rfl (Nat.le_of_ble_eq_true rfl) rfl ?_
  refine V_aload_n hX (j := 3) (hj := rfl) 9 2494 rfl rfl ?_
  refine V_aload_n hX (j := 1) (hj := rfl) 10 2495 rfl rfl ?_
  refine V_iload hX (j := 6) (hj := rfl) 11 2497 rfl rfl ?_
  refine V_iconst hX (v := 1) (hv := by decide) 12 2498 rfl rfl ?_
  refine V_iadd hX 13 2499 rfl rfl ?_
  refine V_sld hX hSc 14 2500 rfl rfl (fun g2499 => ?_)
  refine V_callI hX 2503 (c9 + 1) (s9 + 6) rfl rfl rfl (by omega) (by omega) (VR_V hX 15 (ct_Mo_inversionsByPairs (cx_t hX) K (xs (v5 + 1).toNatClampNeg) M2488) my_Mo_inversionsByPairs mi_Mo_inversionsByPairs ms_Mo_inversionsByPairs ml_La_305 (Nat.le_of_ble_eq_true rfl) (Nat.le_of_ble_eq_true rfl) (by decide) (ent_32 K _) rfl rfl rfl (Nat.le_of_ble_eq_true rfl) rfl (by omega) (by omega)) (fun r2500 M2500 => ?_)
  refine V_istore hX 16 2505 [(7, .int r2500), (6, .int r2488), (0, .ref b), (1, .ref (kA K 0)), (2, .ref (kA K 32)), (3, .ref (kA K 45)), (4, .ref (kA K 46)), (5, .int v5)] rfl rfl (Nat.le_of_ble_eq_true rfl) rfl ?_
  refine V_aload_n hX (j := 4) (hj := rfl) 17 2506 rfl rfl ?_
  refine V_callI hX 2509 (c9 + 1) (s9 + 6) rfl rfl rfl (by omega) (by omega) (VR_V hX 18 (ct_Mo_thrown (cx_t hX) K M2500) my_Mo_thrown mi_Mo_thrown ms_Mo_thrown ml_La_204 (Nat.le_of_ble_eq_true rfl) (Nat.le_of_ble_eq_true rfl) (by decide) (ent_32 K _) rfl rfl rfl (Nat.le_of_ble_eq_true rfl) rfl (by omega) (by omega)) (fun r2506 M2506 => ?_)
  refine V_iload hX (j := 1) (hj := rfl) 19 2511 rfl rfl ?_
  refine V_icmp_eq hX 20 2514 2516 rfl rfl (by decide) (fun c2511 => ?_) (fun c2511 => ?_)
  · refine V_iload hX (j := 1) (hj := rfl) 23 2518 rfl rfl ?_
    refine V_if_ne hX 24 2521 2533 rfl rfl (by decide) (fun c2518 => ?_) (fun c2518 => ?_)
    · refine VV_sub [2, 3, 4, 5, 6, 7] rfl ?_
      exact bt_La_law_2533 hX hSc k28 v5 c9 s9 hk28 (by omega) (by omega) M2506
    · refine V_aload_n hX (j := 5) (hj := rfl) 25 2522 rfl rfl ?_
      refine V_iconst hX (v := 0) (hv := by decide) 26 2523 rfl rfl ?_
      refine V_lald hX 27 2524 rfl rfl ?_
      refine V_iload hX (j := 0) (hj := rfl) 28 2526 rfl rfl ?_
      refine V_i2l hX 29 2527 rfl rfl ?_
      refine V_lcmp hX 30 2528 rfl rfl ?_
      refine V_if_eq hX 31 2531 2533 rfl rfl (by decide) (fun c2528 => ?_) (fun c2528 => ?_)
      · refine VV_sub [2, 3, 4, 5, 6, 7] rfl ?_
        exact bt_La_law_2533 hX hSc k28 v5 c9 s9 hk28 (by omega) (by omega) M2506
      · refine V_iconst hX (v := 0) (hv := by decide) 32 2532 rfl rfl ?_
        exact V_zret hX 33 rfl rfl (by omega) (by omega) rfl
  · refine V_iconst hX (v := 0) (hv := by decide) 21 2515 rfl rfl ?_
    exact V_zret hX 22 rfl rfl (by omega) (by omega) rfl
set_option maxRecDepth 20000 in
theorem bt_La_law_2589 {l : Launch} {K : KT} {X : XT} (hX : Cx l K 1500 9 603072 7194729 X code "SeriesArchiveLaw" (some .boolean) [] L_La_law_2536) {b sl : Nat} {xs : Nat → Int32} (hSc : SC K X b sl xs) (k28 : Int32 → Mm → Rs Int32) (v5 : Int32) (c9 s9 : Nat) (hk28 : ∀ (v5 : Int32) M, VV l K 1500 9 603072 7194729 rvI X (k28 v5 M) (c9 + 85) (s9 + 11934) M 28 [(0, .ref b), (1, .ref (kA K 0)), (2, .ref (kA K 32)), (3, .ref (kA K 45)), (4, .ref (kA K 46)), (5, .int v5)] []) (hc9 : c9 + 85 ≤ 603072) (hs9 : s9 + 11934 ≤ 7194729) (M : Mm) : VV l K 1500 9 603072 7194729 rvI X (fn_La_law_2589 xs sl k28 v5 M) (c9 + 2) (s9 + 12) M 2589 [(0, .ref b), (1, .ref (kA K 0)), (2, .ref (kA K 32)), (3, .ref (kA K 45)), (4, .ref (kA K 46)), (5, .int v5)] [] := by
  unfold fn_La_law_2589
  refine V_goto hX 34 3926 rfl (by decide) ?_
  refine VV_wd (c9 + 85) (s9 + 11934) (by omega) (by omega) ?_
  exact bt_La_law_3926 (cx_L hX dec_La_law_3923) hSc k28 v5 c9 s9 hk28 (by omega) (by omega) M
set_option maxRecDepth 20000 in
theorem bt_La_law_2536 {l : Launch} {K : KT} {X : XT} (hX : Cx l K 1500 9 603072 7194729 X code "SeriesArchiveLaw" (some .boolean) [] L_La_law_2536) {b sl : Nat} {xs : Nat → Int32} (hSc : SC K X b sl xs) (k28 : Int32 → Mm → Rs Int32) (v5 : Int32) (c9 s9 : Nat) (hk28 : ∀ (v5 : Int32) M, VV l K 1500 9 603072 7194729 rvI X (k28 v5 M) (c9 + 85) (s9 + 11934) M 28 [(0, .ref b), (1, .ref (kA K 0)), (2, .ref (kA K 32)), (3, .ref (kA K 45)), (4, .ref (kA K 46)), (5, .int v5)] []) (hc9 : c9 + 85 ≤ 603072) (hs9 : s9 + 11934 ≤ 7194729) (M : Mm) : VV l K 1500 9 603072 7194729 rvI X (fn_La_law_2536 xs sl k28 v5 M) (c9 + 0) (s9 + 0) M 2536 [(0, .ref b), (1, .ref (kA K 0)), (2, .ref (kA K 32)), (3, .ref (kA K 45)), (4, .ref (kA K 46)), (5, .int v5)] [] := by
  unfold fn_La_law_2536
  refine V_aload_n hX (j := 1) (hj := rfl) 0 2537 rfl rfl ?_
  refine V_aload_n hX (j := 0) (hj := rfl) 1 2538 rfl rfl ?_
  refine V_iload hX (j := 5) (hj := rfl) 2 2540 rfl rfl ?_
  refine V_iconst hX (v := 1) (hv := by decide) 3 2541 rfl rfl ?_
  refine V_iadd hX 4 2542 rfl rfl ?_
  refine V_sld hX hSc 5 2543 rfl rfl (fun g2542 => ?_)
  refine V_aload_n hX (j := 3) (hj := rfl) 6 2544 rfl rfl ?_
  refine V_callI hX 2547 (c9 + 2) (s9 + 12) rfl rfl rfl (by omega) (by omega) (VR_SX hX 7 (ct_La_leastPeriod (cx_t hX) K (xs (v5 + 1).toNatClampNeg) M) myw_La_leastPeriod mt_La_leastPeriod ml_La_306 (Nat.le_of_ble_eq_true rfl) (Nat.le_of_ble_eq_true rfl) rfl rfl (Nat.le_of_ble_eq_true rfl) rfl (by omega) (by omega)) (fun r2544 M2544 => ?_)
  refine V_istore hX 8 2549 [(6, .int r2544), (0, .ref b), (1, .ref (kA K 0)), (2, .ref (kA K 32)), (3, .ref (kA K 45)), (4, .ref (kA K 46)), (5, .int v5)] rfl rfl (Nat.le_of_ble_eq_true rfl) rfl ?_
  refine V_aload_n hX (j := 3) (hj := rfl) 9 2550 rfl rfl ?_
  refine V_aload_n hX (j := 1) (hj := rfl) 10 2551 rfl rfl ?_
  refine V_iload hX (j := 6) (hj := rfl) 11 2553 rfl rfl ?_
  refine V_iconst hX (v := 1) (hv := by decide) 12 2554 rfl rfl ?_
  refine V_iadd hX 13 2555 rfl rfl ?_
  refine V_sld hX hSc 14 2556 rfl rfl (fun g2555 => ?_)
  refine V_callI hX 2559 (c9 + 2) (s9 + 12) rfl rfl rfl (by omega) (by omega) (VR_V hX 15 (ct_Mo_leastPeriod (cx_t hX) K (xs (v5 + 1).toNatClampNeg) M2544) my_Mo_leastPeriod mi_Mo_leastPeriod ms_Mo_leastPeriod ml_La_308 (Nat.le_of_ble_eq_true rfl) (Nat.le_of_ble_eq_true rfl) (by decide) (ent_32 K _) rfl rfl rfl (Nat.le_of_ble_eq_true rfl) rfl (by omega) (by omega)) (fun r2556 M2556 => ?_)
  refine V_istore hX 16 2561 [(7, .int r2556), (6, .int r2544), (0, .ref b), (1, .ref (kA K 0)), (2, .ref (kA K 32)), (3, .ref (kA K 45)), (4, .ref (kA K 46)), (5, .int v5)] rfl rfl (Nat.le_of_ble_eq_true rfl) rfl ?_
  refine V_aload_n hX (j := 4) (hj := rfl) 17 2562 rfl rfl ?_
  refine V_callI hX 2565 (c9 + 2) (s9 + 12) rfl rfl rfl (by omega) (by omega) (VR_V hX 18 (ct_Mo_thrown (cx_t hX) K M2556) my_Mo_thrown mi_Mo_thrown ms_Mo_thrown ml_La_204 (Nat.le_of_ble_eq_true rfl) (Nat.le_of_ble_eq_true rfl) (by decide) (ent_32 K _) rfl rfl rfl (Nat.le_of_ble_eq_true rfl) rfl (by omega) (by omega)) (fun r2562 M2562 => ?_)
  refine V_iload hX (j := 1) (hj := rfl) 19 2567 rfl rfl ?_
  refine V_icmp_eq hX 20 2570 2572 rfl rfl (by decide) (fun c2567 => ?_) (fun c2567 => ?_)
  · refine V_iload hX (j := 1) (hj := rfl) 23 2574 rfl rfl ?_
    refine V_if_ne hX 24 2577 2589 rfl rfl (by decide) (fun c2574 => ?_) (fun c2574 => ?_)
    · refine VV_sub [2, 3, 4, 5, 6, 7] rfl ?_
      exact bt_La_law_2589 hX hSc k28 v5 c9 s9 hk28 (by omega) (by omega) M2562
    · refine V_aload_n hX (j := 5) (hj := rfl) 25 2578 rfl rfl ?_
      refine V_iconst hX (v := 0) (hv := by decide) 26 2579 rfl rfl ?_
      refine V_lald hX 27 2580 rfl rfl ?_
      refine V_iload hX (j := 0) (hj := rfl) 28 2582 rfl rfl ?_
      refine V_i2l hX 29 2583 rfl rfl ?_
      refine V_lcmp hX 30 2584 rfl rfl ?_
      refine V_if_eq hX 31 2587 2589 rfl rfl (by decide) (fun c2584 => ?_) (fun c2584 => ?_)
      · refine VV_sub [2, 3, 4, 5, 6, 7] rfl ?_
        exact bt_La_law_2589 hX hSc k28 v5 c9 s9 hk28 (by omega) (by omega) M2562
      · refine V_iconst hX (v := 0) (hv := by decide) 32 2588 rfl rfl ?_
        exact V_zret hX 33 rfl rfl (by omega) (by omega) rfl
  · refine V_iconst hX (v := 0) (hv := by decide) 21 2571 rfl rfl ?_
    exact V_zret hX 22 rfl rfl (by omega) (by omega) rfl
set_option maxRecDepth 20000 in
theorem bt_La_law_2645 {l : Launch} {K : KT} {X : XT} (hX : Cx l K 1500 9 603072 7194729 X code "SeriesArchiveLaw" (some .boolean) [] L_La_law_2592) {b sl : Nat} {xs : Nat → Int32} (hSc : SC K X b sl xs) (k28 : Int32 → Mm → Rs Int32) (v5 : Int32) (c9 s9 : Nat) (hk28 : ∀ (v5 : Int32) M, VV l K 1500 9 603072 7194729 rvI X (k28 v5 M) (c9 + 85) (s9 + 11934) M 28 [(0, .ref b), (1, .ref (kA K 0)), (2, .ref (kA K 32)), (3, .ref (kA K 45)), (4, .ref (kA K 46)), (5, .int v5)] []) (hc9 : c9 + 85 ≤ 603072) (hs9 : s9 + 11934 ≤ 7194729) (M : Mm) : VV l K 1500 9 603072 7194729 rvI X (fn_La_law_2645 xs sl k28 v5 M) (c9 + 2) (s9 + 12) M 2645 [(0, .ref b), (1, .ref (kA K 0)), (2, .ref (kA K 32)), (3, .ref (kA K 45)), (4, .ref (kA K 46)), (5, .int v5)] [] := by
  unfold fn_La_law_2645
  refine V_goto hX 34 3926 rfl (by decide) ?_
  refine VV_wd (c9 + 85) (s9 + 11934) (by omega) (by omega) ?_
  exact bt_La_law_3926 (cx_L hX dec_La_law_3923) hSc k28 v5 c9 s9 hk28 (by omega) (by omega) M
set_option maxRecDepth 20000 in
theorem bt_La_law_2592 {l : Launch} {K : KT} {X : XT} (hX : Cx l K 1500 9 603072 7194729 X code "SeriesArchiveLaw" (some .boolean) [] L_La_law_2592) {b sl : Nat} {xs : Nat → Int32} (hSc : SC K X b sl xs) (k28 : Int32 → Mm → Rs Int32) (v5 : Int32) (c9 s9 : Nat) (hk28 : ∀ (v5 : Int32) M, VV l K 1500 9 603072 7194729 rvI X (k28 v5 M) (c9 + 85) (s9 + 11934) M 28 [(0, .ref b), (1, .ref (kA K 0)), (2, .ref (kA K 32)), (3, .ref (kA K 45)), (4, .ref (kA K 46)), (5, .int v5)] []) (hc9 : c9 + 85 ≤ 603072) (hs9 : s9 + 11934 ≤ 7194729) (M : Mm) : VV l K 1500 9 603072 7194729 rvI X (fn_La_law_2592 xs sl k28 v5 M) (c9 + 0) (s9 + 0) M 2592 [(0, .ref b), (1, .ref (kA K 0)), (2, .ref (kA K 32)), (3, .ref (kA K 45)), (4, .ref (kA K 46)), (5, .int v5)] [] := by
  unfold fn_La_law_2592
  refine V_aload_n hX (j := 1) (hj := rfl) 0 2593 rfl rfl ?_
  refine V_aload_n hX (j := 0) (hj := rfl) 1 2594 rfl rfl ?_
  refine V_iload hX (j := 5) (hj := rfl) 2 2596 rfl rfl ?_
  refine V_iconst hX (v := 1) (hv := by decide) 3 2597 rfl rfl ?_
  refine V_iadd hX 4 2598 rfl rfl ?_
  refine V_sld hX hSc 5 2599 rfl rfl (fun g2598 => ?_)
  refine V_aload_n hX (j := 3) (hj := rfl) 6 2600 rfl rfl ?_
  refine V_callI hX 2603 (c9 + 2) (s9 + 12) rfl rfl rfl (by omega) (by omega) (VR_SX hX 7 (ct_La_leastPeriodByTrial (cx_t hX) K (xs (v5 + 1).toNatClampNeg) M) myw_La_leastPeriodByTrial mt_La_leastPeriodByTrial ml_La_309 (Nat.le_of_ble_eq_true rfl) (Nat.le_of_ble_eq_true rfl) rfl rfl (Nat.le_of_ble_eq_true rfl) rfl (by omega) (by omega)) (fun r2600 M2600 => ?_)
  refine V_istore hX 8 2605 [(6, .int r2600), (0, .ref b), (1, .ref (kA K 0)), (2, .ref (kA K 32)), (3, .ref (kA K 45)), (4, .ref (kA K 46)), (5, .int v5)] rfl rfl (Nat.le_of_ble_eq_true rfl) rfl ?_
  refine V_aload_n hX (j := 3) (hj := rfl) 9 2606 rfl rfl ?_
  refine V_aload_n hX (j := 1) (hj := rfl) 10 2607 rfl rfl ?_
  refine V_iload hX (j := 6) (hj := rfl) 11 2609 rfl rfl ?_
  refine V_iconst hX (v := 1) (hv := by decide) 12 2610 rfl rfl ?_
  refine V_iadd hX 13 2611 rfl rfl ?_
  refine V_sld hX hSc 14 2612 rfl rfl (fun g2611 => ?_)
  refine V_callI hX 2615 (c9 + 2) (s9 + 12) rfl rfl rfl (by omega) (by omega) (VR_V hX 15 (ct_Mo_leastPeriodByTrial (cx_t hX) K (xs (v5 + 1).toNatClampNeg) M2600) my_Mo_leastPeriodByTrial mi_Mo_leastPeriodByTrial ms_Mo_leastPeriodByTrial ml_La_311 (Nat.le_of_ble_eq_true rfl) (Nat.le_of_ble_eq_true rfl) (by decide) (ent_32 K _) rfl rfl rfl (Nat.le_of_ble_eq_true rfl) rfl (by omega) (by omega)) (fun r2612 M2612 => ?_)
  refine V_istore hX 16 2617 [(7, .int r2612), (6, .int r2600), (0, .ref b), (1, .ref (kA K 0)), (2, .ref (kA K 32)), (3, .ref (kA K 45)), (4, .ref (kA K 46)), (5, .int v5)] rfl rfl (Nat.le_of_ble_eq_true rfl) rfl ?_
  refine V_aload_n hX (j := 4) (hj := rfl) 17 2618 rfl rfl ?_
  refine V_callI hX 2621 (c9 + 2) (s9 + 12) rfl rfl rfl (by omega) (by omega) (VR_V hX 18 (ct_Mo_thrown (cx_t hX) K M2612) my_Mo_thrown mi_Mo_thrown ms_Mo_thrown ml_La_204 (Nat.le_of_ble_eq_true rfl) (Nat.le_of_ble_eq_true rfl) (by decide) (ent_32 K _) rfl rfl rfl (Nat.le_of_ble_eq_true rfl) rfl (by omega) (by omega)) (fun r2618 M2618 => ?_)
  refine V_iload hX (j := 1) (hj := rfl) 19 2623 rfl rfl ?_
  refine V_icmp_eq hX 20 2626 2628 rfl rfl (by decide) (fun c2623 => ?_) (fun c2623 => ?_)
  · refine V_iload hX (j := 1) (hj := rfl) 23 2630 rfl rfl ?_
    refine V_if_ne hX 24 2633 2645 rfl rfl (by decide) (fun c2630 => ?_) (fun c2630 => ?_)
    · refine VV_sub [2, 3, 4, 5, 6, 7] rfl ?_
      exact bt_La_law_2645 hX hSc k28 v5 c9 s9 hk28 (by omega) (by omega) M2618
    · refine V_aload_n hX (j := 5) (hj := rfl) 25 2634 rfl rfl ?_
      refine V_iconst hX (v := 0) (hv := by decide) 26 2635 rfl rfl ?_
      refine V_lald hX 27 2636 rfl rfl ?_
      refine V_iload hX (j := 0) (hj := rfl) 28 2638 rfl rfl ?_
      refine V_i2l hX 29 2639 rfl rfl ?_
      refine V_lcmp hX 30 2640 rfl rfl ?_
      refine V_if_eq hX 31 2643 2645 rfl rfl (by decide) (fun c2640 => ?_) (fun c2640 => ?_)
      · refine VV_sub [2, 3, 4, 5, 6, 7] rfl ?_
        exact bt_La_law_2645 hX hSc k28 v5 c9 s9 hk28 (by omega) (by omega) M2618
      · refine V_iconst hX (v := 0) (hv := by decide) 32 2644 rfl rfl ?_
        exact V_zret hX 33 rfl rfl (by omega) (by omega) rfl
  · refine V_iconst hX (v := 0) (hv := by decide) 21 2627 rfl rfl ?_
    exact V_zret hX 22 rfl rfl (by omega) (by omega) rfl
set_option maxRecDepth 20000 in
theorem bt_La_law_2713 {l : Launch} {K : KT} {X : XT} (hX : Cx l K 1500 9 603072 7194729 X code "SeriesArchiveLaw" (some .boolean) [] L_La_law_2648) {b sl : Nat} {xs : Nat → Int32} (hSc : SC K X b sl xs) (k28 : Int32 → Mm → Rs Int32) (v5 : Int32) (c9 s9 : Nat) (hk28 : ∀ (v5 : Int32) M, VV l K 1500 9 603072 7194729 rvI X (k28 v5 M) (c9 + 85) (s9 + 11934) M 28 [(0, .ref b), (1, .ref (kA K 0)), (2, .ref (kA K 32)), (3, .ref (kA K 45)), (4, .ref (kA K 46)), (5, .int v5)] []) (hc9 : c9 + 85 ≤ 603072) (hs9 : s9 + 11934 ≤ 7194729) (M : Mm) : VV l K 1500 9 603072 7194729 rvI X (fn_La_law_2713 xs sl k28 v5 M) (c9 + 3) (s9 + 18) M 2713 [(0, .ref b), (1, .ref (kA K 0)), (2, .ref (kA K 32)), (3, .ref (kA K 45)), (4, .ref (kA K 46)), (5, .int v5)] [] := by
  unfold fn_La_law_2713
  refine V_goto hX 44 3926 rfl (by decide) ?_
  refine VV_wd (c9 + 85) (s9 + 11934) (by omega) (by omega) ?_
  exact bt_La_law_3926 (cx_L hX dec_La_law_3923) hSc k28 v5 c9 s9 hk28 (by omega) (by omega) M
set_option maxRecDepth 20000 in
theorem bt_La_law_2648 {l : Launch} {K : KT} {X : XT} (hX : Cx l K 1500 9 603072 7194729 X code "SeriesArchiveLaw" (some .boolean) [] L_La_law_2648) {b sl : Nat} {xs : Nat → Int32} (hSc : SC K X b sl xs) (k28 : Int32 → Mm → Rs Int32) (v5 : Int32) (c9 s9 : Nat) (hk28 : ∀ (v5 : Int32) M, VV l K 1500 9 603072 7194729 rvI X (k28 v5 M) (c9 + 85) (s9 + 11934) M 28 [(0, .ref b), (1, .ref (kA K 0)), (2, .ref (kA K 32)), (3, .ref (kA K 45)), (4, .ref (kA K 46)), (5, .int v5)] []) (hc9 : c9 + 85 ≤ 603072) (hs9 : s9 + 11934 ≤ 7194729) (M : Mm) : VV l K 1500 9 603072 7194729 rvI X (fn_La_law_2648 xs sl k28 v5 M) (c9 + 0) (s9 + 0) M 2648 [(0, .ref b), (1, .ref (kA K 0)), (2, .ref (kA K 32)), (3, .ref (kA K 45)), (4, .ref (kA K 46)), (5, .int v5)] [] := by
  unfold fn_La_law_2648
  refine V_aload_n hX (j := 1) (hj := rfl) 0 2649 rfl rfl ?_
  refine V_aload_n hX (j := 0) (hj := rfl) 1 2650 rfl rfl ?_
  refine V_iload hX (j := 5) (hj := rfl) 2 2652 rfl rfl ?_
  refine V_iconst hX (v := 1) (hv := by decide) 3 2653 rfl rfl ?_
  refine V_iadd hX 4 2654 rfl rfl ?_
  refine V_sld hX hSc 5 2655 rfl rfl (fun g2654 => ?_)
  refine V_aload_n hX (j := 0) (hj := rfl) 6 2656 rfl rfl ?_
  refine V_iload hX (j := 5) (hj := rfl) 7 2658 rfl rfl ?_
  refine V_iconst hX (v := 2) (hv := by decide) 8 2659 rfl rfl ?_
  refine V_iadd hX 9 2660 rfl rfl ?_
  refine V_sld hX hSc 10 2661 rfl rfl (fun g2660 => ?_)
  refine V_aload_n hX (j := 3) (hj := rfl) 11 2662 rfl rfl ?_
  refine V_callI hX 2665 (c9 + 3) (s9 + 18) rfl rfl rfl (by omega) (by omega) (VR_SX hX 12 (ct_La_occurrences (cx_t hX) K (xs (v5 + 1).toNatClampNeg) (xs (v5 + 2).toNatClampNeg) M) myw_La_occurrences mt_La_occurrences ml_La_312 (Nat.le_of_ble_eq_true rfl) (Nat.le_of_ble_eq_true rfl) rfl rfl (Nat.le_of_ble_eq_true rfl) rfl (by omega) (by omega)) (fun r2662 M2662 => ?_)
  refine V_istore hX 13 2667 [(6, .int r2662), (0, .ref b), (1, .ref (kA K 0)), (2, .ref (kA K 32)), (3, .ref (kA K 45)), (4, .ref (kA K 46)), (5, .int v5)] rfl rfl (Nat.le_of_ble_eq_true rfl) rfl ?_
  refine V_aload_n hX (j := 3) (hj := rfl) 14 2668 rfl rfl ?_
  refine V_aload_n hX (j := 1) (hj := rfl) 15 2669 rfl rfl ?_
  refine V_iload hX (j := 6) (hj := rfl) 16 2671 rfl rfl ?_
  refine V_iconst hX (v := 1) (hv := by decide) 17 2672 rfl rfl ?_
  refine V_iadd hX 18 2673 rfl rfl ?_
  refine V_sld hX hSc 19 2674 rfl rfl (fun g2673 => ?_)
  refine V_aload_n hX (j := 1) (hj := rfl) 20 2675 rfl rfl ?_
  refine V_iload hX (j := 6) (hj := rfl) 21 2677 rfl rfl ?_
  refine V_iconst hX (v := 2) (hv := by decide) 22 2678 rfl rfl ?_
  refine V_iadd hX 23 2679 rfl rfl ?_
  refine V_sld hX hSc 24 2680 rfl rfl (fun g2679 => ?_)
  refine V_callI hX 2683 (c9 + 3) (s9 + 18) rfl rfl rfl (by omega) (by omega) (VR_V hX 25 (ct_Mo_occurrences (cx_t hX) K (xs (v5 + 1).toNatClampNeg) (xs (v5 + 2).toNatClampNeg) M2662) my_Mo_occurrences mi_Mo_occurrences ms_Mo_occurrences ml_La_314 (Nat.le_of_ble_eq_true rfl) (Nat.le_of_ble_eq_true rfl) (by decide) (ent_32 K _) rfl rfl rfl (Nat.le_of_ble_eq_true rfl) rfl (by omega) (by omega)) (fun r2680 M2680 => ?_)
  refine V_istore hX 26 2685 [(7, .int r2680), (6, .int r2662), (0, .ref b), (1, .ref (kA K 0)), (2, .ref (kA K 32)), (3, .ref (kA K 45)), (4, .ref (kA K 46)), (5, .int v5)] rfl rfl (Nat.le_of_ble_eq_true rfl) rfl ?_
  refine V_aload_n hX (j := 4) (hj := rfl) 27 2686 rfl rfl ?_
  refine V_callI hX 2689 (c9 + 3) (s9 + 18) rfl rfl rfl (by omega) (by omega) (VR_V hX 28 (ct_Mo_thrown (cx_t hX) K M2680) my_Mo_thrown mi_Mo_thrown ms_Mo_thrown ml_La_204 (Nat.le_of_ble_eq_true rfl) (Nat.le_of_ble_eq_true rfl) (by decide) (ent_32 K _) rfl rfl rfl (Nat.le_of_ble_eq_true rfl) rfl (by omega) (by omega)) (fun r2686 M2686 => ?_)
  refine V_iload hX (j := 1) (hj := rfl) 29 2691 rfl rfl ?_
  refine V_icmp_eq hX 30 2694 2696 rfl rfl (by decide) (fun c2691 => ?_) (fun c2691 => ?_)
  · refine V_iload hX (j := 1) (hj := rfl) 33 2698 rfl rfl ?_
    refine V_if_ne hX 34 2701 2713 rfl rfl (by decide) (fun c2698 => ?_) (fun c2698 => ?_)
    · refine VV_sub [2, 3, 4, 5, 6, 7] rfl ?_
      exact bt_La_law_2713 hX hSc k28 v5 c9 s9 hk28 (by omega) (by omega) M2686
    · refine V_aload_n hX (j := 5) (hj := rfl) 35 2702 rfl rfl ?_
      refine V_iconst hX (v := 0) (hv := by decide) 36 2703 rfl rfl ?_
      refine V_lald hX 37 2704 rfl rfl ?_
      refine V_iload hX (j := 0) (hj := rfl) 38 2706 rfl rfl ?_
      refine V_i2l hX 39 2707 rfl rfl ?_
      refine V_lcmp hX 40 2708 rfl rfl ?_
      refine V_if_eq hX 41 2711 2713 rfl rfl (by decide) (fun c2708 => ?_) (fun c2708 => ?_)
      · refine VV_sub [2, 3, 4, 5, 6, 7] rfl ?_
        exact bt_La_law_2713 hX hSc k28 v5 c9 s9 hk28 (by omega) (by omega) M2686
      · refine V_iconst hX (v := 0) (hv := by decide) 42 2712 rfl rfl ?_
        exact V_zret hX 43 rfl rfl (by omega) (by omega) rfl
  · refine V_iconst hX (v := 0) (hv := by decide) 31 2695 rfl rfl ?_
    exact V_zret hX 32 rfl rfl (by omega) (by omega) rfl
set_option maxRecDepth 20000 in
theorem bt_La_law_2781 {l : Launch} {K : KT} {X : XT} (hX : Cx l K 1500 9 603072 7194729 X code "SeriesArchiveLaw" (some .boolean) [] L_La_law_2716) {b sl : Nat} {xs : Nat → Int32} (hSc : SC K X b sl xs) (k28 : Int32 → Mm → Rs Int32) (v5 : Int32) (c9 s9 : Nat) (hk28 : ∀ (v5 : Int32) M, VV l K 1500 9 603072 7194729 rvI X (k28 v5 M) (c9 + 85) (s9 + 11934) M 28 [(0, .ref b), (1, .ref (kA K 0)), (2, .ref (kA K 32)), (3, .ref (kA K 45)), (4, .ref (kA K 46)), (5, .int v5)] []) (hc9 : c9 + 85 ≤ 603072) (hs9 : s9 + 11934 ≤ 7194729) (M : Mm) : VV l K 1500 9 603072 7194729 rvI X (fn_La_law_2781 xs sl k28 v5 M) (c9 + 3) (s9 + 18) M 2781 [(0, .ref b), (1, .ref (kA K 0)), (2, .ref (kA K 32)), (3, .ref (kA K 45)), (4, .ref (kA K 46)), (5, .int v5)] [] := by
  unfold fn_La_law_2781
  refine V_goto hX 44 3926 rfl (by decide) ?_
  refine VV_wd (c9 + 85) (s9 + 11934) (by omega) (by omega) ?_
  exact bt_La_law_3926 (cx_L hX dec_La_law_3923) hSc k28 v5 c9 s9 hk28 (by omega) (by omega) M
set_option maxRecDepth 20000 in
theorem bt_La_law_2716 {l : Launch} {K : KT} {X : XT} (hX : Cx l K 1500 9 603072 7194729 X code "SeriesArchiveLaw" (some .boolean) [] L_La_law_2716) {b sl : Nat} {xs : Nat → Int32} (hSc : SC K X b sl xs) (k28 : Int32 → Mm → Rs Int32) (v5 : Int32) (c9 s9 : Nat) (hk28 : ∀ (v5 : Int32) M, VV l K 1500 9 603072 7194729 rvI X (k28 v5 M) (c9 + 85) (s9 + 11934) M 28 [(0, .ref b), (1, .ref (kA K 0)), (2, .ref (kA K 32)), (3, .ref (kA K 45)), (4, .ref (kA K 46)), (5, .int v5)] []) (hc9 : c9 + 85 ≤ 603072) (hs9 : s9 + 11934 ≤ 7194729) (M : Mm) : VV l K 1500 9 603072 7194729 rvI X (fn_La_law_2716 xs sl k28 v5 M) (c9 + 0) (s9 + 0) M 2716 [(0, .ref b), (1, .ref (kA K 0)), (2, .ref (kA K 32)), (3, .ref (kA K 45)), (4, .ref (kA K 46)), (5, .int v5)] [] := by
  unfold fn_La_law_2716
  refine V_aload_n hX (j := 1) (hj := rfl) 0 2717 rfl rfl ?_
  refine V_aload_n hX (j := 0) (hj := rfl) 1 2718 rfl rfl ?_
  refine V_iload hX (j := 5) (hj := rfl) 2 2720 rfl rfl ?_
  refine V_iconst hX (v := 1) (hv := by decide) 3 2721 rfl rfl ?_
  refine V_iadd hX 4 2722 rfl rfl ?_
  refine V_sld hX hSc 5 2723 rfl rfl (fun g2722 => ?_)
  refine V_aload_n hX (j := 0) (hj := rfl) 6 2724 rfl rfl ?_
  refine V_iload hX (j := 5) (hj := rfl) 7 2726 rfl rfl ?_
  refine V_iconst hX (v := 2) (hv := by decide) 8 2727 rfl rfl ?_
  refine V_iadd hX 9 2728 rfl rfl ?_
  refine V_sld hX hSc 10 2729 rfl rfl (fun g2728 => ?_)
  refine V_aload_n hX (j := 3) (hj := rfl) 11 2730 rfl rfl ?_
  refine V_callI hX 2733 (c9 + 3) (s9 + 18) rfl rfl rfl (by omega) (by omega) (VR_SX hX 12 (ct_La_occurrencesByScan (cx_t hX) K (xs (v5 + 1).toNatClampNeg) (xs (v5 + 2).toNatClampNeg) M) myw_La_occurrencesByScan mt_La_occurrencesByScan ml_La_315 (Nat.le_of_ble_eq_true rfl) (Nat.le_of_ble_eq_true rfl) rfl rfl (Nat.le_of_ble_eq_true rfl) rfl (by omega) (by omega)) (fun r2730 M2730 => ?_)
  refine V_istore hX 13 2735 [(6, .int r2730), (0, .ref b), (1, .ref (kA K 0)), (2, .ref (kA K 32)), (3, .ref (kA K 45)), (4, .ref (kA K 46)), (5, .int v5)] rfl rfl (Nat.le_of_ble_eq_true rfl) rfl ?_
  refine V_aload_n hX (j := 3) (hj := rfl) 14 2736 rfl rfl ?_
  refine V_aload_n hX (j := 1) (hj := rfl) 15 2737 rfl rfl ?_
  refine V_iload hX (j := 6) (hj := rfl) 16 2739 rfl rfl ?_
  refine V_iconst hX (v := 1) (hv := by decide) 17 2740 rfl rfl ?_
  refine V_iadd hX 18 2741 rfl rfl ?_
  refine V_sld hX hSc 19 2742 rfl rfl (fun g2741 => ?_)
  refine V_aload_n hX (j := 1) (hj := rfl) 20 2743 rfl rfl ?_
  refine V_iload hX (j := 6) (hj := rfl) 21 2745 rfl rfl ?_
  refine V_iconst hX (v := 2) (hv := by decide) 22 2746 rfl rfl ?_
  refine V_iadd hX 23 2747 rfl rfl ?_
  refine V_sld hX hSc 24 2748 rfl rfl (fun g2747 => ?_)
  refine V_callI hX 2751 (c9 + 3) (s9 + 18) rfl rfl rfl (by omega) (by omega) (VR_V hX 25 (ct_Mo_occurrencesByScan (cx_t hX) K (xs (v5 + 1).toNatClampNeg) (xs (v5 + 2).toNatClampNeg) M2730) my_Mo_occurrencesByScan mi_Mo_occurrencesByScan ms_Mo_occurrencesByScan ml_La_317 (Nat.le_of_ble_eq_true rfl) (Nat.le_of_ble_eq_true rfl) (by decide) (ent_32 K _) rfl rfl rfl (Nat.le_of_ble_eq_true rfl) rfl (by omega) (by omega)) (fun r2748 M2748 => ?_)
  refine V_istore hX 26 2753 [(7, .int r2748), (6, .int r2730), (0, .ref b), (1, .ref (kA K 0)), (2, .ref (kA K 32)), (3, .ref (kA K 45)), (4, .ref (kA K 46)), (5, .int v5)] rfl rfl (Nat.le_of_ble_eq_true rfl) rfl ?_
  refine V_aload_n hX (j := 4) (hj := rfl) 27 2754 rfl rfl ?_
  refine V_callI hX 2757 (c9 + 3) (s9 + 18) rfl rfl rfl (by omega) (by omega) (VR_V hX 28 (ct_Mo_thrown (cx_t hX) K M2748) my_Mo_thrown mi_Mo_thrown ms_Mo_thrown ml_La_204 (Nat.le_of_ble_eq_true rfl) (Nat.le_of_ble_eq_true rfl) (by decide) (ent_32 K _) rfl rfl rfl (Nat.le_of_ble_eq_true rfl) rfl (by omega) (by omega)) (fun r2754 M2754 => ?_)
  refine V_iload hX (j := 1) (hj := rfl) 29 2759 rfl rfl ?_
  refine V_icmp_eq hX 30 2762 2764 rfl rfl (by decide) (fun c2759 => ?_) (fun c2759 => ?_)
  · refine V_iload hX (j := 1) (hj := rfl) 33 2766 rfl rfl ?_
    refine V_if_ne hX 34 2769 2781 rfl rfl (by decide) (fun c2766 => ?_) (fun c2766 => ?_)
    · refine VV_sub [2, 3, 4, 5, 6, 7] rfl ?_
      exact bt_La_law_2781 hX hSc k28 v5 c9 s9 hk28 (by omega) (by omega) M2754
    · refine V_aload_n hX (j := 5) (hj := rfl) 35 2770 rfl rfl ?_
      refine V_iconst hX (v := 0) (hv := by decide) 36 2771 rfl rfl ?_
      refine V_lald hX 37 2772 rfl rfl ?_
      refine V_iload hX (j := 0) (hj := rfl) 38 2774 rfl rfl ?_
      refine V_i2l hX 39 2775 rfl rfl ?_
      refine V_lcmp hX 40 2776 rfl rfl ?_
      refine V_if_eq hX 41 2779 2781 rfl rfl (by decide) (fun c2776 => ?_) (fun c2776 => ?_)
      · refine VV_sub [2, 3, 4, 5, 6, 7] rfl ?_
        exact bt_La_law_2781 hX hSc k28 v5 c9 s9 hk28 (by omega) (by omega) M2754
      · refine V_iconst hX (v := 0) (hv := by decide) 42 2780 rfl rfl ?_
        exact V_zret hX 43 rfl rfl (by omega) (by omega) rfl
  · refine V_iconst hX (v := 0) (hv := by decide) 31 2763 rfl rfl ?_
    exact V_zret hX 32 rfl rfl (by omega) (by omega) rfl
set_option maxRecDepth 20000 in
theorem bt_La_law_2849 {l : Launch} {K : KT} {X : XT} (hX : Cx l K 1500 9 603072 7194729 X code "SeriesArchiveLaw" (some .boolean) [] L_La_law_2784) {b sl : Nat} {xs : Nat → Int32} (hSc : SC K X b sl xs) (k28 : Int32 → Mm → Rs Int32) (v5 : Int32) (c9 s9 : Nat) (hk28 : ∀ (v5 : Int32) M, VV l K 1500 9 603072 7194729 rvI X (k28 v5 M) (c9 + 85) (s9 + 11934) M 28 [(0, .ref b), (1, .ref (kA K 0)), (2, .ref (kA K 32)), (3, .ref (kA K 45)), (4, .ref (kA K 46)), (5, .int v5)] []) (hc9 : c9 + 85 ≤ 603072) (hs9 : s9 + 11934 ≤ 7194729) (M : Mm) : VV l K 1500 9 603072 7194729 rvI X (fn_La_law_2849 xs sl k28 v5 M) (c9 + 2) (s9 + 12) M 2849 [(0, .ref b), (1, .ref (kA K 0)), (2, .ref (kA K 32)), (3, .ref (kA K 45)), (4, .ref (kA K 46)), (5, .int v5)] [] := by
  unfold fn_La_law_2849
  refine V_goto hX 44 3926 rfl (by decide) ?_
  refine VV_wd (c9 + 85) (s9 + 11934) (by omega) (by omega) ?_
  exact bt_La_law_3926 (cx_L hX dec_La_law_3923) hSc k28 v5 c9 s9 hk28 (by omega) (by omega) M
set_option maxRecDepth 20000 in
theorem bt_La_law_2784 {l : Launch} {K : KT} {X : XT} (hX : Cx l K 1500 9 603072 7194729 X code "SeriesArchiveLaw" (some .boolean) [] L_La_law_2784) {b sl : Nat} {xs : Nat → Int32} (hSc : SC K X b sl xs) (k28 : Int32 → Mm → Rs Int32) (v5 : Int32) (c9 s9 : Nat) (hk28 : ∀ (v5 : Int32) M, VV l K 1500 9 603072 7194729 rvI X (k28 v5 M) (c9 + 85) (s9 + 11934) M 28 [(0, .ref b), (1, .ref (kA K 0)), (2, .ref (kA K 32)), (3, .ref (kA K 45)), (4, .ref (kA K 46)), (5, .int v5)] []) (hc9 : c9 + 85 ≤ 603072) (hs9 : s9 + 11934 ≤ 7194729) (M : Mm) : VV l K 1500 9 603072 7194729 rvI X (fn_La_law_2784 xs sl k28 v5 M) (c9 + 0) (s9 + 0) M 2784 [(0, .ref b), (1, .ref (kA K 0)), (2, .ref (kA K 32)), (3, .ref (kA K 45)), (4, .ref (kA K 46)), (5, .int v5)] [] := by
  unfold fn_La_law_2784
  refine V_aload_n hX (j := 1) (hj := rfl) 0 2785 rfl rfl ?_
  refine V_aload_n hX (j := 0) (hj := rfl) 1 2786 rfl rfl ?_
  refine V_iload hX (j := 5) (hj := rfl) 2 2788 rfl rfl ?_
  refine V_iconst hX (v := 1) (hv := by decide) 3 2789 rfl rfl ?_
  refine V_iadd hX 4 2790 rfl rfl ?_
  refine V_sld hX hSc 5 2791 rfl rfl (fun g2790 => ?_)
  refine V_aload_n hX (j := 0) (hj := rfl) 6 2792 rfl rfl ?_
  refine V_iload hX (j := 5) (hj := rfl) 7 2794 rfl rfl ?_
  refine V_iconst hX (v := 2) (hv := by decide) 8 2795 rfl rfl ?_
  refine V_iadd hX 9 2796 rfl rfl ?_
  refine V_sld hX hSc 10 2797 rfl rfl (fun g2796 => ?_)
  refine V_aload_n hX (j := 3) (hj := rfl) 11 2798 rfl rfl ?_
  refine V_callI hX 2801 (c9 + 2) (s9 + 12) rfl rfl rfl (by omega) (by omega) (VR_SX hX 12 (ct_La_leastError (cx_t hX) K (xs (v5 + 1).toNatClampNeg) (xs (v5 + 2).toNatClampNeg) M) myw_La_leastError mt_La_leastError ml_La_318 (Nat.le_of_ble_eq_true rfl) (Nat.le_of_ble_eq_true rfl) rfl rfl (Nat.le_of_ble_eq_true rfl) rfl (by omega) (by omega)) (fun r2798 M2798 => ?_)
  refine V_istore hX 13 2803 [(6, .int r2798), (0, .ref b), (1, .ref (kA K 0)), (2, .ref (kA K 32)), (3, .ref (kA K 45)), (4, .ref (kA K 46)), (5, .int v5)] rfl rfl (Nat.le_of_ble_eq_true rfl) rfl ?_
  refine V_aload_n hX (j := 3) (hj := rfl) 14 2804 rfl rfl ?_
  refine V_aload_n hX (j := 1) (hj := rfl) 15 2805 rfl rfl ?_
  refine V_iload hX (j := 6) (hj := rfl) 16 2807 rfl rfl ?_
  refine V_iconst hX (v := 1) (hv := by decide) 17 2808 rfl rfl ?_
  refine V_iadd hX 18 2809 rfl rfl ?_
  refine V_sld hX hSc 19 2810 rfl rfl (fun g2809 => ?_)
  refine V_aload_n hX (j := 1) (hj := rfl) 20 2811 rfl rfl ?_
  refine V_iload hX (j := 6) (hj := rfl) 21 2813 rfl rfl ?_
  refine V_iconst hX (v := 2) (hv := by decide) 22 2814 rfl rfl ?_
  refine V_iadd hX 23 2815 rfl rfl ?_
  refine V_sld hX hSc 24 2816 rfl rfl (fun g2815 => ?_)
  refine V_callI hX 2819 (c9 + 2) (s9 + 12) rfl rfl rfl (by omega) (by omega) (VR_V hX 25 (ct_Mo_leastError (cx_t hX) K (xs (v5 + 1).toNatClampNeg) (xs (v5 + 2).toNatClampNeg) M2798) my_Mo_leastError mi_Mo_leastError ms_Mo_leastError ml_La_320 (Nat.le_of_ble_eq_true rfl) (Nat.le_of_ble_eq_true rfl) (by decide) (ent_32 K _) rfl rfl rfl (Nat.le_of_ble_eq_true rfl) rfl (by omega) (by omega)) (fun r2816 M2816 => ?_)
  refine V_istore hX 26 2821 [(7, .int r2816), (6, .int r2798), (0, .ref b), (1, .ref (kA K 0)), (2, .ref (kA K 32)), (3, .ref (kA K 45)), (4, .ref (kA K 46)), (5, .int v5)] rfl rfl (Nat.le_of_ble_eq_true rfl) rfl ?_
  refine V_aload_n hX (j := 4) (hj := rfl) 27 2822 rfl rfl ?_
  refine V_callI hX 2825 (c9 + 2) (s9 + 12) rfl rfl rfl (by omega) (by omega) (VR_V hX 28 (ct_Mo_thrown (cx_t hX) K M2816) my_Mo_thrown mi_Mo_thrown ms_Mo_thrown ml_La_204 (Nat.le_of_ble_eq_true rfl) (Nat.le_of_ble_eq_true rfl) (by decide) (ent_32 K _) rfl rfl rfl (Nat.le_of_ble_eq_true rfl) rfl (by omega) (by omega)) (fun r2822 M2822 => ?_)
  refine V_iload hX (j := 1) (hj := rfl) 29 2827 rfl rfl ?_
  refine V_icmp_eq hX 30 2830 2832 rfl rfl (by decide) (fun c2827 => ?_) (fun c2827 => ?_)
  · refine V_iload hX (j := 1) (hj := rfl) 33 2834 rfl rfl ?_
    refine V_if_ne hX 34 2837 2849 rfl rfl (by decide) (fun c2834 => ?_) (fun c2834 => ?_)
    · refine VV_sub [2, 3, 4, 5, 6, 7] rfl ?_
      exact bt_La_law_2849 hX hSc k28 v5 c9 s9 hk28 (by omega) (by omega) M2822
    · refine V_aload_n hX (j := 5) (hj := rfl) 35 2838 rfl rfl ?_
      refine V_iconst hX (v := 0) (hv := by decide) 36 2839 rfl rfl ?_
      refine V_lald hX 37 2840 rfl rfl ?_
      refine V_iload hX (j := 0) (hj := rfl) 38 2842 rfl rfl ?_
      refine V_i2l hX 39 2843 rfl rfl ?_
      refine V_lcmp hX 40 2844 rfl rfl ?_
      refine V_if_eq hX 41 2847 2849 rfl rfl (by decide) (fun c2844 => ?_) (fun c2844 => ?_)
      · refine VV_sub [2, 3, 4, 5, 6, 7] rfl ?_
        exact bt_La_law_2849 hX hSc k28 v5 c9 s9 hk28 (by omega) (by omega) M2822
      · refine V_iconst hX (v := 0) (hv := by decide) 42 2848 rfl rfl ?_
        exact V_zret hX 43 rfl rfl (by omega) (by omega) rfl
  · refine V_iconst hX (v := 0) (hv := by decide) 31 2831 rfl rfl ?_
    exact V_zret hX 32 rfl rfl (by omega) (by omega) rfl
set_option maxRecDepth 20000 in
theorem bt_La_law_2917 {l : Launch} {K : KT} {X : XT} (hX : Cx l K 1500 9 603072 7194729 X code "SeriesArchiveLaw" (some .boolean) [] L_La_law_2852) {b sl : Nat} {xs : Nat → Int32} (hSc : SC K X b sl xs) (k28 : Int32 → Mm → Rs Int32) (v5 : Int32) (c9 s9 : Nat) (hk28 : ∀ (v5 : Int32) M, VV l K 1500 9 603072 7194729 rvI X (k28 v5 M) (c9 + 85) (s9 + 11934) M 28 [(0, .ref b), (1, .ref (kA K 0)), (2, .ref (kA K 32)), (3, .ref (kA K 45)), (4, .ref (kA K 46)), (5, .int v5)] []) (hc9 : c9 + 85 ≤ 603072) (hs9 : s9 + 11934 ≤ 7194729) (M : Mm) : VV l K 1500 9 603072 7194729 rvI X (fn_La_law_2917 xs sl k28 v5 M) (c9 + 2) (s9 + 12) M 2917 [(0, .ref b), (1, .ref (kA K 0)), (2, .ref (kA K 32)), (3, .ref (kA K 45)), (4, .ref (kA K 46)), (5, .int v5)] [] := by
  unfold fn_La_law_2917
  refine V_goto hX 44 3926 rfl (by decide) ?_
  refine VV_wd (c9 + 85) (s9 + 11934) (by omega) (by omega) ?_
  exact bt_La_law_3926 (cx_L hX dec_La_law_3923) hSc k28 v5 c9 s9 hk28 (by omega) (by omega) M
set_option maxRecDepth 20000 in
theorem bt_La_law_2852 {l : Launch} {K : KT} {X : XT} (hX : Cx l K 1500 9 603072 7194729 X code "SeriesArchiveLaw" (some .boolean) [] L_La_law_2852) {b sl : Nat} {xs : Nat → Int32} (hSc : SC K X b sl xs) (k28 : Int32 → Mm → Rs Int32) (v5 : Int32) (c9 s9 : Nat) (hk28 : ∀ (v5 : Int32) M, VV l K 1500 9 603072 7194729 rvI X (k28 v5 M) (c9 + 85) (s9 + 11934) M 28 [(0, .ref b), (1, .ref (kA K 0)), (2, .ref (kA K 32)), (3, .ref (kA K 45)), (4, .ref (kA K 46)), (5, .int v5)] []) (hc9 : c9 + 85 ≤ 603072) (hs9 : s9 + 11934 ≤ 7194729) (M : Mm) : VV l K 1500 9 603072 7194729 rvI X (fn_La_law_2852 xs sl k28 v5 M) (c9 + 0) (s9 + 0) M 2852 [(0, .ref b), (1, .ref (kA K 0)), (2, .ref (kA K 32)), (3, .ref (kA K 45)), (4, .ref (kA K 46)), (5, .int v5)] [] := by
  unfold fn_La_law_2852
  refine V_aload_n hX (j := 1) (hj := rfl) 0 2853 rfl rfl ?_
  refine V_aload_n hX (j := 0) (hj := rfl) 1 2854 rfl rfl ?_
  refine V_iload hX (j := 5) (hj := rfl) 2 2856 rfl rfl ?_
  refine V_iconst hX (v := 1) (hv := by decide) 3 2857 rfl rfl ?_
  refine V_iadd hX 4 2858 rfl rfl ?_
  refine V_sld hX hSc 5 2859 rfl rfl (fun g2858 => ?_)
  refine V_aload_n hX (j := 0) (hj := rfl) 6 2860 rfl rfl ?_
  refine V_iload hX (j := 5) (hj := rfl) 7 2862 rfl rfl ?_
  refine V_iconst hX (v := 2) (hv := by decide) 8 2863 rfl rfl ?_
  refine V_iadd hX 9 2864 rfl rfl ?_
  refine V_sld hX hSc 10 2865 rfl rfl (fun g2864 => ?_)
  refine V_aload_n hX (j := 3) (hj := rfl) 11 2866 rfl rfl ?_
  refine V_callI hX 2869 (c9 + 2) (s9 + 12) rfl rfl rfl (by omega) (by omega) (VR_SX hX 12 (ct_La_leastErrorByCuts (cx_t hX) K (xs (v5 + 1).toNatClampNeg) (xs (v5 + 2).toNatClampNeg) M) myw_La_leastErrorByCuts mt_La_leastErrorByCuts ml_La_321 (Nat.le_of_ble_eq_true rfl) (Nat.le_of_ble_eq_true rfl) rfl rfl (Nat.le_of_ble_eq_true rfl) rfl (by omega) (by omega)) (fun r2866 M2866 => ?_)
  refine V_istore hX 13 2871 [(6, .int r2866), (0, .ref b), (1, .ref (kA K 0)), (2, .ref (kA K 32)), (3, .ref (kA K 45)), (4, .ref (kA K 46)), (5, .int v5)] rfl rfl (Nat.le_of_ble_eq_true rfl) rfl ?_
  refine V_aload_n hX (j := 3) (hj := rfl) 14 2872 rfl rfl ?_
  refine V_aload_n hX (j := 1) (hj := rfl) 15 2873 rfl rfl ?_
  refine V_iload hX (j := 6) (hj := rfl) 16 2875 rfl rfl ?_
  refine V_iconst hX (v := 1) (hv := by decide) 17 2876 rfl rfl ?_
  refine V_iadd hX 18 2877 rfl rfl ?_
  refine V_sld hX hSc 19 2878 rfl rfl (fun g2877 => ?_)
  refine V_aload_n hX (j := 1) (hj := rfl) 20 2879 rfl rfl ?_
  refine V_iload hX (j := 6) (hj := rfl) 21 2881 rfl rfl ?_
  refine V_iconst hX (v := 2) (hv := by decide) 22 2882 rfl rfl ?_
  refine V_iadd hX 23 2883 rfl rfl ?_
  refine V_sld hX hSc 24 2884 rfl rfl (fun g2883 => ?_)
  refine V_callI hX 2887 (c9 + 2) (s9 + 12) rfl rfl rfl (by omega) (by omega) (VR_V hX 25 (ct_Mo_leastErrorByCuts (cx_t hX) K (xs (v5 + 1).toNatClampNeg) (xs (v5 + 2).toNatClampNeg) M2866) my_Mo_leastErrorByCuts mi_Mo_leastErrorByCuts ms_Mo_leastErrorByCuts ml_La_323 (Nat.le_of_ble_eq_true rfl) (Nat.le_of_ble_eq_true rfl) (by decide) (ent_32 K _) rfl rfl rfl (Nat.le_of_ble_eq_true rfl) rfl (by omega) (by omega)) (fun r2884 M2884 => ?_)
  refine V_istore hX 26 2889 [(7, .int r2884), (6, .int r2866), (0, .ref b), (1, .ref (kA K 0)), (2, .ref (kA K 32)), (3, .ref (kA K 45)), (4, .ref (kA K 46)), (5, .int v5)] rfl rfl (Nat.le_of_ble_eq_true rfl) rfl ?_
  refine V_aload_n hX (j := 4) (hj := rfl) 27 2890 rfl rfl ?_
  refine V_callI hX 2893 (c9 + 2) (s9 + 12) rfl rfl rfl (by omega) (by omega) (VR_V hX 28 (ct_Mo_thrown (cx_t hX) K M2884) my_Mo_thrown mi_Mo_thrown ms_Mo_thrown ml_La_204 (Nat.le_of_ble_eq_true rfl) (Nat.le_of_ble_eq_true rfl) (by decide) (ent_32 K _) rfl rfl rfl (Nat.le_of_ble_eq_true rfl) rfl (by omega) (by omega)) (fun r2890 M2890 => ?_)
  refine V_iload hX (j := 1) (hj := rfl) 29 2895 rfl rfl ?_
  refine V_icmp_eq hX 30 2898 2900 rfl rfl (by decide) (fun c2895 => ?_) (fun c2895 => ?_)
  · refine V_iload hX (j := 1) (hj := rfl) 33 2902 rfl rfl ?_
    refine V_if_ne hX 34 2905 2917 rfl rfl (by decide) (fun c2902 => ?_) (fun c2902 => ?_)
    · refine VV_sub [2, 3, 4, 5, 6, 7] rfl ?_
      exact bt_La_law_2917 hX hSc k28 v5 c9 s9 hk28 (by omega) (by omega) M2890
    · refine V_aload_n hX (j := 5) (hj := rfl) 35 2906 rfl rfl ?_
      refine V_iconst hX (v := 0) (hv := by decide) 36 2907 rfl rfl ?_
      refine V_lald hX 37 2908 rfl rfl ?_
      refine V_iload hX (j := 0) (hj := rfl) 38 2910 rfl rfl ?_
      refine V_i2l hX 39 2911 rfl rfl ?_
      refine V_lcmp hX 40 2912 rfl rfl ?_
      refine V_if_eq hX 41 2915 2917 rfl rfl (by decide) (fun c2912 => ?_) (fun c2912 => ?_)
      · refine VV_sub [2, 3, 4, 5, 6, 7] rfl ?_
        exact bt_La_law_2917 hX hSc k28 v5 c9 s9 hk28 (by omega) (by omega) M2890
      · refine V_iconst hX (v := 0) (hv := by decide) 42 2916 rfl rfl ?_
        exact V_zret hX 43 rfl rfl (by omega) (by omega) rfl
  · refine V_iconst hX (v := 0) (hv := by decide) 31 2899 rfl rfl ?_
    exact V_zret hX 32 rfl rfl (by omega) (by omega) rfl
set_option maxRecDepth 20000 in
theorem bt_La_law_2997 {l : Launch} {K : KT} {X : XT} (hX : Cx l K 1500 9 603072 7194729 X code "SeriesArchiveLaw" (some .boolean) [] L_La_law_2920) {b sl : Nat} {xs : Nat → Int32} (hSc : SC K X b sl xs) (k28 : Int32 → Mm → Rs Int32) (v5 : Int32) (c9 s9 : Nat) (hk28 : ∀ (v5 : Int32) M, VV l K 1500 9 603072 7194729 rvI X (k28 v5 M) (c9 + 85) (s9 + 11934) M 28 [(0, .ref b), (1, .ref (kA K 0)), (2, .ref (kA K 32)), (3, .ref (kA K 45)), (4, .ref (kA K 46)), (5, .int v5)] []) (hc9 : c9 + 85 ≤ 603072) (hs9 : s9 + 11934 ≤ 7194729) (M : Mm) : VV l K 1500 9 603072 7194729 rvI X (fn_La_law_2997 xs sl k28 v5 M) (c9 + 3) (s9 + 18) M 2997 [(0, .ref b), (1, .ref (kA K 0)), (2, .ref (kA K 32)), (3, .ref (kA K 45)), (4, .ref (kA K 46)), (5, .int v5)] [] := by
  unfold fn_La_law_2997
  refine V_goto hX 54 3926 rfl (by decide) ?_
  refine VV_wd (c9 + 85) (s9 + 11934) (by omega) (by omega) ?_
  exact bt_La_law_3926 (cx_L hX dec_La_law_3923) hSc k28 v5 c9 s9 hk28 (by omega) (by omega) M
set_option maxRecDepth 20000 in
theorem bt_La_law_2920 {l : Launch} {K : KT} {X : XT} (hX : Cx l K 1500 9 603072 7194729 X code "SeriesArchiveLaw" (some .boolean) [] L_La_law_2920) {b sl : Nat} {xs : Nat → Int32} (hSc : SC K X b sl xs) (k28 : Int32 → Mm → Rs Int32) (v5 : Int32) (c9 s9 : Nat) (hk28 : ∀ (v5 : Int32) M, VV l K 1500 9 603072 7194729 rvI X (k28 v5 M) (c9 + 85) (s9 + 11934) M 28 [(0, .ref b), (1, .ref (kA K 0)), (2, .ref (kA K 32)), (3, .ref (kA K 45)), (4, .ref (kA K 46)), (5, .int v5)] []) (hc9 : c9 + 85 ≤ 603072) (hs9 : s9 + 11934 ≤ 7194729) (M : Mm) : VV l K 1500 9 603072 7194729 rvI X (fn_La_law_2920 xs sl k28 v5 M) (c9 + 0) (s9 + 0) M 2920 [(0, .ref b), (1, .ref (kA K 0)), (2, .ref (kA K 32)), (3, .ref (kA K 45)), (4, .ref (kA K 46)), (5, .int v5)] [] := by
  unfold fn_La_law_2920
  refine V_aload_n hX (j := 1) (hj := rfl) 0 2921 rfl rfl ?_
  refine V_aload_n hX (j := 0) (hj := rfl) 1 2922 rfl rfl ?_
  refine V_iload hX (j := 5) (hj := rfl) 2 2924 rfl rfl ?_
  refine V_iconst hX (v := 1) (hv := by decide) 3 2925 rfl rfl ?_
  refine V_iadd hX 4 2926 rfl rfl ?_
  refine V_sld hX hSc 5 2927 rfl rfl (fun g2926 => ?_)
  refine V_aload_n hX (j := 0) (hj := rfl) 6 2928 rfl rfl ?_
  refine V_iload hX (j := 5) (hj := rfl) 7 2930 rfl rfl ?_
  refine V_iconst hX (v := 2) (hv := by decide) 8 2931 rfl rfl ?_
  refine V_iadd hX 9 2932 rfl rfl ?_
  refine V_sld hX hSc 10 2933 rfl rfl (fun g2932 => ?_)
  refine V_aload_n hX (j := 0) (hj := rfl) 11 2934 rfl rfl ?_
  refine V_iload hX (j := 5) (hj := rfl) 12 2936 rfl rfl ?_
  refine V_iconst hX (v := 3) (hv := by decide) 13 2937 rfl rfl ?_
  refine V_iadd hX 14 2938 rfl rfl ?_
  refine V_sld hX hSc 15 2939 rfl rfl (fun g2938 => ?_)
  refine V_aload_n hX (j := 3) (hj := rfl) 16 2940 rfl rfl ?_
  refine V_callI hX 2943 (c9 + 3) (s9 + 18) rfl rfl rfl (by omega) (by omega) (VR_SX hX 17 (ct_La_segmentStart (cx_t hX) K (xs (v5 + 1).toNatClampNeg) (xs (v5 + 2).toNatClampNeg) (xs (v5 + 3).toNatClampNeg) M) myw_La_segmentStart mt_La_segmentStart ml_La_324 (Nat.le_of_ble_eq_true rfl) (Nat.le_of_ble_eq_true rfl) rfl rfl (Nat.le_of_ble_eq_true rfl) rfl (by omega) (by omega)) (fun r2940 M2940 => ?_)
  refine V_istore hX 18 2945 [(6, .int r2940), (0, .ref b), (1, .ref (kA K 0)), (2, .ref (kA K 32)), (3, .ref (kA K 45)), (4, .ref (kA K 46)), (5, .int v5)] rfl rfl (Nat.le_of_ble_eq_true rfl) rfl ?_
  refine V_aload_n hX (j := 3) (hj := rfl) 19 2946 rfl rfl ?_
  refine V_aload_n hX (j := 1) (hj := rfl) 20 2947 rfl rfl ?_
  refine V_iload hX (j := 6) (hj := rfl) 21 2949 rfl rfl ?_
  refine V_iconst hX (v := 1) (hv := by decide) 22 2950 rfl rfl ?_
  refine V_iadd hX 23 2951 rfl rfl ?_
  refine V_sld hX hSc 24 2952 rfl rfl (fun g2951 => ?_)
  refine V_aload_n hX (j := 1) (hj := rfl) 25 2953 rfl rfl ?_
  refine V_iload hX (j := 6) (hj := rfl) 26 2955 rfl rfl ?_
  refine V_iconst hX (v := 2) (hv := by decide) 27 2956 rfl rfl ?_
  refine V_iadd hX 28 2957 rfl rfl ?_
  refine V_sld hX hSc 29 2958 rfl rfl (fun g2957 => ?_)
  refine V_aload_n hX (j := 1) (hj := rfl) 30 2959 rfl rfl ?_
  refine V_iload hX (j := 6) (hj := rfl) 31 2961 rfl rfl ?_
  refine V_iconst hX (v := 3) (hv := by decide) 32 2962 rfl rfl ?_
  refine V_iadd hX 33 2963 rfl rfl ?_
  refine V_sld hX hSc 34 2964 rfl rfl (fun g2963 => ?_)
  refine V_callI hX 2967 (c9 + 3) (s9 + 18) rfl rfl rfl (by omega) (by omega) (VR_V hX 35 (ct_Mo_segmentStart (cx_t hX) K (xs (v5 + 1).toNatClampNeg) (xs (v5 + 2).toNatClampNeg) (xs (v5 + 3).toNatClampNeg) M2940) my_Mo_segmentStart mi_Mo_segmentStart ms_Mo_segmentStart ml_La_326 (Nat.le_of_ble_eq_true rfl) (Nat.le_of_ble_eq_true rfl) (by decide) (ent_32 K _) rfl rfl rfl (Nat.le_of_ble_eq_true rfl) rfl (by omega) (by omega)) (fun r2964 M2964 => ?_)
  refine V_istore hX 36 2969 [(7, .int r2964), (6, .int r2940), (0, .ref b), (1, .ref (kA K 0)), (2, .ref (kA K 32)), (3, .ref (kA K 45)), (4, .ref (kA K 46)), (5, .int v5)] rfl rfl (Nat.le_of_ble_eq_true rfl) rfl ?_
  refine V_aload_n hX (j := 4) (hj := rfl) 37 2970 rfl rfl ?_
  refine V_callI hX 2973 (c9 + 3) (s9 + 18) rfl rfl rfl (by omega) (by omega) (VR_V hX 38 (ct_Mo_thrown (cx_t hX) K M2964) my_Mo_thrown mi_Mo_thrown ms_Mo_thrown ml_La_204 (Nat.le_of_ble_eq_true rfl) (Nat.le_of_ble_eq_true rfl) (by decide) (ent_32 K _) rfl rfl rfl (Nat.le_of_ble_eq_true rfl) rfl (by omega) (by omega)) (fun r2970 M2970 => ?_)
  refine V_iload hX (j := 1) (hj := rfl) 39 2975 rfl rfl ?_
  refine V_icmp_eq hX 40 2978 2980 rfl rfl (by decide) (fun c2975 => ?_) (fun c2975 => ?_)
  · refine V_iload hX (j := 1) (hj := rfl) 43 2982 rfl rfl ?_
    refine V_if_ne hX 44 2985 2997 rfl rfl (by decide) (fun c2982 => ?_) (fun c2982 => ?_)
    · refine VV_sub [2, 3, 4, 5, 6, 7] rfl ?_
      exact bt_La_law_2997 hX hSc k28 v5 c9 s9 hk28 (by omega) (by omega) M2970
    · refine V_aload_n hX (j := 5) (hj := rfl) 45 2986 rfl rfl ?_
      refine V_iconst hX (v := 0) (hv := by decide) 46 2987 rfl rfl ?_
      refine V_lald hX 47 2988 rfl rfl ?_
      refine V_iload hX (j := 0) (hj := rfl) 48 2990 rfl rfl ?_
      refine V_i2l hX 49 2991 rfl rfl ?_
      refine V_lcmp hX 50 2992 rfl rfl ?_
      refine V_if_eq hX 51 2995 2997 rfl rfl (by decide) (fun c2992 => ?_) (fun c2992 => ?_)
      · refine VV_sub [2, 3, 4, 5, 6, 7] rfl ?_
        exact bt_La_law_2997 hX hSc k28 v5 c9 s9 hk28 (by omega) (by omega) M2970
      · refine V_iconst hX (v := 0) (hv := by decide) 52 2996 rfl rfl ?_
        exact V_zret hX 53 rfl rfl (by omega) (by omega) rfl
  · refine V_iconst hX (v := 0) (hv := by decide) 41 2979 rfl rfl ?_
    exact V_zret hX 42 rfl rfl (by omega) (by omega) rfl
set_option maxRecDepth 20000 in
theorem bt_La_law_3065 {l : Launch} {K : KT} {X : XT} (hX : Cx l K 1500 9 603072 7194729 X code "SeriesArchiveLaw" (some .boolean) [] L_La_law_3000) {b sl : Nat} {xs : Nat → Int32} (hSc : SC K X b sl xs) (k28 : Int32 → Mm → Rs Int32) (v5 : Int32) (c9 s9 : Nat) (hk28 : ∀ (v5 : Int32) M, VV l K 1500 9 603072 7194729 rvI X (k28 v5 M) (c9 + 85) (s9 + 11934) M 28 [(0, .ref b), (1, .ref (kA K 0)), (2, .ref (kA K 32)), (3, .ref (kA K 45)), (4, .ref (kA K 46)), (5, .int v5)] []) (hc9 : c9 + 85 ≤ 603072) (hs9 : s9 + 11934 ≤ 7194729) (M : Mm) : VV l K 1500 9 603072 7194729 rvI X (fn_La_law_3065 xs sl k28 v5 M) (c9 + 3) (s9 + 18) M 3065 [(0, .ref b), (1, .ref (kA K 0)), (2, .ref (kA K 32)), (3, .ref (kA K 45)), (4, .ref (kA K 46)), (5, .int v5)] [] := by
  unfold fn_La_law_3065
  refine V_goto hX 44 3926 rfl (by decide) ?_
  refine VV_wd (c9 + 85) (s9 + 11934) (by omega) (by omega) ?_
  exact bt_La_law_3926 (cx_L hX dec_La_law_3923) hSc k28 v5 c9 s9 hk28 (by omega) (by omega) M
set_option maxRecDepth 20000 in
theorem bt_La_law_3000 {l : Launch} {K : KT} {X : XT} (hX : Cx l K 1500 9 603072 7194729 X code "SeriesArchiveLaw" (some .boolean) [] L_La_law_3000) {b sl : Nat} {xs : Nat → Int32} (hSc : SC K X b sl xs) (k28 : Int32 → Mm → Rs Int32) (v5 : Int32) (c9 s9 : Nat) (hk28 : ∀ (v5 : Int32) M, VV l K 1500 9 603072 7194729 rvI X (k28 v5 M) (c9 + 85) (s9 + 11934) M 28 [(0, .ref b), (1, .ref (kA K 0)), (2, .ref (kA K 32)), (3, .ref (kA K 45)), (4, .ref (kA K 46)), (5, .int v5)] []) (hc9 : c9 + 85 ≤ 603072) (hs9 : s9 + 11934 ≤ 7194729) (M : Mm) : VV l K 1500 9 603072 7194729 rvI X (fn_La_law_3000 xs sl k28 v5 M) (c9 + 0) (s9 + 0) M 3000 [(0, .ref b), (1, .ref (kA K 0)), (2, .ref (kA K 32)), (3, .ref (kA K 45)), (4, .ref (kA K 46)), (5, .int v5)] [] := by
  unfold fn_La_law_3000
  refine V_aload_n hX (j := 1) (hj := rfl) 0 3001 rfl rfl ?_
  refine V_aload_n hX (j := 0) (hj := rfl) 1 3002 rfl rfl ?_
  refine V_iload hX (j := 5) (hj := rfl) 2 3004 rfl rfl ?_
  refine V_iconst hX (v := 1) (hv := by decide) 3 3005 rfl rfl ?_
  refine V_iadd hX 4 3006 rfl rfl ?_
  refine V_sld hX hSc 5 3007 rfl rfl (fun g3006 => ?_)
  refine V_aload_n hX (j := 0) (hj := rfl) 6 3008 rfl rfl ?_
  refine V_iload hX (j := 5) (hj := rfl) 7 3010 rfl rfl ?_
  refine V_iconst hX (v := 2) (hv := by decide) 8 3011 rfl rfl ?_
  refine V_iadd hX 9 3012 rfl rfl ?_
  refine V_sld hX hSc 10 3013 rfl rfl (fun g3012 => ?_)
  refine V_aload_n hX (j := 3) (hj := rfl) 11 3014 rfl rfl ?_
  refine V_callI hX 3017 (c9 + 3) (s9 + 18) rfl rfl rfl (by omega) (by omega) (VR_SX hX 12 (ct_La_distance (cx_t hX) K (xs (v5 + 1).toNatClampNeg) (xs (v5 + 2).toNatClampNeg) M) myw_La_distance mt_La_distance ml_La_327 (Nat.le_of_ble_eq_true rfl) (Nat.le_of_ble_eq_true rfl) rfl rfl (Nat.le_of_ble_eq_true rfl) rfl (by omega) (by omega)) (fun r3014 M3014 => ?_)
  refine V_istore hX 13 3019 [(6, .int r3014), (0, .ref b), (1, .ref (kA K 0)), (2, .ref (kA K 32)), (3, .ref (kA K 45)), (4, .ref (kA K 46)), (5, .int v5)] rfl rfl (Nat.le_of_ble_eq_true rfl) rfl ?_
  refine V_aload_n hX (j := 3) (hj := rfl) 14 3020 rfl rfl ?_
  refine V_aload_n hX (j := 1) (hj := rfl) 15 3021 rfl rfl ?_
  refine V_iload hX (j := 6) (hj := rfl) 16 3023 rfl rfl ?_
  refine V_iconst hX (v := 1) (hv := by decide) 17 3024 rfl rfl ?_
  refine V_iadd hX 18 3025 rfl rfl ?_
  refine V_sld hX hSc 19 3026 rfl rfl (fun g3025 => ?_)
  refine V_aload_n hX (j := 1) (hj := rfl) 20 3027 rfl rfl ?_
  refine V_iload hX (j := 6) (hj := rfl) 21 3029 rfl rfl ?_
  refine V_iconst hX (v := 2) (hv := by decide) 22 3030 rfl rfl ?_
  refine V_iadd hX 23 3031 rfl rfl ?_
  refine V_sld hX hSc 24 3032 rfl rfl (fun g3031 => ?_)
  refine V_callI hX 3035 (c9 + 3) (s9 + 18) rfl rfl rfl (by omega) (by omega) (VR_V hX 25 (ct_Mo_distance (cx_t hX) K (xs (v5 + 1).toNatClampNeg) (xs (v5 + 2).toNatClampNeg) M3014) my_Mo_distance mi_Mo_distance ms_Mo_distance ml_La_329 (Nat.le_of_ble_eq_true rfl) (Nat.le_of_ble_eq_true rfl) (by decide) (ent_32 K _) rfl rfl rfl (Nat.le_of_ble_eq_true rfl) rfl (by omega) (by omega)) (fun r3032 M3032 => ?_)
  refine V_istore hX 26 3037 [(7, .int r3032), (6, .int r3014), (0, .ref b), (1, .ref (kA K 0)), (2, .ref (kA K 32)), (3, .ref (kA K 45)), (4, .ref (kA K 46)), (5, .int v5)] rfl rfl (Nat.le_of_ble_eq_true rfl) rfl ?_
  refine V_aload_n hX (j := 4) (hj := rfl) 27 3038 rfl rfl ?_
  refine V_callI hX 3041 (c9 + 3) (s9 + 18) rfl rfl rfl (by omega) (by omega) (VR_V hX 28 (ct_Mo_thrown (cx_t hX) K M3032) my_Mo_thrown mi_Mo_thrown ms_Mo_thrown ml_La_204 (Nat.le_of_ble_eq_true rfl) (Nat.le_of_ble_eq_true rfl) (by decide) (ent_32 K _) rfl rfl rfl (Nat.le_of_ble_eq_true rfl) rfl (by omega) (by omega)) (fun r3038 M3038 => ?_)
  refine V_iload hX (j := 1) (hj := rfl) 29 3043 rfl rfl ?_
  refine V_icmp_eq hX 30 3046 3048 rfl rfl (by decide) (fun c3043 => ?_) (fun c3043 => ?_)
  · refine V_iload hX (j := 1) (hj := rfl) 33 3050 rfl rfl ?_
    refine V_if_ne hX 34 3053 3065 rfl rfl (by decide) (fun c3050 => ?_) (fun c3050 => ?_)
    · refine VV_sub [2, 3, 4, 5, 6, 7] rfl ?_
      exact bt_La_law_3065 hX hSc k28 v5 c9 s9 hk28 (by omega) (by omega) M3038
    · refine V_aload_n hX (j := 5) (hj := rfl) 35 3054 rfl rfl ?_
      refine V_iconst hX (v := 0) (hv := by decide) 36 3055 rfl rfl ?_
      refine V_lald hX 37 3056 rfl rfl ?_
      refine V_iload hX (j := 0) (hj := rfl) 38 3058 rfl rfl ?_
      refine V_i2l hX 39 3059 rfl rfl ?_
      refine V_lcmp hX 40 3060 rfl rfl ?_
      refine V_if_eq hX 41 3063 3065 rfl rfl (by decide) (fun c3060 => ?_) (fun c3060 => ?_)
      · refine VV_sub [2, 3, 4, 5, 6, 7] rfl ?_
        exact bt_La_law_3065 hX hSc k28 v5 c9 s9 hk28 (by omega) (by omega) M3038
      · refine V_iconst hX (v := 0) (hv := by decide) 42 3064 rfl rfl ?_
        exact V_zret hX 43 rfl rfl (by omega) (by omega) rfl
  · refine V_iconst hX (v := 0) (hv := by decide) 31 3047 rfl rfl ?_
    exact V_zret hX 32 rfl rfl (by omega) (by omega) rfl
set_option maxRecDepth 20000 in
theorem bt_La_law_3133 {l : Launch} {K : KT} {X : XT} (hX : Cx l K 1500 9 603072 7194729 X code "SeriesArchiveLaw" (some .boolean) [] L_La_law_3068) {b sl : Nat} {xs : Nat → Int32} (hSc : SC K X b sl xs) (k28 : Int32 → Mm → Rs Int32) (v5 : Int32) (c9 s9 : Nat) (hk28 : ∀ (v5 : Int32) M, VV l K 1500 9 603072 7194729 rvI X (k28 v5 M) (c9 + 85) (s9 + 11934) M 28 [(0, .ref b), (1, .ref (kA K 0)), (2, .ref (kA K 32)), (3, .ref (kA K 45)), (4, .ref (kA K 46)), (5, .int v5)] []) (hc9 : c9 + 85 ≤ 603072) (hs9 : s9 + 11934 ≤ 7194729) (M : Mm) : VV l K 1500 9 603072 7194729 rvI X (fn_La_law_3133 xs sl k28 v5 M) (c9 + 3) (s9 + 18) M 3133 [(0, .ref b), (1, .ref (kA K 0)), (2, .ref (kA K 32)), (3, .ref (kA K 45)), (4, .ref (kA K 46)), (5, .int v5)] [] := by
  unfold fn_La_law_3133
  refine V_goto hX 44 3926 rfl (by decide) ?_
  refine VV_wd (c9 + 85) (s9 + 11934) (by omega) (by omega) ?_
  exact bt_La_law_3926 (cx_L hX dec_La_law_3923) hSc k28 v5 c9 s9 hk28 (by omega) (by omega) M
set_option maxRecDepth 20000 in
theorem bt_La_law_3068 {l : Launch} {K : KT} {X : XT} (hX : Cx l K 1500 9 603072 7194729 X code "SeriesArchiveLaw" (some .boolean) [] L_La_law_3068) {b sl : Nat} {xs : Nat → Int32} (hSc : SC K X b sl xs) (k28 : Int32 → Mm → Rs Int32) (v5 : Int32) (c9 s9 : Nat) (hk28 : ∀ (v5 : Int32) M, VV l K 1500 9 603072 7194729 rvI X (k28 v5 M) (c9 + 85) (s9 + 11934) M 28 [(0, .ref b), (1, .ref (kA K 0)), (2, .ref (kA K 32)), (3, .ref (kA K 45)), (4, .ref (kA K 46)), (5, .int v5)] []) (hc9 : c9 + 85 ≤ 603072) (hs9 : s9 + 11934 ≤ 7194729) (M : Mm) : VV l K 1500 9 603072 7194729 rvI X (fn_La_law_3068 xs sl k28 v5 M) (c9 + 0) (s9 + 0) M 3068 [(0, .ref b), (1, .ref (kA K 0)), (2, .ref (kA K 32)), (3, .ref (kA K 45)), (4, .ref (kA K 46)), (5, .int v5)] [] := by
  unfold fn_La_law_3068
  refine V_aload_n hX (j := 1) (hj := rfl) 0 3069 rfl rfl ?_
  refine V_aload_n hX (j := 0) (hj := rfl) 1 3070 rfl rfl ?_
  refine V_iload hX (j := 5) (hj := rfl) 2 3072 rfl rfl ?_
  refine V_iconst hX (v := 1) (hv := by decide) 3 3073 rfl rfl ?_
  refine V_iadd hX 4 3074 rfl rfl ?_
  refine V_sld hX hSc 5 3075 rfl rfl (fun g3074 => ?_)
  refine V_aload_n hX (j := 0) (hj := rfl) 6 3076 rfl rfl ?_
  refine V_iload hX (j := 5) (hj := rfl) 7 3078 rfl rfl ?_
  refine V_iconst hX (v := 2) (hv := by decide) 8 3079 rfl rfl ?_
  refine V_iadd hX 9 3080 rfl rfl ?_
  refine V_sld hX hSc 10 3081 rfl rfl (fun g3080 => ?_)
  refine V_aload_n hX (j := 3) (hj := rfl) 11 3082 rfl rfl ?_
  refine V_callI hX 3085 (c9 + 3) (s9 + 18) rfl rfl rfl (by omega) (by omega) (VR_SX hX 12 (ct_La_distanceByWalks (cx_t hX) K (xs (v5 + 1).toNatClampNeg) (xs (v5 + 2).toNatClampNeg) M) myw_La_distanceByWalks mt_La_distanceByWalks ml_La_330 (Nat.le_of_ble_eq_true rfl) (Nat.le_of_ble_eq_true rfl) rfl rfl (Nat.le_of_ble_eq_true rfl) rfl (by omega) (by omega)) (fun r3082 M3082 => ?_)
  refine V_istore hX 13 3087 [(6, .int r3082), (0, .ref b), (1, .ref (kA K 0)), (2, .ref (kA K 32)), (3, .ref (kA K 45)), (4, .ref (kA K 46)), (5, .int v5)] rfl rfl (Nat.le_of_ble_eq_true rfl) rfl ?_
  refine V_aload_n hX (j := 3) (hj := rfl) 14 3088 rfl rfl ?_
  refine V_aload_n hX (j := 1) (hj := rfl) 15 3089 rfl rfl ?_
  refine V_iload hX (j := 6) (hj := rfl) 16 3091 rfl rfl ?_
  refine V_iconst hX (v := 1) (hv := by decide) 17 3092 rfl rfl ?_
  refine V_iadd hX 18 3093 rfl rfl ?_
  refine V_sld hX hSc 19 3094 rfl rfl (fun g3093 => ?_)
  refine V_aload_n hX (j := 1) (hj := rfl) 20 3095 rfl rfl ?_
  refine V_iload hX (j := 6) (hj := rfl) 21 3097 rfl rfl ?_
  refine V_iconst hX (v := 2) (hv := by decide) 22 3098 rfl rfl ?_
  refine V_iadd hX 23 3099 rfl rfl ?_
  refine V_sld hX hSc 24 3100 rfl rfl (fun g3099 => ?_)
  refine V_callI hX 3103 (c9 + 3) (s9 + 18) rfl rfl rfl (by omega) (by omega) (VR_V hX 25 (ct_Mo_distanceByWalks (cx_t hX) K (xs (v5 + 1).toNatClampNeg) (xs (v5 + 2).toNatClampNeg) M3082) my_Mo_distanceByWalks mi_Mo_distanceByWalks ms_Mo_distanceByWalks ml_La_332 (Nat.le_of_ble_eq_true rfl) (Nat.le_of_ble_eq_true rfl) (by decide) (ent_32 K _) rfl rfl rfl (Nat.le_of_ble_eq_true rfl) rfl (by omega) (by omega)) (fun r3100 M3100 => ?_)
  refine V_istore hX 26 3105 [(7, .int r3100), (6, .int r3082), (0, .ref b), (1, .ref (kA K 0)), (2, .ref (kA K 32)), (3, .ref (kA K 45)), (4, .ref (kA K 46)), (5, .int v5)] rfl rfl (Nat.le_of_ble_eq_true rfl) rfl ?_
  refine V_aload_n hX (j := 4) (hj := rfl) 27 3106 rfl rfl ?_
  refine V_callI hX 3109 (c9 + 3) (s9 + 18) rfl rfl rfl (by omega) (by omega) (VR_V hX 28 (ct_Mo_thrown (cx_t hX) K M3100) my_Mo_thrown mi_Mo_thrown ms_Mo_thrown ml_La_204 (Nat.le_of_ble_eq_true rfl) (Nat.le_of_ble_eq_true rfl) (by decide) (ent_32 K _) rfl rfl rfl (Nat.le_of_ble_eq_true rfl) rfl (by omega) (by omega)) (fun r3106 M3106 => ?_)
  refine V_iload hX (j := 1) (hj := rfl) 29 3111 rfl rfl ?_
  refine V_icmp_eq hX 30 3114 3116 rfl rfl (by decide) (fun c3111 => ?_) (fun c3111 => ?_)
  · refine V_iload hX (j := 1) (hj := rfl) 33 3118 rfl rfl ?_
    refine V_if_ne hX 34 3121 3133 rfl rfl (by decide) (fun c3118 => ?_) (fun c3118 => ?_)
    · refine VV_sub [2, 3, 4, 5, 6, 7] rfl ?_
      exact bt_La_law_3133 hX hSc k28 v5 c9 s9 hk28 (by omega) (by omega) M3106
    · refine V_aload_n hX (j := 5) (hj := rfl) 35 3122 rfl rfl ?_
      refine V_iconst hX (v := 0) (hv := by decide) 36 3123 rfl rfl ?_
      refine V_lald hX 37 3124 rfl rfl ?_
      refine V_iload hX (j := 0) (hj := rfl) 38 3126 rfl rfl ?_
      refine V_i2l hX 39 3127 rfl rfl ?_
      refine V_lcmp hX 40 3128 rfl rfl ?_
      refine V_if_eq hX 41 3131 3133 rfl rfl (by decide) (fun c3128 => ?_) (fun c3128 => ?_)
      · refine VV_sub [2, 3, 4, 5, 6, 7] rfl ?_
        exact bt_La_law_3133 hX hSc k28 v5 c9 s9 hk28 (by omega) (by omega) M3106
      · refine V_iconst hX (v := 0) (hv := by decide) 42 3132 rfl rfl ?_
        exact V_zret hX 43 rfl rfl (by omega) (by omega) rfl
  · refine V_iconst hX (v := 0) (hv := by decide) 31 3115 rfl rfl ?_
    exact V_zret hX 32 rfl rfl (by omega) (by omega) rfl
set_option maxRecDepth 20000 in
theorem bt_La_law_3208 {l : Launch} {K : KT} {X : XT} (hX : Cx l K 1500 9 603072 7194729 X code "SeriesArchiveLaw" (some .boolean) [] L_La_law_3136) {b sl : Nat} {xs : Nat → Int32} (hSc : SC K X b sl xs) (k28 : Int32 → Mm → Rs Int32) (v5 : Int32) (c9 s9 : Nat) (hk28 : ∀ (v5 : Int32) M, VV l K 1500 9 603072 7194729 rvI X (k28 v5 M) (c9 + 85) (s9 + 11934) M 28 [(0, .ref b), (1, .ref (kA K 0)), (2, .ref (kA K 32)), (3, .ref (kA K 45)), (4, .ref (kA K 46)), (5, .int v5)] []) (hc9 : c9 + 85 ≤ 603072) (hs9 : s9 + 11934 ≤ 7194729) (M : Mm) : VV l K 1500 9 603072 7194729 rvI X (fn_La_law_3208 xs sl k28 v5 M) (c9 + 2) (s9 + 12) M 3208 [(0, .ref b), (1, .ref (kA K 0)), (2, .ref (kA K 32)), (3, .ref (kA K 45)), (4, .ref (kA K 46)), (5, .int v5)] [] := by
  unfold fn_La_law_3208
  refine V_goto hX 47 3926 rfl (by decide) ?_
  refine VV_wd (c9 + 85) (s9 + 11934) (by omega) (by omega) ?_
  exact bt_La_law_3926 (cx_L hX dec_La_law_3923) hSc k28 v5 c9 s9 hk28 (by omega) (by omega) M
set_option maxRecDepth 20000 in
theorem bt_La_law_3202 {l : Launch} {K : KT} {X : XT} (hX : Cx l K 1500 9 603072 7194729 X code "SeriesArchiveLaw" (some .boolean) [] L_La_law_3136) {b sl : Nat} {xs : Nat → Int32} (hSc : SC K X b sl xs) (k28 : Int32 → Mm → Rs Int32) (v5 : Int32) (c9 s9 : Nat) (hk28 : ∀ (v5 : Int32) M, VV l K 1500 9 603072 7194729 rvI X (k28 v5 M) (c9 + 85) (s9 + 11934) M 28 [(0, .ref b), (1, .ref (kA K 0)), (2, .ref (kA K 32)), (3, .ref (kA K 45)), (4, .ref (kA K 46)), (5, .int v5)] []) (hc9 : c9 + 85 ≤ 603072) (hs9 : s9 + 11934 ≤ 7194729) (s0 : Int32) (s1 : Int32) (M : Mm) : VV l K 1500 9 603072 7194729 rvI X (fn_La_law_3202 xs sl k28 v5 s0 s1 M) (c9 + 2) (s9 + 12) M 3202 [(0, .ref b), (1, .ref (kA K 0)), (2, .ref (kA K 32)), (3, .ref (kA K 45)), (4, .ref (kA K 46)), (5, .int v5)] [.long (s1).toInt64, .long (s0).toInt64] := by
  unfold fn_La_law_3202
  refine V_lcmp hX 43 3203 rfl rfl ?_
  refine V_if_eq hX 44 3206 3208 rfl rfl (by decide) (fun c3203 => ?_) (fun c3203 => ?_)
  · exact bt_La_law_3208 hX hSc k28 v5 c9 s9 hk28 (by omega) (by omega) M
  · refine V_iconst hX (v := 0) (hv := by decide) 45 3207 rfl rfl ?_
    exact V_zret hX 46 rfl rfl (by omega) (by omega) rfl
set_option maxRecDepth 20000 in
theorem bt_La_law_3136 {l : Launch} {K : KT} {X : XT} (hX : Cx l K 1500 9 603072 7194729 X code "SeriesArchiveLaw" (some .boolean) [] L_La_law_3136) {b sl : Nat} {xs : Nat → Int32} (hSc : SC K X b sl xs) (k28 : Int32 → Mm → Rs Int32) (v5 : Int32) (c9 s9 : Nat) (hk28 : ∀ (v5 : Int32) M, VV l K 1500 9 603072 7194729 rvI X (k28 v5 M) (c9 + 85) (s9 + 11934) M 28 [(0, .ref b), (1, .ref (kA K 0)), (2, .ref (kA K 32)), (3, .ref (kA K 45)), (4, .ref (kA K 46)), (5, .int v5)] []) (hc9 : c9 + 85 ≤ 603072) (hs9 : s9 + 11934 ≤ 7194729) (M : Mm) : VV l K 1500 9 603072 7194729 rvI X (fn_La_law_3136 xs sl k28 v5 M) (c9 + 0) (s9 + 0) M 3136 [(0, .ref b), (1, .ref (kA K 0)), (2, .ref (kA K 32)), (3, .ref (kA K 45)), (4, .ref (kA K 46)), (5, .int v5)] [] := by
  unfold fn_La_law_3136
  refine V_aload_n hX (j := 1) (hj := rfl) 0 3137 rfl rfl ?_
  refine V_aload_n hX (j := 0) (hj := rfl) 1 3138 rfl rfl ?_
  refine V_iload hX (j := 5) (hj := rfl) 2 3140 rfl rfl ?_
  refine V_iconst hX (v := 1) (hv := by decide) 3 3141 rfl rfl ?_
  refine V_iadd hX 4 3142 rfl rfl ?_
  refine V_sld hX hSc 5 3143 rfl rfl (fun g3142 => ?_)
  refine V_aload_n hX (j := 0) (hj := rfl) 6 3144 rfl rfl ?_
  refine V_iload hX (j := 5) (hj := rfl) 7 3146 rfl rfl ?_
  refine V_iconst hX (v := 2) (hv := by decide) 8 3147 rfl rfl ?_
  refine V_iadd hX 9 3148 rfl rfl ?_
  refine V_sld hX hSc 10 3149 rfl rfl (fun g3148 => ?_)
  refine V_aload_n hX (j := 3) (hj := rfl) 11 3150 rfl rfl ?_
  refine V_callI hX 3153 (c9 + 2) (s9 + 12) rfl rfl rfl (by omega) (by omega) (VR_SX hX 12 (ct_La_areEqual (cx_t hX) K (xs (v5 + 1).toNatClampNeg) (xs (v5 + 2).toNatClampNeg) M) myw_La_areEqual mt_La_areEqual ml_La_333 (Nat.le_of_ble_eq_true rfl) (Nat.le_of_ble_eq_true rfl) rfl rfl (Nat.le_of_ble_eq_true rfl) rfl (by omega) (by omega)) (fun r3150 M3150 => ?_)
  refine V_istore hX 13 3155 [(6, .int r3150), (0, .ref b), (1, .ref (kA K 0)), (2, .ref (kA K 32)), (3, .ref (kA K 45)), (4, .ref (kA K 46)), (5, .int v5)] rfl rfl (Nat.le_of_ble_eq_true rfl) rfl ?_
  refine V_aload_n hX (j := 3) (hj := rfl) 14 3156 rfl rfl ?_
  refine V_aload_n hX (j := 1) (hj := rfl) 15 3157 rfl rfl ?_
  refine V_iload hX (j := 6) (hj := rfl) 16 3159 rfl rfl ?_
  refine V_iconst hX (v := 1) (hv := by decide) 17 3160 rfl rfl ?_
  refine V_iadd hX 18 3161 rfl rfl ?_
  refine V_sld hX hSc 19 3162 rfl rfl (fun g3161 => ?_)
  refine V_aload_n hX (j := 1) (hj := rfl) 20 3163 rfl rfl ?_
  refine V_iload hX (j := 6) (hj := rfl) 21 3165 rfl rfl ?_
  refine V_iconst hX (v := 2) (hv := by decide) 22 3166 rfl rfl ?_
  refine V_iadd hX 23 3167 rfl rfl ?_
  refine V_sld hX hSc 24 3168 rfl rfl (fun g3167 => ?_)
  refine V_callI hX 3171 (c9 + 2) (s9 + 12) rfl rfl rfl (by omega) (by omega) (VR_V hX 25 (ct_Mo_areEqual (cx_t hX) K (xs (v5 + 1).toNatClampNeg) (xs (v5 + 2).toNatClampNeg) M3150) my_Mo_areEqual mi_Mo_areEqual ms_Mo_areEqual ml_La_335 (Nat.le_of_ble_eq_true rfl) (Nat.le_of_ble_eq_true rfl) (by decide) (ent_32 K _) rfl rfl rfl (Nat.le_of_ble_eq_true rfl) rfl (by omega) (by omega)) (fun r3168 M3168 => ?_)
  refine V_istore hX 26 3173 [(7, .int r3168), (6, .int r3150), (0, .ref b), (1, .ref (kA K 0)), (2, .ref (kA K 32)), (3, .ref (kA K 45)), (4, .ref (kA K 46)), (5, .int v5)] rfl rfl (Nat.le_of_ble_eq_true rfl) rfl ?_
  refine V_aload_n hX (j := 4) (hj := rfl) 27 3174 rfl rfl ?_
  refine V_callI hX 3177 (c9 + 2) (s9 + 12) rfl rfl rfl (by omega) (by omega) (VR_V hX 28 (ct_Mo_thrown (cx_t hX) K M3168) my_Mo_thrown mi_Mo_thrown ms_Mo_thrown ml_La_204 (Nat.le_of_ble_eq_true rfl) (Nat.le_of_ble_eq_true rfl) (by decide) (ent_32 K _) rfl rfl rfl (Nat.le_of_ble_eq_true rfl) rfl (by omega) (by omega)) (fun r3174 M3174 => ?_)
  refine V_iload hX (j := 1) (hj := rfl) 29 3179 rfl rfl ?_
  refine V_icmp_eq hX 30 3182 3184 rfl rfl (by decide) (fun c3179 => ?_) (fun c3179 => ?_)
  · refine V_iload hX (j := 1) (hj := rfl) 33 3186 rfl rfl ?_
    refine V_if_ne hX 34 3189 3208 rfl rfl (by decide) (fun c3186 => ?_) (fun c3186 => ?_)
    · refine VV_sub [2, 3, 4, 5, 6, 7] rfl ?_
      exact bt_La_law_3208 hX hSc k28 v5 c9 s9 hk28 (by omega) (by omega) M3174
    · refine V_aload_n hX (j := 5) (hj := rfl) 35 3190 rfl rfl ?_
      refine V_iconst hX (v := 0) (hv := by decide) 36 3191 rfl rfl ?_
      refine V_lald hX 37 3192 rfl rfl ?_
      refine V_iload hX (j := 0) (hj := rfl) 38 3194 rfl rfl ?_
      refine V_if_eq hX 39 3197 3201 rfl rfl (by decide) (fun c3194 => ?_) (fun c3194 => ?_)
      · refine V_lconst hX 42 3202 rfl rfl ((0 : Int32).toInt64) (by decide) ?_
        refine VV_sub [2, 3, 4, 5, 6, 7] rfl ?_
        exact bt_La_law_3202 hX hSc k28 v5 c9 s9 hk28 (by omega) (by omega) (M3174 45 0) (0 : Int32) M3174
      · refine V_lconst hX 40 3198 rfl rfl ((1 : Int32).toInt64) (by decide) ?_
        refine V_goto hX 41 3202 rfl (by decide) ?_
        refine VV_sub [2, 3, 4, 5, 6, 7] rfl ?_
        exact bt_La_law_3202 hX hSc k28 v5 c9 s9 hk28 (by omega) (by omega) (M3174 45 0) (1 : Int32) M3174
  · refine V_iconst hX (v := 0) (hv := by decide) 31 3183 rfl rfl ?_
    exact V_zret hX 32 rfl rfl (by omega) (by omega) rfl
set_option maxRecDepth 20000 in
theorem bt_La_law_3283 {l : Launch} {K : KT} {X : XT} (hX : Cx l K 1500 9 603072 7194729 X code "SeriesArchiveLaw" (some .boolean) [] L_La_law_3211) {b sl : Nat} {xs : Nat → Int32} (hSc : SC K X b sl xs) (k28 : Int32 → Mm → Rs Int32) (v5 : Int32) (c9 s9 : Nat) (hk28 : ∀ (v5 : Int32) M, VV l K 1500 9 603072 7194729 rvI X (k28 v5 M) (c9 + 85) (s9 + 11934) M 28 [(0, .ref b), (1, .ref (kA K 0)), (2, .ref (kA K 32)), (3, .ref (kA K 45)), (4, .ref (kA K 46)), (5, .int v5)] []) (hc9 : c9 + 85 ≤ 603072) (hs9 : s9 + 11934 ≤ 7194729) (M : Mm) : VV l K 1500 9 603072 7194729 rvI X (fn_La_law_3283 xs sl k28 v5 M) (c9 + 2) (s9 + 12) M 3283 [(0, .ref b), (1, .ref (kA K 0)), (2, .ref (kA K 32)), (3, .ref (kA K 45)), (4, .ref (kA K 46)), (5, .int v5)] [] := by
  unfold fn_La_law_3283
  refine V_goto hX 47 3926 rfl (by decide) ?_
  refine VV_wd (c9 + 85) (s9 + 11934) (by omega) (by omega) ?_
  exact bt_La_law_3926 (cx_L hX dec_La_law_3923) hSc k28 v5 c9 s9 hk28 (by omega) (by omega) M
set_option maxRecDepth 20000 in
theorem bt_La_law_3277 {l : Launch} {K : KT} {X : XT} (hX : Cx l K 1500 9 603072 7194729 X code "SeriesArchiveLaw" (some .boolean) [] L_La_law_3211) {b sl : Nat} {xs : Nat → Int32} (hSc : SC K X b sl xs) (k28 : Int32 → Mm → Rs Int32) (v5 : Int32) (c9 s9 : Nat) (hk28 : ∀ (v5 : Int32) M, VV l K 1500 9 603072 7194729 rvI X (k28 v5 M) (c9 + 85) (s9 + 11934) M 28 [(0, .ref b), (1, .ref (kA K 0)), (2, .ref (kA K 32)), (3, .ref (kA K 45)), (4, .ref (kA K 46)), (5, .int v5)] []) (hc9 : c9 + 85 ≤ 603072) (hs9 : s9 + 11934 ≤ 7194729) (s0 : Int32) (s1 : Int32) (M : Mm) : VV l K 1500 9 603072 7194729 rvI X (fn_La_law_3277 xs sl k28 v5 s0 s1 M) (c9 + 2) (s9 + 12) M 3277 [(0, .ref b), (1, .ref (kA K 0)), (2, .ref (kA K 32)), (3, .ref (kA K 45)), (4, .ref (kA K 46)), (5, .int v5)] [.long (s1).toInt64, .long (s0).toInt64] := by
  unfold fn_La_law_3277
  refine V_lcmp hX 43 3278 rfl rfl ?_
  refine V_if_eq hX 44 3281 3283 rfl rfl (by decide) (fun c3278 => ?_) (fun c3278 => ?_)
  · exact bt_La_law_3283 hX hSc k28 v5 c9 s9 hk28 (by omega) (by omega) M
  · refine V_iconst hX (v := 0) (hv := by decide) 45 3282 rfl rfl ?_
    exact V_zret hX 46 rfl rfl (by omega) (by omega) rfl
set_option maxRecDepth 20000 in
theorem bt_La_law_3211 {l : Launch} {K : KT} {X : XT} (hX : Cx l K 1500 9 603072 7194729 X code "SeriesArchiveLaw" (some .boolean) [] L_La_law_3211) {b sl : Nat} {xs : Nat → Int32} (hSc : SC K X b sl xs) (k28 : Int32 → Mm → Rs Int32) (v5 : Int32) (c9 s9 : Nat) (hk28 : ∀ (v5 : Int32) M, VV l K 1500 9 603072 7194729 rvI X (k28 v5 M) (c9 + 85) (s9 + 11934) M 28 [(0, .ref b), (1, .ref (kA K 0)), (2, .ref (kA K 32)), (3, .ref (kA K 45)), (4, .ref (kA K 46)), (5, .int v5)] []) (hc9 : c9 + 85 ≤ 603072) (hs9 : s9 + 11934 ≤ 7194729) (M : Mm) : VV l K 1500 9 603072 7194729 rvI X (fn_La_law_3211 xs sl k28 v5 M) (c9 + 0) (s9 + 0) M 3211 [(0, .ref b), (1, .ref (kA K 0)), (2, .ref (kA K 32)), (3, .ref (kA K 45)), (4, .ref (kA K 46)), (5, .int v5)] [] := by
  unfold fn_La_law_3211
  refine V_aload_n hX (j := 1) (hj := rfl) 0 3212 rfl rfl ?_
  refine V_aload_n hX (j := 0) (hj := rfl) 1 3213 rfl rfl ?_
  refine V_iload hX (j := 5) (hj := rfl) 2 3215 rfl rfl ?_
  refine V_iconst hX (v := 1) (hv := by decide) 3 3216 rfl rfl ?_
  refine V_iadd hX 4 3217 rfl rfl ?_
  refine V_sld hX hSc 5 3218 rfl rfl (fun g3217 => ?_)
  refine V_aload_n hX (j := 0) (hj := rfl) 6 3219 rfl rfl ?_
  refine V_iload hX (j := 5) (hj := rfl) 7 3221 rfl rfl ?_
  refine V_iconst hX (v := 2) (hv := by decide) 8 3222 rfl rfl ?_
  refine V_iadd hX 9 3223 rfl rfl ?_
  refine V_sld hX hSc 10 3224 rfl rfl (fun g3223 => ?_)
  refine V_aload_n hX (j := 3) (hj := rfl) 11 3225 rfl rfl ?_
  refine V_callI hX 3228 (c9 + 2) (s9 + 12) rfl rfl rfl (by omega) (by omega) (VR_SX hX 12 (ct_La_areParallel (cx_t hX) K (xs (v5 + 1).toNatClampNeg) (xs (v5 + 2).toNatClampNeg) M) myw_La_areParallel mt_La_areParallel ml_La_336 (Nat.le_of_ble_eq_true rfl) (Nat.le_of_ble_eq_true rfl) rfl rfl (Nat.le_of_ble_eq_true rfl) rfl (by omega) (by omega)) (fun r3225 M3225 => ?_)
  refine V_istore hX 13 3230 [(6, .int r3225), (0, .ref b), (1, .ref (kA K 0)), (2, .ref (kA K 32)), (3, .ref (kA K 45)), (4, .ref (kA K 46)), (5, .int v5)] rfl rfl (Nat.le_of_ble_eq_true rfl) rfl ?_
  refine V_aload_n hX (j := 3) (hj := rfl) 14 3231 rfl rfl ?_
  refine V_aload_n hX (j := 1) (hj := rfl) 15 3232 rfl rfl ?_
  refine V_iload hX (j := 6) (hj := rfl) 16 3234 rfl rfl ?_
  refine V_iconst hX (v := 1) (hv := by decide) 17 3235 rfl rfl ?_
  refine V_iadd hX 18 3236 rfl rfl ?_
  refine V_sld hX hSc 19 3237 rfl rfl (fun g3236 => ?_)
  refine V_aload_n hX (j := 1) (hj := rfl) 20 3238 rfl rfl ?_
  refine V_iload hX (j := 6) (hj := rfl) 21 3240 rfl rfl ?_
  refine V_iconst hX (v := 2) (hv := by decide) 22 3241 rfl rfl ?_
  refine V_iadd hX 23 3242 rfl rfl ?_
  refine V_sld hX hSc 24 3243 rfl rfl (fun g3242 => ?_)
  refine V_callI hX 3246 (c9 + 2) (s9 + 12) rfl rfl rfl (by omega) (by omega) (VR_V hX 25 (ct_Mo_areParallel (cx_t hX) K (xs (v5 + 1).toNatClampNeg) (xs (v5 + 2).toNatClampNeg) M3225) my_Mo_areParallel mi_Mo_areParallel ms_Mo_areParallel ml_La_338 (Nat.le_of_ble_eq_true rfl) (Nat.le_of_ble_eq_true rfl) (by decide) (ent_32 K _) rfl rfl rfl (Nat.le_of_ble_eq_true rfl) rfl (by omega) (by omega)) (fun r3243 M3243 => ?_)
  refine V_istore hX 26 3248 [(7, .int r3243), (6, .int r3225), (0, .ref b), (1, .ref (kA K 0)), (2, .ref (kA K 32)), (3, .ref (kA K 45)), (4, .ref (kA K 46)), (5, .int v5)] rfl rfl (Nat.le_of_ble_eq_true rfl) rfl ?_
  refine V_aload_n hX (j := 4) (hj := rfl) 27 3249 rfl rfl ?_
  refine V_callI hX 3252 (c9 + 2) (s9 + 12) rfl rfl rfl (by omega) (by omega) (VR_V hX 28 (ct_Mo_thrown (cx_t hX) K M3243) my_Mo_thrown mi_Mo_thrown ms_Mo_thrown ml_La_204 (Nat.le_of_ble_eq_true rfl) (Nat.le_of_ble_eq_true rfl) (by decide) (ent_32 K _) rfl rfl rfl (Nat.le_of_ble_eq_true rfl) rfl (by omega) (by omega)) (fun r3249 M3249 => ?_)
  refine V_iload hX (j := 1) (hj := rfl) 29 3254 rfl rfl ?_
  refine V_icmp_eq hX 30 3257 3259 rfl rfl (by decide) (fun c3254 => ?_) (fun c3254 => ?_)
  · refine V_iload hX (j := 1) (hj := rfl) 33 3261 rfl rfl ?_
    refine V_if_ne hX 34 3264 3283 rfl rfl (by decide) (fun c3261 => ?_) (fun c3261 => ?_)
    · refine VV_sub [2, 3, 4, 5, 6, 7] rfl ?_
      exact bt_La_law_3283 hX hSc k28 v5 c9 s9 hk28 (by omega) (by omega) M3249
    · refine V_aload_n hX (j := 5) (hj := rfl) 35 3265 rfl rfl ?_
      refine V_iconst hX (v := 0) (hv := by decide) 36 3266 rfl rfl ?_
      refine V_lald hX 37 3267 rfl rfl ?_
      refine V_iload hX (j := 0) (hj := rfl) 38 3269 rfl rfl ?_
      refine V_if_eq hX 39 3272 3276 rfl rfl (by decide) (fun c3269 => ?_) (fun c3269 => ?_)
      · refine V_lconst hX 42 3277 rfl rfl ((0 : Int32).toInt64) (by decide) ?_
        refine VV_sub [2, 3, 4, 5, 6, 7] rfl ?_
        exact bt_La_law_3277 hX hSc k28 v5 c9 s9 hk28 (by omega) (by omega) (M3249 45 0) (0 : Int32) M3249
      · refine V_lconst hX 40 3273 rfl rfl ((1 : Int32).toInt64) (by decide) ?_
        refine V_goto hX 41 3277 rfl (by decide) ?_
        refine VV_sub [2, 3, 4, 5, 6, 7] rfl ?_
        exact bt_La_law_3277 hX hSc k28 v5 c9 s9 hk28 (by omega) (by omega) (M3249 45 0) (1 : Int32) M3249
  · refine V_iconst hX (v := 0) (hv := by decide) 31 3258 rfl rfl ?_
    exact V_zret hX 32 rfl rfl (by omega) (by omega) rfl
set_option maxRecDepth 20000 in
theorem bt_La_law_3346 {l : Launch} {K : KT} {X : XT} (hX : Cx l K 1500 9 603072 7194729 X code "SeriesArchiveLaw" (some .boolean) [] L_La_law_3286) {b sl : Nat} {xs : Nat → Int32} (hSc : SC K X b sl xs) (k28 : Int32 → Mm → Rs Int32) (v5 : Int32) (c9 s9 : Nat) (hk28 : ∀ (v5 : Int32) M, VV l K 1500 9 603072 7194729 rvI X (k28 v5 M) (c9 + 85) (s9 + 11934) M 28 [(0, .ref b), (1, .ref (kA K 0)), (2, .ref (kA K 32)), (3, .ref (kA K 45)), (4, .ref (kA K 46)), (5, .int v5)] []) (hc9 : c9 + 85 ≤ 603072) (hs9 : s9 + 11934 ≤ 7194729) (M : Mm) : VV l K 1500 9 603072 7194729 rvI X (fn_La_law_3346 xs sl k28 v5 M) (c9 + 1) (s9 + 6) M 3346 [(0, .ref b), (1, .ref (kA K 0)), (2, .ref (kA K 32)), (3, .ref (kA K 45)), (4, .ref (kA K 46)), (5, .int v5)] [] := by
  unfold fn_La_law_3346
  refine V_goto hX 37 3926 rfl (by decide) ?_
  refine VV_wd (c9 + 85) (s9 + 11934) (by omega) (by omega) ?_
  exact bt_La_law_3926 (cx_L hX dec_La_law_3923) hSc k28 v5 c9 s9 hk28 (by omega) (by omega) M
set_option maxRecDepth 20000 in
theorem bt_La_law_3340 {l : Launch} {K : KT} {X : XT} (hX : Cx l K 1500 9 603072 7194729 X code "SeriesArchiveLaw" (some .boolean) [] L_La_law_3286) {b sl : Nat} {xs : Nat → Int32} (hSc : SC K X b sl xs) (k28 : Int32 → Mm → Rs Int32) (v5 : Int32) (c9 s9 : Nat) (hk28 : ∀ (v5 : Int32) M, VV l K 1500 9 603072 7194729 rvI X (k28 v5 M) (c9 + 85) (s9 + 11934) M 28 [(0, .ref b), (1, .ref (kA K 0)), (2, .ref (kA K 32)), (3, .ref (kA K 45)), (4, .ref (kA K 46)), (5, .int v5)] []) (hc9 : c9 + 85 ≤ 603072) (hs9 : s9 + 11934 ≤ 7194729) (s0 : Int32) (s1 : Int32) (M : Mm) : VV l K 1500 9 603072 7194729 rvI X (fn_La_law_3340 xs sl k28 v5 s0 s1 M) (c9 + 1) (s9 + 6) M 3340 [(0, .ref b), (1, .ref (kA K 0)), (2, .ref (kA K 32)), (3, .ref (kA K 45)), (4, .ref (kA K 46)), (5, .int v5)] [.long (s1).toInt64, .long (s0).toInt64] := by
  unfold fn_La_law_3340
  refine V_lcmp hX 33 3341 rfl rfl ?_
  refine V_if_eq hX 34 3344 3346 rfl rfl (by decide) (fun c3341 => ?_) (fun c3341 => ?_)
  · exact bt_La_law_3346 hX hSc k28 v5 c9 s9 hk28 (by omega) (by omega) M
  · refine V_iconst hX (v := 0) (hv := by decide) 35 3345 rfl rfl ?_
    exact V_zret hX 36 rfl rfl (by omega) (by omega) rfl
set_option maxRecDepth 20000 in
theorem bt_La_law_3286 {l : Launch} {K : KT} {X : XT} (hX : Cx l K 1500 9 603072 7194729 X code "SeriesArchiveLaw" (some .boolean) [] L_La_law_3286) {b sl : Nat} {xs : Nat → Int32} (hSc : SC K X b sl xs) (k28 : Int32 → Mm → Rs Int32) (v5 : Int32) (c9 s9 : Nat) (hk28 : ∀ (v5 : Int32) M, VV l K 1500 9 603072 7194729 rvI X (k28 v5 M) (c9 + 85) (s9 + 11934) M 28 [(0, .ref b), (1, .ref (kA K 0)), (2, .ref (kA K 32)), (3, .ref (kA K 45)), (4, .ref (kA K 46)), (5, .int v5)] []) (hc9 : c9 + 85 ≤ 603072) (hs9 : s9 + 11934 ≤ 7194729) (M : Mm) : VV l K 1500 9 603072 7194729 rvI X (fn_La_law_3286 xs sl k28 v5 M) (c9 + 0) (s9 + 0) M 3286 [(0, .ref b), (1, .ref (kA K 0)), (2, .ref (kA K 32)), (3, .ref (kA K 45)), (4, .ref (kA K 46)), (5, .int v5)] [] := by
  unfold fn_La_law_3286
  refine V_aload_n hX (j := 1) (hj := rfl) 0 3287 rfl rfl ?_
  refine V_aload_n hX (j := 0) (hj := rfl) 1 3288 rfl rfl ?_
  refine V_iload hX (j := 5) (hj := rfl) 2 3290 rfl rfl ?_
  refine V_iconst hX (v := 1) (hv := by decide) 3 3291 rfl rfl ?_
  refine V_iadd hX 4 3292 rfl rfl ?_
  refine V_sld hX hSc 5 3293 rfl rfl (fun g3292 => ?_)
  refine V_aload_n hX (j := 3) (hj := rfl) 6 3294 rfl rfl ?_
  refine V_callI hX 3297 (c9 + 1) (s9 + 6) rfl rfl rfl (by omega) (by omega) (VR_SX hX 7 (ct_La_isAscending (cx_t hX) K (xs (v5 + 1).toNatClampNeg) M) myw_La_isAscending mt_La_isAscending ml_La_339 (Nat.le_of_ble_eq_true rfl) (Nat.le_of_ble_eq_true rfl) rfl rfl (Nat.le_of_ble_eq_true rfl) rfl (by omega) (by omega)) (fun r3294 M3294 => ?_)
  refine V_istore hX 8 3299 [(6, .int r3294), (0, .ref b), (1, .ref (kA K 0)), (2, .ref (kA K 32)), (3, .ref (kA K 45)), (4, .ref (kA K 46)), (5, .int v5)] rfl rfl (Nat.le_of_ble_eq_true rfl) rfl ?_
  refine V_aload_n hX (j := 3) (hj := rfl) 9 3300 rfl rfl ?_
  refine V_aload_n hX (j := 1) (hj := rfl) 10 3301 rfl rfl ?_
  refine V_iload hX (j := 6) (hj := rfl) 11 3303 rfl rfl ?_
  refine V_iconst hX (v := 1) (hv := by decide) 12 3304 rfl rfl ?_
  refine V_iadd hX 13 3305 rfl rfl ?_
  refine V_sld hX hSc 14 3306 rfl rfl (fun g3305 => ?_)
  refine V_callI hX 3309 (c9 + 1) (s9 + 6) rfl rfl rfl (by omega) (by omega) (VR_V hX 15 (ct_Mo_isAscending (cx_t hX) K (xs (v5 + 1).toNatClampNeg) M3294) my_Mo_isAscending mi_Mo_isAscending ms_Mo_isAscending ml_La_341 (Nat.le_of_ble_eq_true rfl) (Nat.le_of_ble_eq_true rfl) (by decide) (ent_32 K _) rfl rfl rfl (Nat.le_of_ble_eq_true rfl) rfl (by omega) (by omega)) (fun r3306 M3306 => ?_)
  refine V_istore hX 16 3311 [(7, .int r3306), (6, .int r3294), (0, .ref b), (1, .ref (kA K 0)), (2, .ref (kA K 32)), (3, .ref (kA K 45)), (4, .ref (kA K 46)), (5, .int v5)] rfl rfl (Nat.le_of_ble_eq_true rfl) rfl ?_
  refine V_aload_n hX (j := 4) (hj := rfl) 17 3312 rfl rfl ?_
  refine V_callI hX 3315 (c9 + 1) (s9 + 6) rfl rfl rfl (by omega) (by omega) (VR_V hX 18 (ct_Mo_thrown (cx_t hX) K M3306) my_Mo_thrown mi_Mo_thrown ms_Mo_thrown ml_La_204 (Nat.le_of_ble_eq_true rfl) (Nat.le_of_ble_eq_true rfl) (by decide) (ent_32 K _) rfl rfl rfl (Nat.le_of_ble_eq_true rfl) rfl (by omega) (by omega)) (fun r3312 M3312 => ?_)
  refine V_iload hX (j := 1) (hj := rfl) 19 3317 rfl rfl ?_
  refine V_icmp_eq hX 20 3320 3322 rfl rfl (by decide) (fun c3317 => ?_) (fun c3317 => ?_)
  · refine V_iload hX (j := 1) (hj := rfl) 23 3324 rfl rfl ?_
    refine V_if_ne hX 24 3327 3346 rfl rfl (by decide) (fun c3324 => ?_) (fun c3324 => ?_)
    · refine VV_sub [2, 3, 4, 5, 6, 7] rfl ?_
      exact bt_La_law_3346 hX hSc k28 v5 c9 s9 hk28 (by omega) (by omega) M3312
    · refine V_aload_n hX (j := 5) (hj := rfl) 25 3328 rfl rfl ?_
      refine V_iconst hX (v := 0) (hv := by decide) 26 3329 rfl rfl ?_
      refine V_lald hX 27 3330 rfl rfl ?_
      refine V_iload hX (j := 0) (hj := rfl) 28 3332 rfl rfl ?_
      refine V_if_eq hX 29 3335 3339 rfl rfl (by decide) (fun c3332 => ?_) (fun c3332 => ?_)
      · refine V_lconst hX 32 3340 rfl rfl ((0 : Int32).toInt64) (by decide) ?_
        refine VV_sub [2, 3, 4, 5, 6, 7] rfl ?_
        exact bt_La_law_3340 hX hSc k28 v5 c9 s9 hk28 (by omega) (by omega) (M3312 45 0) (0 : Int32) M3312
      · refine V_lconst hX 30 3336 rfl rfl ((1 : Int32).toInt64) (by decide) ?_
        refine V_goto hX 31 3340 rfl (by decide) ?_
        refine VV_sub [2, 3, 4, 5, 6, 7] rfl ?_
        exact bt_La_law_3340 hX hSc k28 v5 c9 s9 hk28 (by omega) (by omega) (M3312 45 0) (1 : Int32) M3312
  · refine V_iconst hX (v := 0) (hv := by decide) 21 3321 rfl rfl ?_
    exact V_zret hX 22 rfl rfl (by omega) (by omega) rfl
set_option maxRecDepth 20000 in
theorem bt_La_law_3349 {l : Launch} {K : KT} {X : XT} (hX : Cx l K 1500 9 603072 7194729 X code "SeriesArchiveLaw" (some .boolean) [] L_La_law_3349) {b sl : Nat} {xs : Nat → Int32} (hSc : SC K X b sl xs) (k28 : Int32 → Mm → Rs Int32) (v5 : Int32) (c9 s9 : Nat) (hk28 : ∀ (v5 : Int32) M, VV l K 1500 9 603072 7194729 rvI X (k28 v5 M) (c9 + 85) (s9 + 11934) M 28 [(0, .ref b), (1, .ref (kA K 0)), (2, .ref (kA K 32)), (3, .ref (kA K 45)), (4, .ref (kA K 46)), (5, .int v5)] []) (hc9 : c9 + 85 ≤ 603072) (hs9 : s9 + 11934 ≤ 7194729) (M : Mm) : VV l K 1500 9 603072 7194729 rvI X (fn_La_law_3349 xs sl k28 v5 M) (c9 + 0) (s9 + 0) M 3349 [(0, .ref b), (1, .ref (kA K 0)), (2, .ref (kA K 32)), (3, .ref (kA K 45)), (4, .ref (kA K 46)), (5, .int v5)] [] := by
  unfold fn_La_law_3349
  refine V_aload_n hX (j := 1) (hj := rfl) 0 3350 rfl rfl ?_
  refine V_callI hX 3353 (c9 + 0) (s9 + 0) rfl rfl rfl (by omega) (by omega) (VR_V hX 1 (ct_SA_valueTotal (cx_t hX) K M) my_SA_valueTotal mi_SA_valueTotal ms_SA_valueTotal ml_La_342 (Nat.le_of_ble_eq_true rfl) (Nat.le_of_ble_eq_true rfl) (by decide) (ent_0 K _) rfl rfl rfl (Nat.le_of_ble_eq_true rfl) rfl (by omega) (by omega)) (fun r3350 M3350 => ?_)
  refine V_aload_n hX (j := 2) (hj := rfl) 2 3354 rfl rfl ?_
  refine V_callI hX 3357 (c9 + 0) (s9 + 0) rfl rfl rfl (by omega) (by omega) (VR_V hX 3 (ct_Mo_valueTotal (cx_t hX) K M3350) my_Mo_valueTotal mi_Mo_valueTotal ms_Mo_valueTotal ml_La_345 (Nat.le_of_ble_eq_true rfl) (Nat.le_of_ble_eq_true rfl) (by decide) (ent_32 K _) rfl rfl rfl (Nat.le_of_ble_eq_true rfl) rfl (by omega) (by omega)) (fun r3354 M3354 => ?_)
  refine V_icmp_eq hX 4 3360 3926 rfl rfl (by decide) (fun c3357 => ?_) (fun c3357 => ?_)
  · refine VV_wd (c9 + 85) (s9 + 11934) (by omega) (by omega) ?_
    exact bt_La_law_3926 (cx_L hX dec_La_law_3923) hSc k28 v5 c9 s9 hk28 (by omega) (by omega) M3354
  · refine V_iconst hX (v := 0) (hv := by decide) 5 3361 rfl rfl ?_
    exact V_zret hX 6 rfl rfl (by omega) (by omega) rfl
set_option maxRecDepth 20000 in
theorem bt_La_law_3362 {l : Launch} {K : KT} {X : XT} (hX : Cx l K 1500 9 603072 7194729 X code "SeriesArchiveLaw" (some .boolean) [] L_La_law_3362) {b sl : Nat} {xs : Nat → Int32} (hSc : SC K X b sl xs) (k28 : Int32 → Mm → Rs Int32) (v5 : Int32) (c9 s9 : Nat) (hk28 : ∀ (v5 : Int32) M, VV l K 1500 9 603072 7194729 rvI X (k28 v5 M) (c9 + 85) (s9 + 11934) M 28 [(0, .ref b), (1, .ref (kA K 0)), (2, .ref (kA K 32)), (3, .ref (kA K 45)), (4, .ref (kA K 46)), (5, .int v5)] []) (hc9 : c9 + 85 ≤ 603072) (hs9 : s9 + 11934 ≤ 7194729) (M : Mm) : VV l K 1500 9 603072 7194729 rvI X (fn_La_law_3362 xs sl k28 v5 M) (c9 + 0) (s9 + 0) M 3362 [(0, .ref b), (1, .ref (kA K 0)), (2, .ref (kA K 32)), (3, .ref (kA K 45)), (4, .ref (kA K 46)), (5, .int v5)] [] := by
  unfold fn_La_law_3362
  refine V_aload_n hX (j := 1) (hj := rfl) 0 3363 rfl rfl ?_
  refine V_callI hX 3366 (c9 + 0) (s9 + 0) rfl rfl rfl (by omega) (by omega) (VR_V hX 1 (ct_SA_appendedTotal (cx_t hX) K M) my_SA_appendedTotal mi_SA_appendedTotal ms_SA_appendedTotal ml_La_346 (Nat.le_of_ble_eq_true rfl) (Nat.le_of_ble_eq_true rfl) (by decide) (ent_0 K _) rfl rfl rfl (Nat.le_of_ble_eq_true rfl) rfl (by omega) (by omega)) (fun r3363 M3363 => ?_)
  refine V_aload_n hX (j := 2) (hj := rfl) 2 3367 rfl rfl ?_
  refine V_callI hX 3370 (c9 + 0) (s9 + 0) rfl rfl rfl (by omega) (by omega) (VR_V hX 3 (ct_Mo_appendedTotal (cx_t hX) K M3363) my_Mo_appendedTotal mi_Mo_appendedTotal ms_Mo_appendedTotal ml_La_349 (Nat.le_of_ble_eq_true rfl) (Nat.le_of_ble_eq_true rfl) (by decide) (ent_32 K _) rfl rfl rfl (Nat.le_of_ble_eq_true rfl) rfl (by omega) (by omega)) (fun r3367 M3367 => ?_)
  refine V_icmp_eq hX 4 3373 3926 rfl rfl (by decide) (fun c3370 => ?_) (fun c3370 => ?_)
  · refine VV_wd (c9 + 85) (s9 + 11934) (by omega) (by omega) ?_
    exact bt_La_law_3926 (cx_L hX dec_La_law_3923) hSc k28 v5 c9 s9 hk28 (by omega) (by omega) M3367
  · refine V_iconst hX (v := 0) (hv := by decide) 5 3374 rfl rfl ?_
    exact V_zret hX 6 rfl rfl (by omega) (by omega) rfl
set_option maxRecDepth 20000 in
theorem bt_La_law_3438 {l : Launch} {K : KT} {X : XT} (hX : Cx l K 1500 9 603072 7194729 X code "SeriesArchiveLaw" (some .boolean) [] L_La_law_3375) {b sl : Nat} {xs : Nat → Int32} (hSc : SC K X b sl xs) (k28 : Int32 → Mm → Rs Int32) (v5 : Int32) (c9 s9 : Nat) (hk28 : ∀ (v5 : Int32) M, VV l K 1500 9 603072 7194729 rvI X (k28 v5 M) (c9 + 85) (s9 + 11934) M 28 [(0, .ref b), (1, .ref (kA K 0)), (2, .ref (kA K 32)), (3, .ref (kA K 45)), (4, .ref (kA K 46)), (5, .int v5)] []) (hc9 : c9 + 85 ≤ 603072) (hs9 : s9 + 11934 ≤ 7194729) (M : Mm) : VV l K 1500 9 603072 7194729 rvI X (fn_La_law_3438 xs sl k28 v5 M) (c9 + 1) (s9 + 6) M 3438 [(0, .ref b), (1, .ref (kA K 0)), (2, .ref (kA K 32)), (3, .ref (kA K 45)), (4, .ref (kA K 46)), (5, .int v5)] [] := by
  unfold fn_La_law_3438
  refine V_goto hX 36 3926 rfl (by decide) ?_
  refine VV_wd (c9 + 85) (s9 + 11934) (by omega) (by omega) ?_
  exact bt_La_law_3926 (cx_L hX dec_La_law_3923) hSc k28 v5 c9 s9 hk28 (by omega) (by omega) M
set_option maxRecDepth 20000 in
theorem bt_La_law_3375 {l : Launch} {K : KT} {X : XT} (hX : Cx l K 1500 9 603072 7194729 X code "SeriesArchiveLaw" (some .boolean) [] L_La_law_3375) {b sl : Nat} {xs : Nat → Int32} (hSc : SC K X b sl xs) (k28 : Int32 → Mm → Rs Int32) (v5 : Int32) (c9 s9 : Nat) (hk28 : ∀ (v5 : Int32) M, VV l K 1500 9 603072 7194729 rvI X (k28 v5 M) (c9 + 85) (s9 + 11934) M 28 [(0, .ref b), (1, .ref (kA K 0)), (2, .ref (kA K 32)), (3, .ref (kA K 45)), (4, .ref (kA K 46)), (5, .int v5)] []) (hc9 : c9 + 85 ≤ 603072) (hs9 : s9 + 11934 ≤ 7194729) (M : Mm) : VV l K 1500 9 603072 7194729 rvI X (fn_La_law_3375 xs sl k28 v5 M) (c9 + 0) (s9 + 0) M 3375 [(0, .ref b), (1, .ref (kA K 0)), (2, .ref (kA K 32)), (3, .ref (kA K 45)), (4, .ref (kA K 46)), (5, .int v5)] [] := by
  unfold fn_La_law_3375
  refine V_aload_n hX (j := 1) (hj := rfl) 0 3376 rfl rfl ?_
  refine V_aload hX (j := 4) (hj := rfl) 1 3378 rfl rfl ?_
  refine V_callI hX 3381 (c9 + 1) (s9 + 6) rfl rfl rfl (by omega) (by omega) (VR_SX hX 2 (ct_La_positiveShare (cx_t hX) K M) myw_La_positiveShare mt_La_positiveShare ml_La_350 (Nat.le_of_ble_eq_true rfl) (Nat.le_of_ble_eq_true rfl) rfl rfl (Nat.le_of_ble_eq_true rfl) rfl (by omega) (by omega)) (fun r3378 M3378 => ?_)
  refine V_istore hX 3 3383 [(6, .int r3378), (0, .ref b), (1, .ref (kA K 0)), (2, .ref (kA K 32)), (3, .ref (kA K 45)), (4, .ref (kA K 46)), (5, .int v5)] rfl rfl (Nat.le_of_ble_eq_true rfl) rfl ?_
  refine V_aload_n hX (j := 3) (hj := rfl) 4 3384 rfl rfl ?_
  refine V_callF hX 3387 (c9 + 1) (s9 + 6) rfl rfl rfl (by omega) (by omega) (VR_V hX 5 (ct_Mo_positiveShare (cx_t hX) K M3378) my_Mo_positiveShare mi_Mo_positiveShare ms_Mo_positiveShare ml_La_353 (Nat.le_of_ble_eq_true rfl) (Nat.le_of_ble_eq_true rfl) (by decide) (ent_32 K _) rfl rfl rfl (Nat.le_of_ble_eq_true rfl) rfl (by omega) (by omega)) (fun r3384 M3384 => ?_)
  refine V_fstore hX 6 3389 [(7, .float r3384), (6, .int r3378), (0, .ref b), (1, .ref (kA K 0)), (2, .ref (kA K 32)), (3, .ref (kA K 45)), (4, .ref (kA K 46)), (5, .int v5)] rfl rfl (Nat.le_of_ble_eq_true rfl) rfl ?_
  refine V_aload_n hX (j := 4) (hj := rfl) 7 3390 rfl rfl ?_
  refine V_callI hX 3393 (c9 + 1) (s9 + 6) rfl rfl rfl (by omega) (by omega) (VR_V hX 8 (ct_Mo_thrown (cx_t hX) K M3384) my_Mo_thrown mi_Mo_thrown ms_Mo_thrown ml_La_204 (Nat.le_of_ble_eq_true rfl) (Nat.le_of_ble_eq_true rfl) (by decide) (ent_32 K _) rfl rfl rfl (Nat.le_of_ble_eq_true rfl) rfl (by omega) (by omega)) (fun r3390 M3390 => ?_)
  refine V_iload hX (j := 1) (hj := rfl) 9 3395 rfl rfl ?_
  refine V_icmp_eq hX 10 3398 3400 rfl rfl (by decide) (fun c3395 => ?_) (fun c3395 => ?_)
  · refine V_iload hX (j := 1) (hj := rfl) 13 3402 rfl rfl ?_
    refine V_if_ne hX 14 3405 3438 rfl rfl (by decide) (fun c3402 => ?_) (fun c3402 => ?_)
    · refine VV_sub [2, 3, 4, 5, 6, 7] rfl ?_
      exact bt_La_law_3438 hX hSc k28 v5 c9 s9 hk28 (by omega) (by omega) M3390
    · refine V_aload hX (j := 6) (hj := rfl) 15 3407 rfl rfl ?_
      refine V_iconst hX (v := 0) (hv := by decide) 16 3408 rfl rfl ?_
      refine V_dald hX 17 3409 rfl rfl ?_
      refine V_fload hX (j := 0) (hj := rfl) 18 3411 rfl rfl ?_
      refine VV_grd (fun hz1 => ?_)
      refine V_f2d hX (hne := hz1) 19 3412 rfl rfl ?_
      refine V_dcmp hX 20 3413 rfl rfl ?_
      refine V_if_eq hX 21 3416 3438 rfl rfl (by decide) (fun c3413 => ?_) (fun c3413 => ?_)
      · refine VV_sub [2, 3, 4, 5, 6, 7] rfl ?_
        exact bt_La_law_3438 hX hSc k28 v5 c9 s9 hk28 (by omega) (by omega) M3390
      · refine V_aload hX (j := 6) (hj := rfl) 22 3418 rfl rfl ?_
        refine V_iconst hX (v := 0) (hv := by decide) 23 3419 rfl rfl ?_
        refine V_dald hX 24 3420 rfl rfl ?_
        refine V_aload hX (j := 6) (hj := rfl) 25 3422 rfl rfl ?_
        refine V_iconst hX (v := 0) (hv := by decide) 26 3423 rfl rfl ?_
        refine V_dald hX 27 3424 rfl rfl ?_
        refine V_dcmp hX 28 3425 rfl rfl ?_
        refine V_if_eq hX 29 3428 3436 rfl rfl (by decide) (fun c3425 => ?_) (fun c3425 => ?_)
        · refine V_iconst hX (v := 0) (hv := by decide) 34 3437 rfl rfl ?_
          exact V_zret hX 35 rfl rfl (by omega) (by omega) rfl
        · refine V_fload hX (j := 0) (hj := rfl) 30 3430 rfl rfl ?_
          refine V_fload hX (j := 0) (hj := rfl) 31 3432 rfl rfl ?_
          refine V_fcmp hX 32 3433 rfl rfl ?_
          refine V_if_ne hX 33 3436 3438 rfl rfl (by decide) (fun c3433 => ?_) (fun c3433 => ?_)
          · refine VV_sub [2, 3, 4, 5, 6, 7] rfl ?_
            exact bt_La_law_3438 hX hSc k28 v5 c9 s9 hk28 (by omega) (by omega) M3390
          · refine V_iconst hX (v := 0) (hv := by decide) 34 3437 rfl rfl ?_
            exact V_zret hX 35 rfl rfl (by omega) (by omega) rfl
  · refine V_iconst hX (v := 0) (hv := by decide) 11 3399 rfl rfl ?_
    exact V_zret hX 12 rfl rfl (by omega) (by omega) rfl
set_option maxRecDepth 20000 in
theorem bt_La_law_3441 {l : Launch} {K : KT} {X : XT} (hX : Cx l K 1500 9 603072 7194729 X code "SeriesArchiveLaw" (some .boolean) [] L_La_law_3441) {b sl : Nat} {xs : Nat → Int32} (hSc : SC K X b sl xs) (k28 : Int32 → Mm → Rs Int32) (v5 : Int32) (c9 s9 : Nat) (hk28 : ∀ (v5 : Int32) M, VV l K 1500 9 603072 7194729 rvI X (k28 v5 M) (c9 + 85) (s9 + 11934) M 28 [(0, .ref b), (1, .ref (kA K 0)), (2, .ref (kA K 32)), (3, .ref (kA K 45)), (4, .ref (kA K 46)), (5, .int v5)] []) (hc9 : c9 + 85 ≤ 603072) (hs9 : s9 + 11934 ≤ 7194729) (M : Mm) : VV l K 1500 9 603072 7194729 rvI X (fn_La_law_3441 xs sl k28 v5 M) (c9 + 0) (s9 + 0) M 3441 [(0, .ref b), (1, .ref (kA K 0)), (2, .ref (kA K 32)), (3, .ref (kA K 45)), (4, .ref (kA K 46)), (5, .int v5)] [] := by
  unfold fn_La_law_3441
  refine V_aload_n hX (j := 1) (hj := rfl) 0 3442 rfl rfl ?_
  refine V_callI hX 3445 (c9 + 0) (s9 + 0) rfl rfl rfl (by omega) (by omega) (VR_V hX 1 (ct_SA_isConsistent (cx_t hX) K M) my_SA_isConsistent mi_SA_isConsistent ms_SA_isConsistent ml_La_354 (Nat.le_of_ble_eq_true rfl) (Nat.le_of_ble_eq_true rfl) (by decide) (ent_0 K _) rfl rfl rfl (Nat.le_of_ble_eq_true rfl) rfl (by omega) (by omega)) (fun r3442 M3442 => ?_)
  refine V_aload_n hX (j := 2) (hj := rfl) 2 3446 rfl rfl ?_
  refine V_callI hX 3449 (c9 + 0) (s9 + 0) rfl rfl rfl (by omega) (by omega) (VR_V hX 3 (ct_Mo_isConsistent (cx_t hX) K M3442) my_Mo_isConsistent mi_Mo_isConsistent ms_Mo_isConsistent ml_La_358 (Nat.le_of_ble_eq_true rfl) (Nat.le_of_ble_eq_true rfl) (by decide) (ent_32 K _) rfl rfl rfl (Nat.le_of_ble_eq_true rfl) rfl (by omega) (by omega)) (fun r3446 M3446 => ?_)
  refine V_icmp_eq hX 4 3452 3926 rfl rfl (by decide) (fun c3449 => ?_) (fun c3449 => ?_)
  · refine VV_wd (c9 + 85) (s9 + 11934) (by omega) (by omega) ?_
    exact bt_La_law_3926 (cx_L hX dec_La_law_3923) hSc k28 v5 c9 s9 hk28 (by omega) (by omega) M3446
  · refine V_iconst hX (v := 0) (hv := by decide) 5 3453 rfl rfl ?_
    exact V_zret hX 6 rfl rfl (by omega) (by omega) rfl
set_option maxRecDepth 20000 in
theorem bt_La_law_3507 {l : Launch} {K : KT} {X : XT} (hX : Cx l K 1500 9 603072 7194729 X code "SeriesArchiveLaw" (some .boolean) [] L_La_law_3454) {b sl : Nat} {xs : Nat → Int32} (hSc : SC K X b sl xs) (k28 : Int32 → Mm → Rs Int32) (v5 : Int32) (c9 s9 : Nat) (hk28 : ∀ (v5 : Int32) M, VV l K 1500 9 603072 7194729 rvI X (k28 v5 M) (c9 + 85) (s9 + 11934) M 28 [(0, .ref b), (1, .ref (kA K 0)), (2, .ref (kA K 32)), (3, .ref (kA K 45)), (4, .ref (kA K 46)), (5, .int v5)] []) (hc9 : c9 + 85 ≤ 603072) (hs9 : s9 + 11934 ≤ 7194729) (M : Mm) : VV l K 1500 9 603072 7194729 rvI X (fn_La_law_3507 xs sl k28 v5 M) (c9 + 43) (s9 + 5970) M 3507 [(0, .ref b), (1, .ref (kA K 0)), (2, .ref (kA K 32)), (3, .ref (kA K 45)), (4, .ref (kA K 46)), (5, .int v5)] [] := by
  unfold fn_La_law_3507
  refine V_goto hX 34 3926 rfl (by decide) ?_
  refine VV_wd (c9 + 85) (s9 + 11934) (by omega) (by omega) ?_
  exact bt_La_law_3926 (cx_L hX dec_La_law_3923) hSc k28 v5 c9 s9 hk28 (by omega) (by omega) M
set_option maxRecDepth 20000 in
theorem bt_La_law_3454 {l : Launch} {K : KT} {X : XT} (hX : Cx l K 1500 9 603072 7194729 X code "SeriesArchiveLaw" (some .boolean) [] L_La_law_3454) {b sl : Nat} {xs : Nat → Int32} (hSc : SC K X b sl xs) (k28 : Int32 → Mm → Rs Int32) (v5 : Int32) (c9 s9 : Nat) (hk28 : ∀ (v5 : Int32) M, VV l K 1500 9 603072 7194729 rvI X (k28 v5 M) (c9 + 85) (s9 + 11934) M 28 [(0, .ref b), (1, .ref (kA K 0)), (2, .ref (kA K 32)), (3, .ref (kA K 45)), (4, .ref (kA K 46)), (5, .int v5)] []) (hc9 : c9 + 85 ≤ 603072) (hs9 : s9 + 11934 ≤ 7194729) (M : Mm) : VV l K 1500 9 603072 7194729 rvI X (fn_La_law_3454 xs sl k28 v5 M) (c9 + 0) (s9 + 0) M 3454 [(0, .ref b), (1, .ref (kA K 0)), (2, .ref (kA K 32)), (3, .ref (kA K 45)), (4, .ref (kA K 46)), (5, .int v5)] [] := by
  unfold fn_La_law_3454
  refine V_aload_n hX (j := 1) (hj := rfl) 0 3455 rfl rfl ?_
  refine V_aload_n hX (j := 0) (hj := rfl) 1 3456 rfl rfl ?_
  refine V_iload hX (j := 5) (hj := rfl) 2 3458 rfl rfl ?_
  refine V_iconst hX (v := 1) (hv := by decide) 3 3459 rfl rfl ?_
  refine V_iadd hX 4 3460 rfl rfl ?_
  refine V_sld hX hSc 5 3461 rfl rfl (fun g3460 => ?_)
  refine V_aload_n hX (j := 3) (hj := rfl) 6 3462 rfl rfl ?_
  refine V_callI hX 3465 (c9 + 43) (s9 + 5970) rfl rfl rfl (by omega) (by omega) (VR_SX hX 7 (ct_La_formatSeries (cx_t hX) K (xs (v5 + 1).toNatClampNeg) M) myw_La_formatSeries mt_La_formatSeries ml_La_359 (Nat.le_of_ble_eq_true rfl) (Nat.le_of_ble_eq_true rfl) rfl rfl (Nat.le_of_ble_eq_true rfl) rfl (by omega) (by omega)) (fun r3462 M3462 => ?_)
  refine V_istore hX 8 3467 [(6, .int r3462), (0, .ref b), (1, .ref (kA K 0)), (2, .ref (kA K 32)), (3, .ref (kA K 45)), (4, .ref (kA K 46)), (5, .int v5)] rfl rfl (Nat.le_of_ble_eq_true rfl) rfl ?_
  refine V_aload_n hX (j := 3) (hj := rfl) 9 3468 rfl rfl ?_
  refine V_aload_n hX (j := 1) (hj := rfl) 10 3469 rfl rfl ?_
  refine V_iload hX (j := 6) (hj := rfl) 11 3471 rfl rfl ?_
  refine V_iconst hX (v := 1) (hv := by decide) 12 3472 rfl rfl ?_
  refine V_iadd hX 13 3473 rfl rfl ?_
  refine V_sld hX hSc 14 3474 rfl rfl (fun g3473 => ?_)
  refine V_callI hX 3477 (c9 + 43) (s9 + 5970) rfl rfl rfl (by omega) (by omega) (VR_V hX 15 (ct_Mo_formatSeries (cx_t hX) K (xs (v5 + 1).toNatClampNeg) M3462) my_Mo_formatSeries mi_Mo_formatSeries ms_Mo_formatSeries ml_La_361 (Nat.le_of_ble_eq_true rfl) (Nat.le_of_ble_eq_true rfl) (by decide) (ent_32 K _) rfl rfl rfl (Nat.le_of_ble_eq_true rfl) rfl (by omega) (by omega)) (fun r3474 M3474 => ?_)
  refine V_istore hX 16 3479 [(7, .int r3474), (6, .int r3462), (0, .ref b), (1, .ref (kA K 0)), (2, .ref (kA K 32)), (3, .ref (kA K 45)), (4, .ref (kA K 46)), (5, .int v5)] rfl rfl (Nat.le_of_ble_eq_true rfl) rfl ?_
  refine V_aload_n hX (j := 4) (hj := rfl) 17 3480 rfl rfl ?_
  refine V_callI hX 3483 (c9 + 43) (s9 + 5970) rfl rfl rfl (by omega) (by omega) (VR_V hX 18 (ct_Mo_thrown (cx_t hX) K M3474) my_Mo_thrown mi_Mo_thrown ms_Mo_thrown ml_La_204 (Nat.le_of_ble_eq_true rfl) (Nat.le_of_ble_eq_true rfl) (by decide) (ent_32 K _) rfl rfl rfl (Nat.le_of_ble_eq_true rfl) rfl (by omega) (by omega)) (fun r3480 M3480 => ?_)
  refine V_iload hX (j := 1) (hj := rfl) 19 3485 rfl rfl ?_
  refine V_icmp_eq hX 20 3488 3490 rfl rfl (by decide) (fun c3485 => ?_) (fun c3485 => ?_)
  · refine V_iload hX (j := 1) (hj := rfl) 23 3492 rfl rfl ?_
    refine V_if_ne hX 24 3495 3507 rfl rfl (by decide) (fun c3492 => ?_) (fun c3492 => ?_)
    · refine VV_sub [2, 3, 4, 5, 6, 7] rfl ?_
      exact bt_La_law_3507 hX hSc k28 v5 c9 s9 hk28 (by omega) (by omega) M3480
    · refine V_aload_n hX (j := 5) (hj := rfl) 25 3496 rfl rfl ?_
      refine V_iconst hX (v := 0) (hv := by decide) 26 3497 rfl rfl ?_
      refine V_lald hX 27 3498 rfl rfl ?_
      refine V_iload hX (j := 0) (hj := rfl) 28 3500 rfl rfl ?_
      refine V_i2l hX 29 3501 rfl rfl ?_
      refine V_lcmp hX 30 3502 rfl rfl ?_
      refine V_if_eq hX 31 3505 3507 rfl rfl (by decide) (fun c3502 => ?_) (fun c3502 => ?_)
      · refine VV_sub [2, 3, 4, 5, 6, 7] rfl ?_
        exact bt_La_law_3507 hX hSc k28 v5 c9 s9 hk28 (by omega) (by omega) M3480
      · refine V_iconst hX (v := 0) (hv := by decide) 32 3506 rfl rfl ?_
        exact V_zret hX 33 rfl rfl (by omega) (by omega) rfl
  · refine V_iconst hX (v := 0) (hv := by decide) 21 3489 rfl rfl ?_
    exact V_zret hX 22 rfl rfl (by omega) (by omega) rfl
set_option maxRecDepth 20000 in
theorem bt_La_law_3563 {l : Launch} {K : KT} {X : XT} (hX : Cx l K 1500 9 603072 7194729 X code "SeriesArchiveLaw" (some .boolean) [] L_La_law_3510) {b sl : Nat} {xs : Nat → Int32} (hSc : SC K X b sl xs) (k28 : Int32 → Mm → Rs Int32) (v5 : Int32) (c9 s9 : Nat) (hk28 : ∀ (v5 : Int32) M, VV l K 1500 9 603072 7194729 rvI X (k28 v5 M) (c9 + 85) (s9 + 11934) M 28 [(0, .ref b), (1, .ref (kA K 0)), (2, .ref (kA K 32)), (3, .ref (kA K 45)), (4, .ref (kA K 46)), (5, .int v5)] []) (hc9 : c9 + 85 ≤ 603072) (hs9 : s9 + 11934 ≤ 7194729) (M : Mm) : VV l K 1500 9 603072 7194729 rvI X (fn_La_law_3563 xs sl k28 v5 M) (c9 + 85) (s9 + 11934) M 3563 [(0, .ref b), (1, .ref (kA K 0)), (2, .ref (kA K 32)), (3, .ref (kA K 45)), (4, .ref (kA K 46)), (5, .int v5)] [] := by
  unfold fn_La_law_3563
  refine V_goto hX 34 3926 rfl (by decide) ?_
  exact bt_La_law_3926 (cx_L hX dec_La_law_3923) hSc k28 v5 c9 s9 hk28 (by omega) (by omega) M
set_option maxRecDepth 20000 in
theorem bt_La_law_3510 {l : Launch} {K : KT} {X : XT} (hX : Cx l K 1500 9 603072 7194729 X code "SeriesArchiveLaw" (some .boolean) [] L_La_law_3510) {b sl : Nat} {xs : Nat → Int32} (hSc : SC K X b sl xs) (k28 : Int32 → Mm → Rs Int32) (v5 : Int32) (c9 s9 : Nat) (hk28 : ∀ (v5 : Int32) M, VV l K 1500 9 603072 7194729 rvI X (k28 v5 M) (c9 + 85) (s9 + 11934) M 28 [(0, .ref b), (1, .ref (kA K 0)), (2, .ref (kA K 32)), (3, .ref (kA K 45)), (4, .ref (kA K 46)), (5, .int v5)] []) (hc9 : c9 + 85 ≤ 603072) (hs9 : s9 + 11934 ≤ 7194729) (M : Mm) : VV l K 1500 9 603072 7194729 rvI X (fn_La_law_3510 xs sl k28 v5 M) (c9 + 0) (s9 + 0) M 3510 [(0, .ref b), (1, .ref (kA K 0)), (2, .ref (kA K 32)), (3, .ref (kA K 45)), (4, .ref (kA K 46)), (5, .int v5)] [] := by
  unfold fn_La_law_3510
  refine V_aload_n hX (j := 1) (hj := rfl) 0 3511 rfl rfl ?_
  refine V_aload_n hX (j := 0) (hj := rfl) 1 3512 rfl rfl ?_
  refine V_iload hX (j := 5) (hj := rfl) 2 3514 rfl rfl ?_
  refine V_iconst hX (v := 1) (hv := by decide) 3 3515 rfl rfl ?_
  refine V_iadd hX 4 3516 rfl rfl ?_
  refine V_sld hX hSc 5 3517 rfl rfl (fun g3516 => ?_)
  refine V_aload_n hX (j := 3) (hj := rfl) 6 3518 rfl rfl ?_
  refine V_callI hX 3521 (c9 + 85) (s9 + 11934) rfl rfl rfl (by omega) (by omega) (VR_SX hX 7 (ct_La_formatRuns (cx_t hX) K (xs (v5 + 1).toNatClampNeg) M) myw_La_formatRuns mt_La_formatRuns ml_La_362 (Nat.le_of_ble_eq_true rfl) (Nat.le_of_ble_eq_true rfl) rfl rfl (Nat.le_of_ble_eq_true rfl) rfl (by omega) (by omega)) (fun r3518 M3518 => ?_)
  refine V_istore hX 8 3523 [(6, .int r3518), (0, .ref b), (1, .ref (kA K 0)), (2, .ref (kA K 32)), (3, .ref (kA K 45)), (4, .ref (kA K 46)), (5, .int v5)] rfl rfl (Nat.le_of_ble_eq_true rfl) rfl ?_
  refine V_aload_n hX (j := 3) (hj := rfl) 9 3524 rfl rfl ?_
  refine V_aload_n hX (j := 1) (hj := rfl) 10 3525 rfl rfl ?_
  refine V_iload hX (j := 6) (hj := rfl) 11 3527 rfl rfl ?_
  refine V_iconst hX (v := 1) (hv := by decide) 12 3528 rfl rfl ?_
  refine V_iadd hX 13 3529 rfl rfl ?_
  refine V_sld hX hSc 14 3530 rfl rfl (fun g3529 => ?_)
  refine V_callI hX 3533 (c9 + 85) (s9 + 11934) rfl rfl rfl (by omega) (by omega) (VR_V hX 15 (ct_Mo_formatRuns (cx_t hX) K (xs (v5 + 1).toNatClampNeg) M3518) my_Mo_formatRuns mi_Mo_formatRuns ms_Mo_formatRuns ml_La_364 (Nat.le_of_ble_eq_true rfl) (Nat.le_of_ble_eq_true rfl) (by decide) (ent_32 K _) rfl rfl rfl (Nat.le_of_ble_eq_true rfl) rfl (by omega) (by omega)) (fun r3530 M3530 => ?_)
  refine V_istore hX 16 3535 [(7, .int r3530), (6, .int r3518), (0, .ref b), (1, .ref (kA K 0)), (2, .ref (kA K 32)), (3, .ref (kA K 45)), (4, .ref (kA K 46)), (5, .int v5)] rfl rfl (Nat.le_of_ble_eq_true rfl) rfl ?_
  refine V_aload_n hX (j := 4) (hj := rfl) 17 3536 rfl rfl ?_
  refine V_callI hX 3539 (c9 + 85) (s9 + 11934) rfl rfl rfl (by omega) (by omega) (VR_V hX 18 (ct_Mo_thrown (cx_t hX) K M3530) my_Mo_thrown mi_Mo_thrown ms_Mo_thrown ml_La_204 (Nat.le_of_ble_eq_true rfl) (Nat.le_of_ble_eq_true rfl) (by decide) (ent_32 K _) rfl rfl rfl (Nat.le_of_ble_eq_true rfl) rfl (by omega) (by omega)) (fun r3536 M3536 => ?_)
  refine V_iload hX (j := 1) (hj := rfl) 19 3541 rfl rfl ?_
  refine V_icmp_eq hX 20 3544 3546 rfl rfl (by decide) (fun c3541 => ?_) (fun c3541 => ?_)
  · refine V_iload hX (j := 1) (hj := rfl) 23 3548 rfl rfl ?_
    refine V_if_ne hX 24 3551 3563 rfl rfl (by decide) (fun c3548 => ?_) (fun c3548 => ?_)
    · refine VV_sub [2, 3, 4, 5, 6, 7] rfl ?_
      exact bt_La_law_3563 hX hSc k28 v5 c9 s9 hk28 (by omega) (by omega) M3536
    · refine V_aload_n hX (j := 5) (hj := rfl) 25 3552 rfl rfl ?_
      refine V_iconst hX (v := 0) (hv := by decide) 26 3553 rfl rfl ?_
      refine V_lald hX 27 3554 rfl rfl ?_
      refine V_iload hX (j := 0) (hj := rfl) 28 3556 rfl rfl ?_
      refine V_i2l hX 29 3557 rfl rfl ?_
      refine V_lcmp hX 30 3558 rfl rfl ?_
      refine V_if_eq hX 31 3561 3563 rfl rfl (by decide) (fun c3558 => ?_) (fun c3558 => ?_)
      · refine VV_sub [2, 3, 4, 5, 6, 7] rfl ?_
        exact bt_La_law_3563 hX hSc k28 v5 c9 s9 hk28 (by omega) (by omega) M3536
      · refine V_iconst hX (v := 0) (hv := by decide) 32 3562 rfl rfl ?_
        exact V_zret hX 33 rfl rfl (by omega) (by omega) rfl
  · refine V_iconst hX (v := 0) (hv := by decide) 21 3545 rfl rfl ?_
    exact V_zret hX 22 rfl rfl (by omega) (by omega) rfl
set_option maxRecDepth 20000 in
theorem bt_La_law_3619 {l : Launch} {K : KT} {X : XT} (hX : Cx l K 1500 9 603072 7194729 X code "SeriesArchiveLaw" (some .boolean) [] L_La_law_3566) {b sl : Nat} {xs : Nat → Int32} (hSc : SC K X b sl xs) (k28 : Int32 → Mm → Rs Int32) (v5 : Int32) (c9 s9 : Nat) (hk28 : ∀ (v5 : Int32) M, VV l K 1500 9 603072 7194729 rvI X (k28 v5 M) (c9 + 85) (s9 + 11934) M 28 [(0, .ref b), (1, .ref (kA K 0)), (2, .ref (kA K 32)), (3, .ref (kA K 45)), (4, .ref (kA K 46)), (5, .int v5)] []) (hc9 : c9 + 85 ≤ 603072) (hs9 : s9 + 11934 ≤ 7194729) (M : Mm) : VV l K 1500 9 603072 7194729 rvI X (fn_La_law_3619 xs sl k28 v5 M) (c9 + 1) (s9 + 6) M 3619 [(0, .ref b), (1, .ref (kA K 0)), (2, .ref (kA K 32)), (3, .ref (kA K 45)), (4, .ref (kA K 46)), (5, .int v5)] [] := by
  unfold fn_La_law_3619
  refine V_goto hX 34 3926 rfl (by decide) ?_
  refine VV_wd (c9 + 85) (s9 + 11934) (by omega) (by omega) ?_
  exact bt_La_law_3926 (cx_L hX dec_La_law_3923) hSc k28 v5 c9 s9 hk28 (by omega) (by omega) M
set_option maxRecDepth 20000 in
theorem bt_La_law_3566 {l : Launch} {K : KT} {X : XT} (hX : Cx l K 1500 9 603072 7194729 X code "SeriesArchiveLaw" (some .boolean) [] L_La_law_3566) {b sl : Nat} {xs : Nat → Int32} (hSc : SC K X b sl xs) (k28 : Int32 → Mm → Rs Int32) (v5 : Int32) (c9 s9 : Nat) (hk28 : ∀ (v5 : Int32) M, VV l K 1500 9 603072 7194729 rvI X (k28 v5 M) (c9 + 85) (s9 + 11934) M 28 [(0, .ref b), (1, .ref (kA K 0)), (2, .ref (kA K 32)), (3, .ref (kA K 45)), (4, .ref (kA K 46)), (5, .int v5)] []) (hc9 : c9 + 85 ≤ 603072) (hs9 : s9 + 11934 ≤ 7194729) (M : Mm) : VV l K 1500 9 603072 7194729 rvI X (fn_La_law_3566 xs sl k28 v5 M) (c9 + 0) (s9 + 0) M 3566 [(0, .ref b), (1, .ref (kA K 0)), (2, .ref (kA K 32)), (3, .ref (kA K 45)), (4, .ref (kA K 46)), (5, .int v5)] [] := by
  unfold fn_La_law_3566
  refine V_aload_n hX (j := 1) (hj := rfl) 0 3567 rfl rfl ?_
  refine V_aload_n hX (j := 0) (hj := rfl) 1 3568 rfl rfl ?_
  refine V_iload hX (j := 5) (hj := rfl) 2 3570 rfl rfl ?_
  refine V_iconst hX (v := 1) (hv := by decide) 3 3571 rfl rfl ?_
  refine V_iadd hX 4 3572 rfl rfl ?_
  refine V_sld hX hSc 5 3573 rfl rfl (fun g3572 => ?_)
  refine V_aload_n hX (j := 3) (hj := rfl) 6 3574 rfl rfl ?_
  refine V_callI hX 3577 (c9 + 1) (s9 + 6) rfl rfl rfl (by omega) (by omega) (VR_SX hX 7 (ct_La_lineChar (cx_t hX) K (xs (v5 + 1).toNatClampNeg) M) myw_La_lineChar mt_La_lineChar ml_La_365 (Nat.le_of_ble_eq_true rfl) (Nat.le_of_ble_eq_true rfl) rfl rfl (Nat.le_of_ble_eq_true rfl) rfl (by omega) (by omega)) (fun r3574 M3574 => ?_)
  refine V_istore hX 8 3579 [(6, .int r3574), (0, .ref b), (1, .ref (kA K 0)), (2, .ref (kA K 32)), (3, .ref (kA K 45)), (4, .ref (kA K 46)), (5, .int v5)] rfl rfl (Nat.le_of_ble_eq_true rfl) rfl ?_
  refine V_aload_n hX (j := 3) (hj := rfl) 9 3580 rfl rfl ?_
  refine V_aload_n hX (j := 1) (hj := rfl) 10 3581 rfl rfl ?_
  refine V_iload hX (j := 6) (hj := rfl) 11 3583 rfl rfl ?_
  refine V_iconst hX (v := 1) (hv := by decide) 12 3584 rfl rfl ?_
  refine V_iadd hX 13 3585 rfl rfl ?_
  refine V_sld hX hSc 14 3586 rfl rfl (fun g3585 => ?_)
  refine V_callI hX 3589 (c9 + 1) (s9 + 6) rfl rfl rfl (by omega) (by omega) (VR_V hX 15 (ct_Mo_lineChar (cx_t hX) K (xs (v5 + 1).toNatClampNeg) M3574) my_Mo_lineChar mi_Mo_lineChar ms_Mo_lineChar ml_La_367 (Nat.le_of_ble_eq_true rfl) (Nat.le_of_ble_eq_true rfl) (by decide) (ent_32 K _) rfl rfl rfl (Nat.le_of_ble_eq_true rfl) rfl (by omega) (by omega)) (fun r3586 M3586 => ?_)
  refine V_istore hX 16 3591 [(7, .int r3586), (6, .int r3574), (0, .ref b), (1, .ref (kA K 0)), (2, .ref (kA K 32)), (3, .ref (kA K 45)), (4, .ref (kA K 46)), (5, .int v5)] rfl rfl (Nat.le_of_ble_eq_true rfl) rfl ?_
  refine V_aload_n hX (j := 4) (hj := rfl) 17 3592 rfl rfl ?_
  refine V_callI hX 3595 (c9 + 1) (s9 + 6) rfl rfl rfl (by omega) (by omega) (VR_V hX 18 (ct_Mo_thrown (cx_t hX) K M3586) my_Mo_thrown mi_Mo_thrown ms_Mo_thrown ml_La_204 (Nat.le_of_ble_eq_true rfl) (Nat.le_of_ble_eq_true rfl) (by decide) (ent_32 K _) rfl rfl rfl (Nat.le_of_ble_eq_true rfl) rfl (by omega) (by omega)) (fun r3592 M3592 => ?_)
  refine V_iload hX (j := 1) (hj := rfl) 19 3597 rfl rfl ?_
  refine V_icmp_eq hX 20 3600 3602 rfl rfl (by decide) (fun c3597 => ?_) (fun c3597 => ?_)
  · refine V_iload hX (j := 1) (hj := rfl) 23 3604 rfl rfl ?_
    refine V_if_ne hX 24 3607 3619 rfl rfl (by decide) (fun c3604 => ?_) (fun c3604 => ?_)
    · refine VV_sub [2, 3, 4, 5, 6, 7] rfl ?_
      exact bt_La_law_3619 hX hSc k28 v5 c9 s9 hk28 (by omega) (by omega) M3592
    · refine V_aload_n hX (j := 5) (hj := rfl) 25 3608 rfl rfl ?_
      refine V_iconst hX (v := 0) (hv := by decide) 26 3609 rfl rfl ?_
      refine V_lald hX 27 3610 rfl rfl ?_
      refine V_iload hX (j := 0) (hj := rfl) 28 3612 rfl rfl ?_
      refine V_i2l hX 29 3613 rfl rfl ?_
      refine V_lcmp hX 30 3614 rfl rfl ?_
      refine V_if_eq hX 31 3617 3619 rfl rfl (by decide) (fun c3614 => ?_) (fun c3614 => ?_)
      · refine VV_sub [2, 3, 4, 5, 6, 7] rfl ?_
        exact bt_La_law_3619 hX hSc k28 v5 c9 s9 hk28 (by omega) (by omega) M3592
      · refine V_iconst hX (v := 0) (hv := by decide) 32 3618 rfl rfl ?_
        exact V_zret hX 33 rfl rfl (by omega) (by omega) rfl
  · refine V_iconst hX (v := 0) (hv := by decide) 21 3601 rfl rfl ?_
    exact V_zret hX 22 rfl rfl (by omega) (by omega) rfl
set_option maxRecDepth 20000 in
theorem bt_La_law_3677 {l : Launch} {K : KT} {X : XT} (hX : Cx l K 1500 9 603072 7194729 X code "SeriesArchiveLaw" (some .boolean) [] L_La_law_3622) {b sl : Nat} {xs : Nat → Int32} (hSc : SC K X b sl xs) (k28 : Int32 → Mm → Rs Int32) (v5 : Int32) (c9 s9 : Nat) (hk28 : ∀ (v5 : Int32) M, VV l K 1500 9 603072 7194729 rvI X (k28 v5 M) (c9 + 85) (s9 + 11934) M 28 [(0, .ref b), (1, .ref (kA K 0)), (2, .ref (kA K 32)), (3, .ref (kA K 45)), (4, .ref (kA K 46)), (5, .int v5)] []) (hc9 : c9 + 85 ≤ 603072) (hs9 : s9 + 11934 ≤ 7194729) (M : Mm) : VV l K 1500 9 603072 7194729 rvI X (fn_La_law_3677 xs sl k28 v5 M) (c9 + 1) (s9 + 6) M 3677 [(0, .ref b), (1, .ref (kA K 0)), (2, .ref (kA K 32)), (3, .ref (kA K 45)), (4, .ref (kA K 46)), (5, .int v5)] [] := by
  unfold fn_La_law_3677
  refine V_goto hX 36 3926 rfl (by decide) ?_
  refine VV_wd (c9 + 85) (s9 + 11934) (by omega) (by omega) ?_
  exact bt_La_law_3926 (cx_L hX dec_La_law_3923) hSc k28 v5 c9 s9 hk28 (by omega) (by omega) M
set_option maxRecDepth 20000 in
theorem bt_La_law_3622 {l : Launch} {K : KT} {X : XT} (hX : Cx l K 1500 9 603072 7194729 X code "SeriesArchiveLaw" (some .boolean) [] L_La_law_3622) {b sl : Nat} {xs : Nat → Int32} (hSc : SC K X b sl xs) (k28 : Int32 → Mm → Rs Int32) (v5 : Int32) (c9 s9 : Nat) (hk28 : ∀ (v5 : Int32) M, VV l K 1500 9 603072 7194729 rvI X (k28 v5 M) (c9 + 85) (s9 + 11934) M 28 [(0, .ref b), (1, .ref (kA K 0)), (2, .ref (kA K 32)), (3, .ref (kA K 45)), (4, .ref (kA K 46)), (5, .int v5)] []) (hc9 : c9 + 85 ≤ 603072) (hs9 : s9 + 11934 ≤ 7194729) (M : Mm) : VV l K 1500 9 603072 7194729 rvI X (fn_La_law_3622 xs sl k28 v5 M) (c9 + 0) (s9 + 0) M 3622 [(0, .ref b), (1, .ref (kA K 0)), (2, .ref (kA K 32)), (3, .ref (kA K 45)), (4, .ref (kA K 46)), (5, .int v5)] [] := by
  unfold fn_La_law_3622
  refine V_aload_n hX (j := 1) (hj := rfl) 0 3623 rfl rfl ?_
  refine V_aload_n hX (j := 0) (hj := rfl) 1 3624 rfl rfl ?_
  refine V_iload hX (j := 5) (hj := rfl) 2 3626 rfl rfl ?_
  refine V_iconst hX (v := 1) (hv := by decide) 3 3627 rfl rfl ?_
  refine V_iadd hX 4 3628 rfl rfl ?_
  refine V_sld hX hSc 5 3629 rfl rfl (fun g3628 => ?_)
  refine V_i2c hX 6 3630 rfl rfl ?_
  refine V_aload_n hX (j := 3) (hj := rfl) 7 3631 rfl rfl ?_
  refine V_callI hX 3634 (c9 + 1) (s9 + 6) rfl rfl rfl (by omega) (by omega) (VR_SX hX 8 (ct_La_type (cx_t hX) K (((xs (v5 + 1).toNatClampNeg).toUInt32 % 65536).toInt32) M) myw_La_type mt_La_type ml_La_368 (Nat.le_of_ble_eq_true rfl) (Nat.le_of_ble_eq_true rfl) rfl rfl (Nat.le_of_ble_eq_true rfl) rfl (by omega) (by omega)) (fun r3631 M3631 => ?_)
  refine V_istore hX 9 3636 [(6, .int r3631), (0, .ref b), (1, .ref (kA K 0)), (2, .ref (kA K 32)), (3, .ref (kA K 45)), (4, .ref (kA K 46)), (5, .int v5)] rfl rfl (Nat.le_of_ble_eq_true rfl) rfl ?_
  refine V_aload_n hX (j := 3) (hj := rfl) 10 3637 rfl rfl ?_
  refine V_aload_n hX (j := 1) (hj := rfl) 11 3638 rfl rfl ?_
  refine V_iload hX (j := 6) (hj := rfl) 12 3640 rfl rfl ?_
  refine V_iconst hX (v := 1) (hv := by decide) 13 3641 rfl rfl ?_
  refine V_iadd hX 14 3642 rfl rfl ?_
  refine V_sld hX hSc 15 3643 rfl rfl (fun g3642 => ?_)
  refine V_i2c hX 16 3644 rfl rfl ?_
  refine V_callI hX 3647 (c9 + 1) (s9 + 6) rfl rfl rfl (by omega) (by omega) (VR_V hX 17 (ct_Mo_type (cx_t hX) K (((xs (v5 + 1).toNatClampNeg).toUInt32 % 65536).toInt32) M3631) my_Mo_type mi_Mo_type ms_Mo_type ml_La_371 (Nat.le_of_ble_eq_true rfl) (Nat.le_of_ble_eq_true rfl) (by decide) (ent_32 K _) rfl rfl rfl (Nat.le_of_ble_eq_true rfl) rfl (by omega) (by omega)) (fun r3644 M3644 => ?_)
  refine V_istore hX 18 3649 [(7, .int r3644), (6, .int r3631), (0, .ref b), (1, .ref (kA K 0)), (2, .ref (kA K 32)), (3, .ref (kA K 45)), (4, .ref (kA K 46)), (5, .int v5)] rfl rfl (Nat.le_of_ble_eq_true rfl) rfl ?_
  refine V_aload_n hX (j := 4) (hj := rfl) 19 3650 rfl rfl ?_
  refine V_callI hX 3653 (c9 + 1) (s9 + 6) rfl rfl rfl (by omega) (by omega) (VR_V hX 20 (ct_Mo_thrown (cx_t hX) K M3644) my_Mo_thrown mi_Mo_thrown ms_Mo_thrown ml_La_204 (Nat.le_of_ble_eq_true rfl) (Nat.le_of_ble_eq_true rfl) (by decide) (ent_32 K _) rfl rfl rfl (Nat.le_of_ble_eq_true rfl) rfl (by omega) (by omega)) (fun r3650 M3650 => ?_)
  refine V_iload hX (j := 1) (hj := rfl) 21 3655 rfl rfl ?_
  refine V_icmp_eq hX 22 3658 3660 rfl rfl (by decide) (fun c3655 => ?_) (fun c3655 => ?_)
  · refine V_iload hX (j := 1) (hj := rfl) 25 3662 rfl rfl ?_
    refine V_if_ne hX 26 3665 3677 rfl rfl (by decide) (fun c3662 => ?_) (fun c3662 => ?_)
    · refine VV_sub [2, 3, 4, 5, 6, 7] rfl ?_
      exact bt_La_law_3677 hX hSc k28 v5 c9 s9 hk28 (by omega) (by omega) M3650
    · refine V_aload_n hX (j := 5) (hj := rfl) 27 3666 rfl rfl ?_
      refine V_iconst hX (v := 0) (hv := by decide) 28 3667 rfl rfl ?_
      refine V_lald hX 29 3668 rfl rfl ?_
      refine V_iload hX (j := 0) (hj := rfl) 30 3670 rfl rfl ?_
      refine V_i2l hX 31 3671 rfl rfl ?_
      refine V_lcmp hX 32 3672 rfl rfl ?_
      refine V_if_eq hX 33 3675 3677 rfl rfl (by decide) (fun c3672 => ?_) (fun c3672 => ?_)
      · refine VV_sub [2, 3, 4, 5, 6, 7] rfl ?_
        exact bt_La_law_3677 hX hSc k28 v5 c9 s9 hk28 (by omega) (by omega) M3650
      · refine V_iconst hX (v := 0) (hv := by decide) 34 3676 rfl rfl ?_
        exact V_zret hX 35 rfl rfl (by omega) (by omega) rfl
  · refine V_iconst hX (v := 0) (hv := by decide) 23 3659 rfl rfl ?_
    exact V_zret hX 24 rfl rfl (by omega) (by omega) rfl
set_option maxRecDepth 20000 in
theorem bt_La_law_3721 {l : Launch} {K : KT} {X : XT} (hX : Cx l K 1500 9 603072 7194729 X code "SeriesArchiveLaw" (some .boolean) [] L_La_law_3680) {b sl : Nat} {xs : Nat → Int32} (hSc : SC K X b sl xs) (k28 : Int32 → Mm → Rs Int32) (v5 : Int32) (c9 s9 : Nat) (hk28 : ∀ (v5 : Int32) M, VV l K 1500 9 603072 7194729 rvI X (k28 v5 M) (c9 + 85) (s9 + 11934) M 28 [(0, .ref b), (1, .ref (kA K 0)), (2, .ref (kA K 32)), (3, .ref (kA K 45)), (4, .ref (kA K 46)), (5, .int v5)] []) (hc9 : c9 + 85 ≤ 603072) (hs9 : s9 + 11934 ≤ 7194729) (M : Mm) : VV l K 1500 9 603072 7194729 rvI X (fn_La_law_3721 xs sl k28 v5 M) (c9 + 1) (s9 + 6) M 3721 [(0, .ref b), (1, .ref (kA K 0)), (2, .ref (kA K 32)), (3, .ref (kA K 45)), (4, .ref (kA K 46)), (5, .int v5)] [] := by
  unfold fn_La_law_3721
  refine V_goto hX 24 3926 rfl (by decide) ?_
  refine VV_wd (c9 + 85) (s9 + 11934) (by omega) (by omega) ?_
  exact bt_La_law_3926 (cx_L hX dec_La_law_3923) hSc k28 v5 c9 s9 hk28 (by omega) (by omega) M
set_option maxRecDepth 20000 in
theorem bt_La_law_3680 {l : Launch} {K : KT} {X : XT} (hX : Cx l K 1500 9 603072 7194729 X code "SeriesArchiveLaw" (some .boolean) [] L_La_law_3680) {b sl : Nat} {xs : Nat → Int32} (hSc : SC K X b sl xs) (k28 : Int32 → Mm → Rs Int32) (v5 : Int32) (c9 s9 : Nat) (hk28 : ∀ (v5 : Int32) M, VV l K 1500 9 603072 7194729 rvI X (k28 v5 M) (c9 + 85) (s9 + 11934) M 28 [(0, .ref b), (1, .ref (kA K 0)), (2, .ref (kA K 32)), (3, .ref (kA K 45)), (4, .ref (kA K 46)), (5, .int v5)] []) (hc9 : c9 + 85 ≤ 603072) (hs9 : s9 + 11934 ≤ 7194729) (M : Mm) : VV l K 1500 9 603072 7194729 rvI X (fn_La_law_3680 xs sl k28 v5 M) (c9 + 0) (s9 + 0) M 3680 [(0, .ref b), (1, .ref (kA K 0)), (2, .ref (kA K 32)), (3, .ref (kA K 45)), (4, .ref (kA K 46)), (5, .int v5)] [] := by
  unfold fn_La_law_3680
  refine V_aload_n hX (j := 1) (hj := rfl) 0 3681 rfl rfl ?_
  refine V_aload_n hX (j := 3) (hj := rfl) 1 3682 rfl rfl ?_
  refine V_callI hX 3685 (c9 + 1) (s9 + 6) rfl rfl rfl (by omega) (by omega) (VR_SX hX 2 (ct_La_run (cx_t hX) K M) myw_La_run mt_La_run ml_La_372 (Nat.le_of_ble_eq_true rfl) (Nat.le_of_ble_eq_true rfl) rfl rfl (Nat.le_of_ble_eq_true rfl) rfl (by omega) (by omega)) (fun r3682 M3682 => ?_)
  refine V_istore hX 3 3687 [(6, .int r3682), (0, .ref b), (1, .ref (kA K 0)), (2, .ref (kA K 32)), (3, .ref (kA K 45)), (4, .ref (kA K 46)), (5, .int v5)] rfl rfl (Nat.le_of_ble_eq_true rfl) rfl ?_
  refine V_aload_n hX (j := 3) (hj := rfl) 4 3688 rfl rfl ?_
  refine V_callI hX 3691 (c9 + 1) (s9 + 6) rfl rfl rfl (by omega) (by omega) (VR_V hX 5 (ct_Mo_run (cx_t hX) K M3682) my_Mo_run mi_Mo_run ms_Mo_run ml_La_375 (Nat.le_of_ble_eq_true rfl) (Nat.le_of_ble_eq_true rfl) (by decide) (ent_32 K _) rfl rfl rfl (Nat.le_of_ble_eq_true rfl) rfl (by omega) (by omega)) (fun r3688 M3688 => ?_)
  refine V_istore hX 6 3693 [(7, .int r3688), (6, .int r3682), (0, .ref b), (1, .ref (kA K 0)), (2, .ref (kA K 32)), (3, .ref (kA K 45)), (4, .ref (kA K 46)), (5, .int v5)] rfl rfl (Nat.le_of_ble_eq_true rfl) rfl ?_
  refine V_aload_n hX (j := 4) (hj := rfl) 7 3694 rfl rfl ?_
  refine V_callI hX 3697 (c9 + 1) (s9 + 6) rfl rfl rfl (by omega) (by omega) (VR_V hX 8 (ct_Mo_thrown (cx_t hX) K M3688) my_Mo_thrown mi_Mo_thrown ms_Mo_thrown ml_La_204 (Nat.le_of_ble_eq_true rfl) (Nat.le_of_ble_eq_true rfl) (by decide) (ent_32 K _) rfl rfl rfl (Nat.le_of_ble_eq_true rfl) rfl (by omega) (by omega)) (fun r3694 M3694 => ?_)
  refine V_iload hX (j := 1) (hj := rfl) 9 3699 rfl rfl ?_
  refine V_icmp_eq hX 10 3702 3704 rfl rfl (by decide) (fun c3699 => ?_) (fun c3699 => ?_)
  · refine V_iload hX (j := 1) (hj := rfl) 13 3706 rfl rfl ?_
    refine V_if_ne hX 14 3709 3721 rfl rfl (by decide) (fun c3706 => ?_) (fun c3706 => ?_)
    · refine VV_sub [2, 3, 4, 5, 6, 7] rfl ?_
      exact bt_La_law_3721 hX hSc k28 v5 c9 s9 hk28 (by omega) (by omega) M3694
    · refine V_aload_n hX (j := 5) (hj := rfl) 15 3710 rfl rfl ?_
      refine V_iconst hX (v := 0) (hv := by decide) 16 3711 rfl rfl ?_
      refine V_lald hX 17 3712 rfl rfl ?_
      refine V_iload hX (j := 0) (hj := rfl) 18 3714 rfl rfl ?_
      refine V_i2l hX 19 3715 rfl rfl ?_
      refine V_lcmp hX 20 3716 rfl rfl ?_
      refine V_if_eq hX 21 3719 3721 rfl rfl (by decide) (fun c3716 => ?_) (fun c3716 => ?_)
      · refine VV_sub [2, 3, 4, 5, 6, 7] rfl ?_
        exact bt_La_law_3721 hX hSc k28 v5 c9 s9 hk28 (by omega) (by omega) M3694
      · refine V_iconst hX (v := 0) (hv := by decide) 22 3720 rfl rfl ?_
        exact V_zret hX 23 rfl rfl (by omega) (by omega) rfl
  · refine V_iconst hX (v := 0) (hv := by decide) 11 3703 rfl rfl ?_
    exact V_zret hX 12 rfl rfl (by omega) (by omega) rfl
set_option maxRecDepth 20000 in
theorem bt_La_law_3765 {l : Launch} {K : KT} {X : XT} (hX : Cx l K 1500 9 603072 7194729 X code "SeriesArchiveLaw" (some .boolean) [] L_La_law_3724) {b sl : Nat} {xs : Nat → Int32} (hSc : SC K X b sl xs) (k28 : Int32 → Mm → Rs Int32) (v5 : Int32) (c9 s9 : Nat) (hk28 : ∀ (v5 : Int32) M, VV l K 1500 9 603072 7194729 rvI X (k28 v5 M) (c9 + 85) (s9 + 11934) M 28 [(0, .ref b), (1, .ref (kA K 0)), (2, .ref (kA K 32)), (3, .ref (kA K 45)), (4, .ref (kA K 46)), (5, .int v5)] []) (hc9 : c9 + 85 ≤ 603072) (hs9 : s9 + 11934 ≤ 7194729) (M : Mm) : VV l K 1500 9 603072 7194729 rvI X (fn_La_law_3765 xs sl k28 v5 M) (c9 + 1) (s9 + 6) M 3765 [(0, .ref b), (1, .ref (kA K 0)), (2, .ref (kA K 32)), (3, .ref (kA K 45)), (4, .ref (kA K 46)), (5, .int v5)] [] := by
  unfold fn_La_law_3765
  refine V_goto hX 24 3926 rfl (by decide) ?_
  refine VV_wd (c9 + 85) (s9 + 11934) (by omega) (by omega) ?_
  exact bt_La_law_3926 (cx_L hX dec_La_law_3923) hSc k28 v5 c9 s9 hk28 (by omega) (by omega) M
set_option maxRecDepth 20000 in
theorem bt_La_law_3724 {l : Launch} {K : KT} {X : XT} (hX : Cx l K 1500 9 603072 7194729 X code "SeriesArchiveLaw" (some .boolean) [] L_La_law_3724) {b sl : Nat} {xs : Nat → Int32} (hSc : SC K X b sl xs) (k28 : Int32 → Mm → Rs Int32) (v5 : Int32) (c9 s9 : Nat) (hk28 : ∀ (v5 : Int32) M, VV l K 1500 9 603072 7194729 rvI X (k28 v5 M) (c9 + 85) (s9 + 11934) M 28 [(0, .ref b), (1, .ref (kA K 0)), (2, .ref (kA K 32)), (3, .ref (kA K 45)), (4, .ref (kA K 46)), (5, .int v5)] []) (hc9 : c9 + 85 ≤ 603072) (hs9 : s9 + 11934 ≤ 7194729) (M : Mm) : VV l K 1500 9 603072 7194729 rvI X (fn_La_law_3724 xs sl k28 v5 M) (c9 + 0) (s9 + 0) M 3724 [(0, .ref b), (1, .ref (kA K 0)), (2, .ref (kA K 32)), (3, .ref (kA K 45)), (4, .ref (kA K 46)), (5, .int v5)] [] := by
  unfold fn_La_law_3724
  refine V_aload_n hX (j := 1) (hj := rfl) 0 3725 rfl rfl ?_
  refine V_aload_n hX (j := 3) (hj := rfl) 1 3726 rfl rfl ?_
  refine V_callI hX 3729 (c9 + 1) (s9 + 6) rfl rfl rfl (by omega) (by omega) (VR_SX hX 2 (ct_La_errorPosition (cx_t hX) K M) myw_La_errorPosition mt_La_errorPosition ml_La_376 (Nat.le_of_ble_eq_true rfl) (Nat.le_of_ble_eq_true rfl) rfl rfl (Nat.le_of_ble_eq_true rfl) rfl (by omega) (by omega)) (fun r3726 M3726 => ?_)
  refine V_istore hX 3 3731 [(6, .int r3726), (0, .ref b), (1, .ref (kA K 0)), (2, .ref (kA K 32)), (3, .ref (kA K 45)), (4, .ref (kA K 46)), (5, .int v5)] rfl rfl (Nat.le_of_ble_eq_true rfl) rfl ?_
  refine V_aload_n hX (j := 3) (hj := rfl) 4 3732 rfl rfl ?_
  refine V_callI hX 3735 (c9 + 1) (s9 + 6) rfl rfl rfl (by omega) (by omega) (VR_V hX 5 (ct_Mo_errorPosition (cx_t hX) K M3726) my_Mo_errorPosition mi_Mo_errorPosition ms_Mo_errorPosition ml_La_378 (Nat.le_of_ble_eq_true rfl) (Nat.le_of_ble_eq_true rfl) (by decide) (ent_32 K _) rfl rfl rfl (Nat.le_of_ble_eq_true rfl) rfl (by omega) (by omega)) (fun r3732 M3732 => ?_)
  refine V_istore hX 6 3737 [(7, .int r3732), (6, .int r3726), (0, .ref b), (1, .ref (kA K 0)), (2, .ref (kA K 32)), (3, .ref (kA K 45)), (4, .ref (kA K 46)), (5, .int v5)] rfl rfl (Nat.le_of_ble_eq_true rfl) rfl ?_
  refine V_aload_n hX (j := 4) (hj := rfl) 7 3738 rfl rfl ?_
  refine V_callI hX 3741 (c9 + 1) (s9 + 6) rfl rfl rfl (by omega) (by omega) (VR_V hX 8 (ct_Mo_thrown (cx_t hX) K M3732) my_Mo_thrown mi_Mo_thrown ms_Mo_thrown ml_La_204 (Nat.le_of_ble_eq_true rfl) (Nat.le_of_ble_eq_true rfl) (by decide) (ent_32 K _) rfl rfl rfl (Nat.le_of_ble_eq_true rfl) rfl (by omega) (by omega)) (fun r3738 M3738 => ?_)
  refine V_iload hX (j := 1) (hj := rfl) 9 3743 rfl rfl ?_
  refine V_icmp_eq hX 10 3746 3748 rfl rfl (by decide) (fun c3743 => ?_) (fun c3743 => ?_)
  · refine V_iload hX (j := 1) (hj := rfl) 13 3750 rfl rfl ?_
    refine V_if_ne hX 14 3753 3765 rfl rfl (by decide) (fun c3750 => ?_) (fun c3750 => ?_)
    · refine VV_sub [2, 3, 4, 5, 6, 7] rfl ?_
      exact bt_La_law_3765 hX hSc k28 v5 c9 s9 hk28 (by omega) (by omega) M3738
    · refine V_aload_n hX (j := 5) (hj := rfl) 15 3754 rfl rfl ?_
      refine V_iconst hX (v := 0) (hv := by decide) 16 3755 rfl rfl ?_
      refine V_lald hX 17 3756 rfl rfl ?_
      refine V_iload hX (j := 0) (hj := rfl) 18 3758 rfl rfl ?_
      refine V_i2l hX 19 3759 rfl rfl ?_
      refine V_lcmp hX 20 3760 rfl rfl ?_
      refine V_if_eq hX 21 3763 3765 rfl rfl (by decide) (fun c3760 => ?_) (fun c3760 => ?_)
      · refine VV_sub [2, 3, 4, 5, 6, 7] rfl ?_
        exact bt_La_law_3765 hX hSc k28 v5 c9 s9 hk28 (by omega) (by omega) M3738
      · refine V_iconst hX (v := 0) (hv := by decide) 22 3764 rfl rfl ?_
        exact V_zret hX 23 rfl rfl (by omega) (by omega) rfl
  · refine V_iconst hX (v := 0) (hv := by decide) 11 3747 rfl rfl ?_
    exact V_zret hX 12 rfl rfl (by omega) (by omega) rfl
set_option maxRecDepth 20000 in
theorem bt_La_law_3809 {l : Launch} {K : KT} {X : XT} (hX : Cx l K 1500 9 603072 7194729 X code "SeriesArchiveLaw" (some .boolean) [] L_La_law_3768) {b sl : Nat} {xs : Nat → Int32} (hSc : SC K X b sl xs) (k28 : Int32 → Mm → Rs Int32) (v5 : Int32) (c9 s9 : Nat) (hk28 : ∀ (v5 : Int32) M, VV l K 1500 9 603072 7194729 rvI X (k28 v5 M) (c9 + 85) (s9 + 11934) M 28 [(0, .ref b), (1, .ref (kA K 0)), (2, .ref (kA K 32)), (3, .ref (kA K 45)), (4, .ref (kA K 46)), (5, .int v5)] []) (hc9 : c9 + 85 ≤ 603072) (hs9 : s9 + 11934 ≤ 7194729) (M : Mm) : VV l K 1500 9 603072 7194729 rvI X (fn_La_law_3809 xs sl k28 v5 M) (c9 + 1) (s9 + 6) M 3809 [(0, .ref b), (1, .ref (kA K 0)), (2, .ref (kA K 32)), (3, .ref (kA K 45)), (4, .ref (kA K 46)), (5, .int v5)] [] := by
  unfold fn_La_law_3809
  refine V_goto hX 24 3926 rfl (by decide) ?_
  refine VV_wd (c9 + 85) (s9 + 11934) (by omega) (by omega) ?_
  exact bt_La_law_3926 (cx_L hX dec_La_law_3923) hSc k28 v5 c9 s9 hk28 (by omega) (by omega) M
set_option maxRecDepth 20000 in
theorem bt_La_law_3768 {l : Launch} {K : KT} {X : XT} (hX : Cx l K 1500 9 603072 7194729 X code "SeriesArchiveLaw" (some .boolean) [] L_La_law_3768) {b sl : Nat} {xs : Nat → Int32} (hSc : SC K X b sl xs) (k28 : Int32 → Mm → Rs Int32) (v5 : Int32) (c9 s9 : Nat) (hk28 : ∀ (v5 : Int32) M, VV l K 1500 9 603072 7194729 rvI X (k28 v5 M) (c9 + 85) (s9 + 11934) M 28 [(0, .ref b), (1, .ref (kA K 0)), (2, .ref (kA K 32)), (3, .ref (kA K 45)), (4, .ref (kA K 46)), (5, .int v5)] []) (hc9 : c9 + 85 ≤ 603072) (hs9 : s9 + 11934 ≤ 7194729) (M : Mm) : VV l K 1500 9 603072 7194729 rvI X (fn_La_law_3768 xs sl k28 v5 M) (c9 + 0) (s9 + 0) M 3768 [(0, .ref b), (1, .ref (kA K 0)), (2, .ref (kA K 32)), (3, .ref (kA K 45)), (4, .ref (kA K 46)), (5, .int v5)] [] := by
  unfold fn_La_law_3768
  refine V_aload_n hX (j := 1) (hj := rfl) 0 3769 rfl rfl ?_
  refine V_aload_n hX (j := 3) (hj := rfl) 1 3770 rfl rfl ?_
  refine V_callI hX 3773 (c9 + 1) (s9 + 6) rfl rfl rfl (by omega) (by omega) (VR_SX hX 2 (ct_La_failedCommand (cx_t hX) K M) myw_La_failedCommand mt_La_failedCommand ml_La_379 (Nat.le_of_ble_eq_true rfl) (Nat.le_of_ble_eq_true rfl) rfl rfl (Nat.le_of_ble_eq_true rfl) rfl (by omega) (by omega)) (fun r3770 M3770 => ?_)
  refine V_istore hX 3 3775 [(6, .int r3770), (0, .ref b), (1, .ref (kA K 0)), (2, .ref (kA K 32)), (3, .ref (kA K 45)), (4, .ref (kA K 46)), (5, .int v5)] rfl rfl (Nat.le_of_ble_eq_true rfl) rfl ?_
  refine V_aload_n hX (j := 3) (hj := rfl) 4 3776 rfl rfl ?_
  refine V_callI hX 3779 (c9 + 1) (s9 + 6) rfl rfl rfl (by omega) (by omega) (VR_V hX 5 (ct_Mo_failedCommand (cx_t hX) K M3770) my_Mo_failedCommand mi_Mo_failedCommand ms_Mo_failedCommand ml_La_381 (Nat.le_of_ble_eq_true rfl) (Nat.le_of_ble_eq_true rfl) (by decide) (ent_32 K _) rfl rfl rfl (Nat.le_of_ble_eq_true rfl) rfl (by omega) (by omega)) (fun r3776 M3776 => ?_)
  refine V_istore hX 6 3781 [(7, .int r3776), (6, .int r3770), (0, .ref b), (1, .ref (kA K 0)), (2, .ref (kA K 32)), (3, .ref (kA K 45)), (4, .ref (kA K 46)), (5, .int v5)] rfl rfl (Nat.le_of_ble_eq_true rfl) rfl ?_
  refine V_aload_n hX (j := 4) (hj := rfl) 7 3782 rfl rfl ?_
  refine V_callI hX 3785 (c9 + 1) (s9 + 6) rfl rfl rfl (by omega) (by omega) (VR_V hX 8 (ct_Mo_thrown (cx_t hX) K M3776) my_Mo_thrown mi_Mo_thrown ms_Mo_thrown ml_La_204 (Nat.le_of_ble_eq_true rfl) (Nat.le_of_ble_eq_true rfl) (by decide) (ent_32 K _) rfl rfl rfl (Nat.le_of_ble_eq_true rfl) rfl (by omega) (by omega)) (fun r3782 M3782 => ?_)
  refine V_iload hX (j := 1) (hj := rfl) 9 3787 rfl rfl ?_
  refine V_icmp_eq hX 10 3790 3792 rfl rfl (by decide) (fun c3787 => ?_) (fun c3787 => ?_)
  · refine V_iload hX (j := 1) (hj := rfl) 13 3794 rfl rfl ?_
    refine V_if_ne hX 14 3797 3809 rfl rfl (by decide) (fun c3794 => ?_) (fun c3794 => ?_)
    · refine VV_sub [2, 3, 4, 5, 6, 7] rfl ?_
      exact bt_La_law_3809 hX hSc k28 v5 c9 s9 hk28 (by omega) (by omega) M3782
    · refine V_aload_n hX (j := 5) (hj := rfl) 15 3798 rfl rfl ?_
      refine V_iconst hX (v := 0) (hv := by decide) 16 3799 rfl rfl ?_
      refine V_lald hX 17 3800 rfl rfl ?_
      refine V_iload hX (j := 0) (hj := rfl) 18 3802 rfl rfl ?_
      refine V_i2l hX 19 3803 rfl rfl ?_
      refine V_lcmp hX 20 3804 rfl rfl ?_
      refine V_if_eq hX 21 3807 3809 rfl rfl (by decide) (fun c3804 => ?_) (fun c3804 => ?_)
      · refine VV_sub [2, 3, 4, 5, 6, 7] rfl ?_
        exact bt_La_law_3809 hX hSc k28 v5 c9 s9 hk28 (by omega) (by omega) M3782
      · refine V_iconst hX (v := 0) (hv := by decide) 22 3808 rfl rfl ?_
        exact V_zret hX 23 rfl rfl (by omega) (by omega) rfl
  · refine V_iconst hX (v := 0) (hv := by decide) 11 3791 rfl rfl ?_
    exact V_zret hX 12 rfl rfl (by omega) (by omega) rfl
set_option maxRecDepth 20000 in
theorem bt_La_law_3812 {l : Launch} {K : KT} {X : XT} (hX : Cx l K 1500 9 603072 7194729 X code "SeriesArchiveLaw" (some .boolean) [] L_La_law_3812) {b sl : Nat} {xs : Nat → Int32} (hSc : SC K X b sl xs) (k28 : Int32 → Mm → Rs Int32) (v5 : Int32) (c9 s9 : Nat) (hk28 : ∀ (v5 : Int32) M, VV l K 1500 9 603072 7194729 rvI X (k28 v5 M) (c9 + 85) (s9 + 11934) M 28 [(0, .ref b), (1, .ref (kA K 0)), (2, .ref (kA K 32)), (3, .ref (kA K 45)), (4, .ref (kA K 46)), (5, .int v5)] []) (hc9 : c9 + 85 ≤ 603072) (hs9 : s9 + 11934 ≤ 7194729) (M : Mm) : VV l K 1500 9 603072 7194729 rvI X (fn_La_law_3812 xs sl k28 v5 M) (c9 + 0) (s9 + 0) M 3812 [(0, .ref b), (1, .ref (kA K 0)), (2, .ref (kA K 32)), (3, .ref (kA K 45)), (4, .ref (kA K 46)), (5, .int v5)] [] := by
  unfold fn_La_law_3812
  refine V_aload_n hX (j := 1) (hj := rfl) 0 3813 rfl rfl ?_
  refine V_callI hX 3816 (c9 + 0) (s9 + 0) rfl rfl rfl (by omega) (by omega) (VR_V hX 1 (ct_SA_undoableCount (cx_t hX) K M) my_SA_undoableCount mi_SA_undoableCount ms_SA_undoableCount ml_La_382 (Nat.le_of_ble_eq_true rfl) (Nat.le_of_ble_eq_true rfl) (by decide) (ent_0 K _) rfl rfl rfl (Nat.le_of_ble_eq_true rfl) rfl (by omega) (by omega)) (fun r3813 M3813 => ?_)
  refine V_aload_n hX (j := 2) (hj := rfl) 2 3817 rfl rfl ?_
  refine V_callI hX 3820 (c9 + 0) (s9 + 0) rfl rfl rfl (by omega) (by omega) (VR_V hX 3 (ct_Mo_undoableCount (cx_t hX) K M3813) my_Mo_undoableCount mi_Mo_undoableCount ms_Mo_undoableCount ml_La_385 (Nat.le_of_ble_eq_true rfl) (Nat.le_of_ble_eq_true rfl) (by decide) (ent_32 K _) rfl rfl rfl (Nat.le_of_ble_eq_true rfl) rfl (by omega) (by omega)) (fun r3817 M3817 => ?_)
  refine V_icmp_eq hX 4 3823 3926 rfl rfl (by decide) (fun c3820 => ?_) (fun c3820 => ?_)
  · refine VV_wd (c9 + 85) (s9 + 11934) (by omega) (by omega) ?_
    exact bt_La_law_3926 (cx_L hX dec_La_law_3923) hSc k28 v5 c9 s9 hk28 (by omega) (by omega) M3817
  · refine V_iconst hX (v := 0) (hv := by decide) 5 3824 rfl rfl ?_
    exact V_zret hX 6 rfl rfl (by omega) (by omega) rfl
set_option maxRecDepth 20000 in
theorem bt_La_law_3866 {l : Launch} {K : KT} {X : XT} (hX : Cx l K 1500 9 603072 7194729 X code "SeriesArchiveLaw" (some .boolean) [] L_La_law_3825) {b sl : Nat} {xs : Nat → Int32} (hSc : SC K X b sl xs) (k28 : Int32 → Mm → Rs Int32) (v5 : Int32) (c9 s9 : Nat) (hk28 : ∀ (v5 : Int32) M, VV l K 1500 9 603072 7194729 rvI X (k28 v5 M) (c9 + 85) (s9 + 11934) M 28 [(0, .ref b), (1, .ref (kA K 0)), (2, .ref (kA K 32)), (3, .ref (kA K 45)), (4, .ref (kA K 46)), (5, .int v5)] []) (hc9 : c9 + 85 ≤ 603072) (hs9 : s9 + 11934 ≤ 7194729) (M : Mm) : VV l K 1500 9 603072 7194729 rvI X (fn_La_law_3866 xs sl k28 v5 M) (c9 + 1) (s9 + 6) M 3866 [(0, .ref b), (1, .ref (kA K 0)), (2, .ref (kA K 32)), (3, .ref (kA K 45)), (4, .ref (kA K 46)), (5, .int v5)] [] := by
  unfold fn_La_law_3866
  refine V_goto hX 24 3926 rfl (by decide) ?_
  refine VV_wd (c9 + 85) (s9 + 11934) (by omega) (by omega) ?_
  exact bt_La_law_3926 (cx_L hX dec_La_law_3923) hSc k28 v5 c9 s9 hk28 (by omega) (by omega) M
set_option maxRecDepth 20000 in
theorem bt_La_law_3825 {l : Launch} {K : KT} {X : XT} (hX : Cx l K 1500 9 603072 7194729 X code "SeriesArchiveLaw" (some .boolean) [] L_La_law_3825) {b sl : Nat} {xs : Nat → Int32} (hSc : SC K X b sl xs) (k28 : Int32 → Mm → Rs Int32) (v5 : Int32) (c9 s9 : Nat) (hk28 : ∀ (v5 : Int32) M, VV l K 1500 9 603072 7194729 rvI X (k28 v5 M) (c9 + 85) (s9 + 11934) M 28 [(0, .ref b), (1, .ref (kA K 0)), (2, .ref (kA K 32)), (3, .ref (kA K 45)), (4, .ref (kA K 46)), (5, .int v5)] []) (hc9 : c9 + 85 ≤ 603072) (hs9 : s9 + 11934 ≤ 7194729) (M : Mm) : VV l K 1500 9 603072 7194729 rvI X (fn_La_law_3825 xs sl k28 v5 M) (c9 + 0) (s9 + 0) M 3825 [(0, .ref b), (1, .ref (kA K 0)), (2, .ref (kA K 32)), (3, .ref (kA K 45)), (4, .ref (kA K 46)), (5, .int v5)] [] := by
  unfold fn_La_law_3825
  refine V_aload_n hX (j := 1) (hj := rfl) 0 3826 rfl rfl ?_
  refine V_aload_n hX (j := 3) (hj := rfl) 1 3827 rfl rfl ?_
  refine V_callI hX 3830 (c9 + 1) (s9 + 6) rfl rfl rfl (by omega) (by omega) (VR_SX hX 2 (ct_La_undo (cx_t hX) K M) myw_La_undo mt_La_undo ml_La_386 (Nat.le_of_ble_eq_true rfl) (Nat.le_of_ble_eq_true rfl) rfl rfl (Nat.le_of_ble_eq_true rfl) rfl (by omega) (by omega)) (fun r3827 M3827 => ?_)
  refine V_istore hX 3 3832 [(6, .int r3827), (0, .ref b), (1, .ref (kA K 0)), (2, .ref (kA K 32)), (3, .ref (kA K 45)), (4, .ref (kA K 46)), (5, .int v5)] rfl rfl (Nat.le_of_ble_eq_true rfl) rfl ?_
  refine V_aload_n hX (j := 3) (hj := rfl) 4 3833 rfl rfl ?_
  refine V_callI hX 3836 (c9 + 1) (s9 + 6) rfl rfl rfl (by omega) (by omega) (VR_V hX 5 (ct_Mo_undo (cx_t hX) K M3827) my_Mo_undo mi_Mo_undo ms_Mo_undo ml_La_388 (Nat.le_of_ble_eq_true rfl) (Nat.le_of_ble_eq_true rfl) (by decide) (ent_32 K _) rfl rfl rfl (Nat.le_of_ble_eq_true rfl) rfl (by omega) (by omega)) (fun r3833 M3833 => ?_)
  refine V_istore hX 6 3838 [(7, .int r3833), (6, .int r3827), (0, .ref b), (1, .ref (kA K 0)), (2, .ref (kA K 32)), (3, .ref (kA K 45)), (4, .ref (kA K 46)), (5, .int v5)] rfl rfl (Nat.le_of_ble_eq_true rfl) rfl ?_
  refine V_aload_n hX (j := 4) (hj := rfl) 7 3839 rfl rfl ?_
  refine V_callI hX 3842 (c9 + 1) (s9 + 6) rfl rfl rfl (by omega) (by omega) (VR_V hX 8 (ct_Mo_thrown (cx_t hX) K M3833) my_Mo_thrown mi_Mo_thrown ms_Mo_thrown ml_La_204 (Nat.le_of_ble_eq_true rfl) (Nat.le_of_ble_eq_true rfl) (by decide) (ent_32 K _) rfl rfl rfl (Nat.le_of_ble_eq_true rfl) rfl (by omega) (by omega)) (fun r3839 M3839 => ?_)
  refine V_iload hX (j := 1) (hj := rfl) 9 3844 rfl rfl ?_
  refine V_icmp_eq hX 10 3847 3849 rfl rfl (by decide) (fun c3844 => ?_) (fun c3844 => ?_)
  · refine V_iload hX (j := 1) (hj := rfl) 13 3851 rfl rfl ?_
    refine V_if_ne hX 14 3854 3866 rfl rfl (by decide) (fun c3851 => ?_) (fun c3851 => ?_)
    · refine VV_sub [2, 3, 4, 5, 6, 7] rfl ?_
      exact bt_La_law_3866 hX hSc k28 v5 c9 s9 hk28 (by omega) (by omega) M3839
    · refine V_aload_n hX (j := 5) (hj := rfl) 15 3855 rfl rfl ?_
      refine V_iconst hX (v := 0) (hv := by decide) 16 3856 rfl rfl ?_
      refine V_lald hX 17 3857 rfl rfl ?_
      refine V_iload hX (j := 0) (hj := rfl) 18 3859 rfl rfl ?_
      refine V_i2l hX 19 3860 rfl rfl ?_
      refine V_lcmp hX 20 3861 rfl rfl ?_
      refine V_if_eq hX 21 3864 3866 rfl rfl (by decide) (fun c3861 => ?_) (fun c3861 => ?_)
      · refine VV_sub [2, 3, 4, 5, 6, 7] rfl ?_
        exact bt_La_law_3866 hX hSc k28 v5 c9 s9 hk28 (by omega) (by omega) M3839
      · refine V_iconst hX (v := 0) (hv := by decide) 22 3865 rfl rfl ?_
        exact V_zret hX 23 rfl rfl (by omega) (by omega) rfl
  · refine V_iconst hX (v := 0) (hv := by decide) 11 3848 rfl rfl ?_
    exact V_zret hX 12 rfl rfl (by omega) (by omega) rfl
set_option maxRecDepth 20000 in
theorem bt_La_law_3869 {l : Launch} {K : KT} {X : XT} (hX : Cx l K 1500 9 603072 7194729 X code "SeriesArchiveLaw" (some .boolean) [] L_La_law_3869) {b sl : Nat} {xs : Nat → Int32} (hSc : SC K X b sl xs) (k28 : Int32 → Mm → Rs Int32) (v5 : Int32) (c9 s9 : Nat) (hk28 : ∀ (v5 : Int32) M, VV l K 1500 9 603072 7194729 rvI X (k28 v5 M) (c9 + 85) (s9 + 11934) M 28 [(0, .ref b), (1, .ref (kA K 0)), (2, .ref (kA K 32)), (3, .ref (kA K 45)), (4, .ref (kA K 46)), (5, .int v5)] []) (hc9 : c9 + 85 ≤ 603072) (hs9 : s9 + 11934 ≤ 7194729) (M : Mm) : VV l K 1500 9 603072 7194729 rvI X (fn_La_law_3869 xs sl k28 v5 M) (c9 + 0) (s9 + 0) M 3869 [(0, .ref b), (1, .ref (kA K 0)), (2, .ref (kA K 32)), (3, .ref (kA K 45)), (4, .ref (kA K 46)), (5, .int v5)] [] := by
  unfold fn_La_law_3869
  refine V_aload_n hX (j := 1) (hj := rfl) 0 3870 rfl rfl ?_
  refine V_callI hX 3873 (c9 + 0) (s9 + 0) rfl rfl rfl (by omega) (by omega) (VR_V hX 1 (ct_SA_save (cx_t hX) K M) my_SA_save mi_SA_save ms_SA_save ml_La_389 (Nat.le_of_ble_eq_true rfl) (Nat.le_of_ble_eq_true rfl) (by decide) (ent_0 K _) rfl rfl rfl (Nat.le_of_ble_eq_true rfl) rfl (by omega) (by omega)) (fun r3870 M3870 => ?_)
  refine V_aload_n hX (j := 2) (hj := rfl) 2 3874 rfl rfl ?_
  refine V_callI hX 3877 (c9 + 0) (s9 + 0) rfl rfl rfl (by omega) (by omega) (VR_V hX 3 (ct_Mo_save (cx_t hX) K M3870) my_Mo_save mi_Mo_save ms_Mo_save ml_La_392 (Nat.le_of_ble_eq_true rfl) (Nat.le_of_ble_eq_true rfl) (by decide) (ent_32 K _) rfl rfl rfl (Nat.le_of_ble_eq_true rfl) rfl (by omega) (by omega)) (fun r3874 M3874 => ?_)
  refine V_icmp_eq hX 4 3880 3926 rfl rfl (by decide) (fun c3877 => ?_) (fun c3877 => ?_)
  · refine VV_wd (c9 + 85) (s9 + 11934) (by omega) (by omega) ?_
    exact bt_La_law_3926 (cx_L hX dec_La_law_3923) hSc k28 v5 c9 s9 hk28 (by omega) (by omega) M3874
  · refine V_iconst hX (v := 0) (hv := by decide) 5 3881 rfl rfl ?_
    exact V_zret hX 6 rfl rfl (by omega) (by omega) rfl
set_option maxRecDepth 20000 in
theorem bt_La_law_3923 {l : Launch} {K : KT} {X : XT} (hX : Cx l K 1500 9 603072 7194729 X code "SeriesArchiveLaw" (some .boolean) [] L_La_law_3923) {b sl : Nat} {xs : Nat → Int32} (hSc : SC K X b sl xs) (k28 : Int32 → Mm → Rs Int32) (v5 : Int32) (c9 s9 : Nat) (hk28 : ∀ (v5 : Int32) M, VV l K 1500 9 603072 7194729 rvI X (k28 v5 M) (c9 + 85) (s9 + 11934) M 28 [(0, .ref b), (1, .ref (kA K 0)), (2, .ref (kA K 32)), (3, .ref (kA K 45)), (4, .ref (kA K 46)), (5, .int v5)] []) (hc9 : c9 + 85 ≤ 603072) (hs9 : s9 + 11934 ≤ 7194729) (M : Mm) : VV l K 1500 9 603072 7194729 rvI X (fn_La_law_3923 xs sl k28 v5 M) (c9 + 1) (s9 + 6) M 3923 [(0, .ref b), (1, .ref (kA K 0)), (2, .ref (kA K 32)), (3, .ref (kA K 45)), (4, .ref (kA K 46)), (5, .int v5)] [] := by
  unfold fn_La_law_3923
  refine V_goto hX 0 3926 rfl (by decide) ?_
  refine VV_wd (c9 + 85) (s9 + 11934) (by omega) (by omega) ?_
  exact bt_La_law_3926 hX hSc k28 v5 c9 s9 hk28 (by omega) (by omega) M
set_option maxRecDepth 20000 in
theorem bt_La_law_3882 {l : Launch} {K : KT} {X : XT} (hX : Cx l K 1500 9 603072 7194729 X code "SeriesArchiveLaw" (some .boolean) [] L_La_law_3882) {b sl : Nat} {xs : Nat → Int32} (hSc : SC K X b sl xs) (k28 : Int32 → Mm → Rs Int32) (v5 : Int32) (c9 s9 : Nat) (hk28 : ∀ (v5 : Int32) M, VV l K 1500 9 603072 7194729 rvI X (k28 v5 M) (c9 + 85) (s9 + 11934) M 28 [(0, .ref b), (1, .ref (kA K 0)), (2, .ref (kA K 32)), (3, .ref (kA K 45)), (4, .ref (kA K 46)), (5, .int v5)] []) (hc9 : c9 + 85 ≤ 603072) (hs9 : s9 + 11934 ≤ 7194729) (M : Mm) : VV l K 1500 9 603072 7194729 rvI X (fn_La_law_3882 xs sl k28 v5 M) (c9 + 0) (s9 + 0) M 3882 [(0, .ref b), (1, .ref (kA K 0)), (2, .ref (kA K 32)), (3, .ref (kA K 45)), (4, .ref (kA K 46)), (5, .int v5)] [] := by
  unfold fn_La_law_3882
  refine V_aload_n hX (j := 1) (hj := rfl) 0 3883 rfl rfl ?_
  refine V_aload_n hX (j := 3) (hj := rfl) 1 3884 rfl rfl ?_
  refine V_callI hX 3887 (c9 + 1) (s9 + 6) rfl rfl rfl (by omega) (by omega) (VR_SX hX 2 (ct_La_restore (cx_t hX) K M) myw_La_restore mt_La_restore ml_La_393 (Nat.le_of_ble_eq_true rfl) (Nat.le_of_ble_eq_true rfl) rfl rfl (Nat.le_of_ble_eq_true rfl) rfl (by omega) (by omega)) (fun r3884 M3884 => ?_)
  refine V_istore hX 3 3889 [(6, .int r3884), (0, .ref b), (1, .ref (kA K 0)), (2, .ref (kA K 32)), (3, .ref (kA K 45)), (4, .ref (kA K 46)), (5, .int v5)] rfl rfl (Nat.le_of_ble_eq_true rfl) rfl ?_
  refine V_aload_n hX (j := 3) (hj := rfl) 4 3890 rfl rfl ?_
  refine V_callI hX 3893 (c9 + 1) (s9 + 6) rfl rfl rfl (by omega) (by omega) (VR_V hX 5 (ct_Mo_restore (cx_t hX) K M3884) my_Mo_restore mi_Mo_restore ms_Mo_restore ml_La_395 (Nat.le_of_ble_eq_true rfl) (Nat.le_of_ble_eq_true rfl) (by decide) (ent_32 K _) rfl rfl rfl (Nat.le_of_ble_eq_true rfl) rfl (by omega) (by omega)) (fun r3890 M3890 => ?_)
  refine V_istore hX 6 3895 [(7, .int r3890), (6, .int r3884), (0, .ref b), (1, .ref (kA K 0)), (2, .ref (kA K 32)), (3, .ref (kA K 45)), (4, .ref (kA K 46)), (5, .int v5)] rfl rfl (Nat.le_of_ble_eq_true rfl) rfl ?_
  refine V_aload_n hX (j := 4) (hj := rfl) 7 3896 rfl rfl ?_
  refine V_callI hX 3899 (c9 + 1) (s9 + 6) rfl rfl rfl (by omega) (by omega) (VR_V hX 8 (ct_Mo_thrown (cx_t hX) K M3890) my_Mo_thrown mi_Mo_thrown ms_Mo_thrown ml_La_204 (Nat.le_of_ble_eq_true rfl) (Nat.le_of_ble_eq_true rfl) (by decide) (ent_32 K _) rfl rfl rfl (Nat.le_of_ble_eq_true rfl) rfl (by omega) (by omega)) (fun r3896 M3896 => ?_)
  refine V_iload hX (j := 1) (hj := rfl) 9 3901 rfl rfl ?_
  refine V_icmp_eq hX 10 3904 3906 rfl rfl (by decide) (fun c3901 => ?_) (fun c3901 => ?_)
  · refine V_iload hX (j := 1) (hj := rfl) 13 3908 rfl rfl ?_
    refine V_if_ne hX 14 3911 3923 rfl rfl (by decide) (fun c3908 => ?_) (fun c3908 => ?_)
    · refine VV_sub [2, 3, 4, 5, 6, 7] rfl ?_
      exact bt_La_law_3923 (cx_L hX dec_La_law_3923) hSc k28 v5 c9 s9 hk28 (by omega) (by omega) M3896
    · refine V_aload_n hX (j := 5) (hj := rfl) 15 3912 rfl rfl ?_
      refine V_iconst hX (v := 0) (hv := by decide) 16 3913 rfl rfl ?_
      refine V_lald hX 17 3914 rfl rfl ?_
      refine V_iload hX (j := 0) (hj := rfl) 18 3916 rfl rfl ?_
      refine V_i2l hX 19 3917 rfl rfl ?_
      refine V_lcmp hX 20 3918 rfl rfl ?_
      refine V_if_eq hX 21 3921 3923 rfl rfl (by decide) (fun c3918 => ?_) (fun c3918 => ?_)
      · refine VV_sub [2, 3, 4, 5, 6, 7] rfl ?_
        exact bt_La_law_3923 (cx_L hX dec_La_law_3923) hSc k28 v5 c9 s9 hk28 (by omega) (by omega) M3896
      · refine V_iconst hX (v := 0) (hv := by decide) 22 3922 rfl rfl ?_
        exact V_zret hX 23 rfl rfl (by omega) (by omega) rfl
  · refine V_iconst hX (v := 0) (hv := by decide) 11 3905 rfl rfl ?_
    exact V_zret hX 12 rfl rfl (by omega) (by omega) rfl
set_option maxRecDepth 20000 in
theorem bt_La_law_28 {l : Launch} {K : KT} {X : XT} (hX : Cx l K 1500 9 603072 7194729 X code "SeriesArchiveLaw" (some .boolean) [] L_La_law_28) {b sl : Nat} {xs : Nat → Int32} (hSc : SC K X b sl xs) : ∀ (n : Nat) (c9 s9 : Nat) (hc9 : c9 + n * 85 ≤ 603072) (hs9 : s9 + n * 11934 ≤ 7194729) (v5 : Int32) (M : Mm), VV l K 1500 9 603072 7194729 rvI X (fn_La_law_28 xs sl n v5 M) c9 s9 M 28 [(0, .ref b), (1, .ref (kA K 0)), (2, .ref (kA K 32)), (3, .ref (kA K 45)), (4, .ref (kA K 46)), (5, .int v5)] [] := by
  intro n
  induction n with
  | zero => intro c9 s9 hc9 hs9 v5 M; exact VV_none
  | succ n ih =>
    intro c9 s9 hc9 hs9 v5 M
    rw [fn_La_law_28]
    refine V_iload hX (j := 5) (hj := rfl) 0 30 rfl rfl ?_
    refine V_aload_n hX (j := 0) (hj := rfl) 1 31 rfl rfl ?_
    refine V_slen9 hX hSc 2 32 rfl rfl ?_
    refine V_iconst hX (v := 4) (hv := by decide) 3 33 rfl rfl ?_
    refine V_isub hX 4 34 rfl rfl ?_
    refine V_icmp_gt hX 5 37 3932 rfl rfl (by decide) (fun c34 => ?_) (fun c34 => ?_)
    · refine V_iconst hX (v := 1) (hv := by decide) 12 3933 rfl rfl ?_
      exact V_zret hX 13 rfl rfl (by omega) (by omega) rfl
    · refine V_aload_n hX (j := 0) (hj := rfl) 6 38 rfl rfl ?_
      refine V_iload hX (j := 5) (hj := rfl) 7 40 rfl rfl ?_
      refine V_sld hX hSc 8 41 rfl rfl (fun g40 => ?_)
      refine V_bipush hX (v := 63) (hv := by decide) 9 43 rfl rfl ?_
      refine V_iand hX 10 44 rfl rfl ?_
      refine VV_li (fun sw44 hsw44 => ?_)
      refine VV_ite (fun e44_0 => ?_) (fun n44_0 => ?_)
      · refine V_tabIn hX 11 300 0 e44_0 (by decide) rfl (by decide) (by decide) rfl (by decide) ?_
        exact bt_La_law_300 (cx_L hX dec_La_law_300) hSc (fn_La_law_28 xs sl n) v5 c9 s9 (ih (c9 + 85) (s9 + 11934) (by omega) (by omega)) (by omega) (by omega) M
      refine VV_ite (fun e44_1 => ?_) (fun n44_1 => ?_)
      · refine V_tabIn hX 11 368 1 e44_1 (by decide) rfl (by decide) (by decide) rfl (by decide) ?_
        exact bt_La_law_368 (cx_L hX dec_La_law_368) hSc (fn_La_law_28 xs sl n) v5 c9 s9 (ih (c9 + 85) (s9 + 11934) (by omega) (by omega)) (by omega) (by omega) M
      refine VV_ite (fun e44_2 => ?_) (fun n44_2 => ?_)
      · refine V_tabIn hX 11 448 2 e44_2 (by decide) rfl (by decide) (by decide) rfl (by decide) ?_
        exact bt_La_law_448 (cx_L hX dec_La_law_448) hSc (fn_La_law_28 xs sl n) v5 c9 s9 (ih (c9 + 85) (s9 + 11934) (by omega) (by omega)) (by omega) (by omega) M
      refine VV_ite (fun e44_3 => ?_) (fun n44_3 => ?_)
      · refine V_tabIn hX 11 516 3 e44_3 (by decide) rfl (by decide) (by decide) rfl (by decide) ?_
        exact bt_La_law_516 (cx_L hX dec_La_law_516) hSc (fn_La_law_28 xs sl n) v5 c9 s9 (ih (c9 + 85) (s9 + 11934) (by omega) (by omega)) (by omega) (by omega) M
      refine VV_ite (fun e44_4 => ?_) (fun n44_4 => ?_)
      · refine V_tabIn hX 11 584 4 e44_4 (by decide) rfl (by decide) (by decide) rfl (by decide) ?_
        exact bt_La_law_584 (cx_L hX dec_La_law_584) hSc (fn_La_law_28 xs sl n) v5 c9 s9 (ih (c9 + 85) (s9 + 11934) (by omega) (by omega)) (by omega) (by omega) M
      refine VV_ite (fun e44_5 => ?_) (fun n44_5 => ?_)
      · refine V_tabIn hX 11 640 5 e44_5 (by decide) rfl (by decide) (by decide) rfl (by decide) ?_
        exact bt_La_law_640 (cx_L hX dec_La_law_640) hSc (fn_La_law_28 xs sl n) v5 c9 s9 (ih (c9 + 85) (s9 + 11934) (by omega) (by omega)) (by omega) (by omega) M
      refine VV_ite (fun e44_6 => ?_) (fun n44_6 => ?_)
      · refine V_tabIn hX 11 708 6 e44_6 (by decide) rfl (by decide) (by decide) rfl (by decide) ?_
        exact bt_La_law_708 (cx_L hX dec_La_law_708) hSc (fn_La_law_28 xs sl n) v5 c9 s9 (ih (c9 + 85) (s9 + 11934) (by omega) (by omega)) (by omega) (by omega) M
      refine VV_ite (fun e44_7 => ?_) (fun n44_7 => ?_)
      · refine V_tabIn hX 11 776 7 e44_7 (by decide) rfl (by decide) (by decide) rfl (by decide) ?_
        exact bt_La_law_776 (cx_L hX dec_La_law_776) hSc (fn_La_law_28 xs sl n) v5 c9 s9 (ih (c9 + 85) (s9 + 11934) (by omega) (by omega)) (by omega) (by omega) M
      refine VV_ite (fun e44_8 => ?_) (fun n44_8 => ?_)
      · refine V_tabIn hX 11 832 8 e44_8 (by decide) rfl (by decide) (by decide) rfl (by decide) ?_
        exact bt_La_law_832 (cx_L hX dec_La_law_832) hSc (fn_La_law_28 xs sl n) v5 c9 s9 (ih (c9 + 85) (s9 + 11934) (by omega) (by omega)) (by omega) (by omega) M
      refine VV_ite (fun e44_9 => ?_) (fun n44_9 => ?_)
      · refine V_tabIn hX 11 912 9 e44_9 (by decide) rfl (by decide) (by decide) rfl (by decide) ?_
        exact bt_La_law_912 (cx_L hX dec_La_law_912) hSc (fn_La_law_28 xs sl n) v5 c9 s9 (ih (c9 + 85) (s9 + 11934) (by omega) (by omega)) (by omega) (by omega) M
      refine VV_ite (fun e44_10 => ?_) (fun n44_10 => ?_)
      · refine V_tabIn hX 11 968 10 e44_10 (by decide) rfl (by decide) (by decide) rfl (by decide) ?_
        exact bt_La_law_968 (cx_L hX dec_La_law_968) hSc (fn_La_law_28 xs sl n) v5 c9 s9 (ih (c9 + 85) (s9 + 11934) (by omega) (by omega)) (by omega) (by omega) M
      refine VV_ite (fun e44_11 => ?_) (fun n44_11 => ?_)
      · refine V_tabIn hX 11 1036 11 e44_11 (by decide) rfl (by decide) (by decide) rfl (by decide) ?_
        exact bt_La_law_1036 (cx_L hX dec_La_law_1036) hSc (fn_La_law_28 xs sl n) v5 c9 s9 (ih (c9 + 85) (s9 + 11934) (by omega) (by omega)) (by omega) (by omega) M
      refine VV_ite (fun e44_12 => ?_) (fun n44_12 => ?_)
      · refine V_tabIn hX 11 1116 12 e44_12 (by decide) rfl (by decide) (by decide) rfl (by decide) ?_
        exact bt_La_law_1116 (cx_L hX dec_La_law_1116) hSc (fn_La_law_28 xs sl n) v5 c9 s9 (ih (c9 + 85) (s9 + 11934) (by omega) (by omega)) (by omega) (by omega) M
      refine VV_ite (fun e44_13 => ?_) (fun n44_13 => ?_)
      · refine V_tabIn hX 11 1196 13 e44_13 (by decide) rfl (by decide) (by decide) rfl (by decide) ?_
        exact bt_La_law_1196 (cx_L hX dec_La_law_1196) hSc (fn_La_law_28 xs sl n) v5 c9 s9 (ih (c9 + 85) (s9 + 11934) (by omega) (by omega)) (by omega) (by omega) M
      refine VV_ite (fun e44_14 => ?_) (fun n44_14 => ?_)
      · refine V_tabIn hX 11 1276 14 e44_14 (by decide) rfl (by decide) (by decide) rfl (by decide) ?_
        exact bt_La_law_1276 (cx_L hX dec_La_law_1276) hSc (fn_La_law_28 xs sl n) v5 c9 s9 (ih (c9 + 85) (s9 + 11934) (by omega) (by omega)) (by omega) (by omega) M
      refine VV_ite (fun e44_15 => ?_) (fun n44_15 => ?_)
      · refine V_tabIn hX 11 1356 15 e44_15 (by decide) rfl (by decide) (by decide) rfl (by decide) ?_
        exact bt_La_law_1356 (cx_L hX dec_La_law_1356) hSc (fn_La_law_28 xs sl n) v5 c9 s9 (ih (c9 + 85) (s9 + 11934) (by omega) (by omega)) (by omega) (by omega) M
      refine VV_ite (fun e44_16 => ?_) (fun n44_16 => ?_)
      · refine V_tabIn hX 11 1424 16 e44_16 (by decide) rfl (by decide) (by decide) rfl (by decide) ?_
        exact bt_La_law_1424 (cx_L hX dec_La_law_1424) hSc (fn_La_law_28 xs sl n) v5 c9 s9 (ih (c9 + 85) (s9 + 11934) (by omega) (by omega)) (by omega) (by omega) M
      refine VV_ite (fun e44_17 => ?_) (fun n44_17 => ?_)
      · refine V_tabIn hX 11 1492 17 e44_17 (by decide) rfl (by decide) (by decide) rfl (by decide) ?_
        exact bt_La_law_1492 (cx_L hX dec_La_law_1492) hSc (fn_La_law_28 xs sl n) v5 c9 s9 (ih (c9 + 85) (s9 + 11934) (by omega) (by omega)) (by omega) (by omega) M
      refine VV_ite (fun e44_18 => ?_) (fun n44_18 => ?_)
      · refine V_tabIn hX 11 1569 18 e44_18 (by decide) rfl (by decide) (by decide) rfl (by decide) ?_
        exact bt_La_law_1569 (cx_L hX dec_La_law_1569) hSc (fn_La_law_28 xs sl n) v5 c9 s9 (ih (c9 + 85) (s9 + 11934) (by omega) (by omega)) (by omega) (by omega) M
      refine VV_ite (fun e44_19 => ?_) (fun n44_19 => ?_)
      · refine V_tabIn hX 11 1649 19 e44_19 (by decide) rfl (by decide) (by decide) rfl (by decide) ?_
        exact bt_La_law_1649 (cx_L hX dec_La_law_1649) hSc (fn_La_law_28 xs sl n) v5 c9 s9 (ih (c9 + 85) (s9 + 11934) (by omega) (by omega)) (by omega) (by omega) M
      refine VV_ite (fun e44_20 => ?_) (fun n44_20 => ?_)
      · refine V_tabIn hX 11 1729 20 e44_20 (by decide) rfl (by decide) (by decide) rfl (by decide) ?_
        exact bt_La_law_1729 (cx_L hX dec_La_law_1729) hSc (fn_La_law_28 xs sl n) v5 c9 s9 (ih (c9 + 85) (s9 + 11934) (by omega) (by omega)) (by omega) (by omega) M
      refine VV_ite (fun e44_21 => ?_) (fun n44_21 => ?_)
      · refine V_tabIn hX 11 1797 21 e44_21 (by decide) rfl (by decide) (by decide) rfl (by decide) ?_
        exact bt_La_law_1797 (cx_L hX dec_La_law_1797) hSc (fn_La_law_28 xs sl n) v5 c9 s9 (ih (c9 + 85) (s9 + 11934) (by omega) (by omega)) (by omega) (by omega) M
      refine VV_ite (fun e44_22 => ?_) (fun n44_22 => ?_)
      · refine V_tabIn hX 11 1865 22 e44_22 (by decide) rfl (by decide) (by decide) rfl (by decide) ?_
        exact bt_La_law_1865 (cx_L hX dec_La_law_1865) hSc (fn_La_law_28 xs sl n) v5 c9 s9 (ih (c9 + 85) (s9 + 11934) (by omega) (by omega)) (by omega) (by omega) M
      refine VV_ite (fun e44_23 => ?_) (fun n44_23 => ?_)
      · refine V_tabIn hX 11 1921 23 e44_23 (by decide) rfl (by decide) (by decide) rfl (by decide) ?_
        exact bt_La_law_1921 (cx_L hX dec_La_law_1921) hSc (fn_La_law_28 xs sl n) v5 c9 s9 (ih (c9 + 85) (s9 + 11934) (by omega) (by omega)) (by omega) (by omega) M
      refine VV_ite (fun e44_24 => ?_) (fun n44_24 => ?_)
      · refine V_tabIn hX 11 1996 24 e44_24 (by decide) rfl (by decide) (by decide) rfl (by decide) ?_
        exact bt_La_law_1996 (cx_L hX dec_La_law_1996) hSc (fn_La_law_28 xs sl n) v5 c9 s9 (ih (c9 + 85) (s9 + 11934) (by omega) (by omega)) (by omega) (by omega) M
      refine VV_ite (fun e44_25 => ?_) (fun n44_25 => ?_)
      · refine V_tabIn hX 11 2064 25 e44_25 (by decide) rfl (by decide) (by decide) rfl (by decide) ?_
        exact bt_La_law_2064 (cx_L hX dec_La_law_2064) hSc (fn_La_law_28 xs sl n) v5 c9 s9 (ih (c9 + 85) (s9 + 11934) (by omega) (by omega)) (by omega) (by omega) M
      refine VV_ite (fun e44_26 => ?_) (fun n44_26 => ?_)
      · refine V_tabIn hX 11 2132 26 e44_26 (by decide) rfl (by decide) (by decide) rfl (by decide) ?_
        exact bt_La_law_2132 (cx_L hX dec_La_law_2132) hSc (fn_La_law_28 xs sl n) v5 c9 s9 (ih (c9 + 85) (s9 + 11934) (by omega) (by omega)) (by omega) (by omega) M
      refine VV_ite (fun e44_27 => ?_) (fun n44_27 => ?_)
      · refine V_tabIn hX 11 2200 27 e44_27 (by decide) rfl (by decide) (by decide) rfl (by decide) ?_
        exact bt_La_law_2200 (cx_L hX dec_La_law_2200) hSc (fn_La_law_28 xs sl n) v5 c9 s9 (ih (c9 + 85) (s9 + 11934) (by omega) (by omega)) (by omega) (by omega) M
      refine VV_ite (fun e44_28 => ?_) (fun n44_28 => ?_)
      · refine V_tabIn hX 11 2256 28 e44_28 (by decide) rfl (by decide) (by decide) rfl (by decide) ?_
        exact bt_La_law_2256 (cx_L hX dec_La_law_2256) hSc (fn_La_law_28 xs sl n) v5 c9 s9 (ih (c9 + 85) (s9 + 11934) (by omega) (by omega)) (by omega) (by omega) M
      refine VV_ite (fun e44_29 => ?_) (fun n44_29 => ?_)
      · refine V_tabIn hX 11 2312 29 e44_29 (by decide) rfl (by decide) (by decide) rfl (by decide) ?_
        exact bt_La_law_2312 (cx_L hX dec_La_law_2312) hSc (fn_La_law_28 xs sl n) v5 c9 s9 (ih (c9 + 85) (s9 + 11934) (by omega) (by omega)) (by omega) (by omega) M
      refine VV_ite (fun e44_30 => ?_) (fun n44_30 => ?_)
      · refine V_tabIn hX 11 2368 30 e44_30 (by decide) rfl (by decide) (by decide) rfl (by decide) ?_
        exact bt_La_law_2368 (cx_L hX dec_La_law_2368) hSc (fn_La_law_28 xs sl n) v5 c9 s9 (ih (c9 + 85) (s9 + 11934) (by omega) (by omega)) (by omega) (by omega) M
      refine VV_ite (fun e44_31 => ?_) (fun n44_31 => ?_)
      · refine V_tabIn hX 11 2424 31 e44_31 (by decide) rfl (by decide) (by decide) rfl (by decide) ?_
        exact bt_La_law_2424 (cx_L hX dec_La_law_2424) hSc (fn_La_law_28 xs sl n) v5 c9 s9 (ih (c9 + 85) (s9 + 11934) (by omega) (by omega)) (by omega) (by omega) M
      refine VV_ite (fun e44_32 => ?_) (fun n44_32 => ?_)
      · refine V_tabIn hX 11 2480 32 e44_32 (by decide) rfl (by decide) (by decide) rfl (by decide) ?_
        exact bt_La_law_2480 (cx_L hX dec_La_law_2480) hSc (fn_La_law_28 xs sl n) v5 c9 s9 (ih (c9 + 85) (s9 + 11934) (by omega) (by omega)) (by omega) (by omega) M
      refine VV_ite (fun e44_33 => ?_) (fun n44_33 => ?_)
      · refine V_tabIn hX 11 2536 33 e44_33 (by decide) rfl (by decide) (by decide) rfl (by decide) ?_
        exact bt_La_law_2536 (cx_L hX dec_La_law_2536) hSc (fn_La_law_28 xs sl n) v5 c9 s9 (ih (c9 + 85) (s9 + 11934) (by omega) (by omega)) (by omega) (by omega) M
      refine VV_ite (fun e44_34 => ?_) (fun n44_34 => ?_)
      · refine V_tabIn hX 11 2592 34 e44_34 (by decide) rfl (by decide) (by decide) rfl (by decide) ?_
        exact bt_La_law_2592 (cx_L hX dec_La_law_2592) hSc (fn_La_law_28 xs sl n) v5 c9 s9 (ih (c9 + 85) (s9 + 11934) (by omega) (by omega)) (by omega) (by omega) M
      refine VV_ite (fun e44_35 => ?_) (fun n44_35 => ?_)
      · refine V_tabIn hX 11 2648 35 e44_35 (by decide) rfl (by decide) (by decide) rfl (by decide) ?_
        exact bt_La_law_2648 (cx_L hX dec_La_law_2648) hSc (fn_La_law_28 xs sl n) v5 c9 s9 (ih (c9 + 85) (s9 + 11934) (by omega) (by omega)) (by omega) (by omega) M
      refine VV_ite (fun e44_36 => ?_) (fun n44_36 => ?_)
      · refine V_tabIn hX 11 2716 36 e44_36 (by decide) rfl (by decide) (by decide) rfl (by decide) ?_
        exact bt_La_law_2716 (cx_L hX dec_La_law_2716) hSc (fn_La_law_28 xs sl n) v5 c9 s9 (ih (c9 + 85) (s9 + 11934) (by omega) (by omega)) (by omega) (by omega) M
      refine VV_ite (fun e44_37 => ?_) (fun n44_37 => ?_)
      · refine V_tabIn hX 11 2784 37 e44_37 (by decide) rfl (by decide) (by decide) rfl (by decide) ?_
        exact bt_La_law_2784 (cx_L hX dec_La_law_2784) hSc (fn_La_law_28 xs sl n) v5 c9 s9 (ih (c9 + 85) (s9 + 11934) (by omega) (by omega)) (by omega) (by omega) M
      refine VV_ite (fun e44_38 => ?_) (fun n44_38 => ?_)
      · refine V_tabIn hX 11 2852 38 e44_38 (by decide) rfl (by decide) (by decide) rfl (by decide) ?_
        exact bt_La_law_2852 (cx_L hX dec_La_law_2852) hSc (fn_La_law_28 xs sl n) v5 c9 s9 (ih (c9 + 85) (s9 + 11934) (by omega) (by omega)) (by omega) (by omega) M
      refine VV_ite (fun e44_39 => ?_) (fun n44_39 => ?_)
      · refine V_tabIn hX 11 2920 39 e44_39 (by decide) rfl (by decide) (by decide) rfl (by decide) ?_
        exact bt_La_law_2920 (cx_L hX dec_La_law_2920) hSc (fn_La_law_28 xs sl n) v5 c9 s9 (ih (c9 + 85) (s9 + 11934) (by omega) (by omega)) (by omega) (by omega) M
      refine VV_ite (fun e44_40 => ?_) (fun n44_40 => ?_)
      · refine V_tabIn hX 11 3000 40 e44_40 (by decide) rfl (by decide) (by decide) rfl (by decide) ?_
        exact bt_La_law_3000 (cx_L hX dec_La_law_3000) hSc (fn_La_law_28 xs sl n) v5 c9 s9 (ih (c9 + 85) (s9 + 11934) (by omega) (by omega)) (by omega) (by omega) M
      refine VV_ite (fun e44_41 => ?_) (fun n44_41 => ?_)
      · refine V_tabIn hX 11 3068 41 e44_41 (by decide) rfl (by decide) (by decide) rfl (by decide) ?_
        exact bt_La_law_3068 (cx_L hX dec_La_law_3068) hSc (fn_La_law_28 xs sl n) v5 c9 s9 (ih (c9 + 85) (s9 + 11934) (by omega) (by omega)) (by omega) (by omega) M
      refine VV_ite (fun e44_42 => ?_) (fun n44_42 => ?_)
      · refine V_tabIn hX 11 3136 42 e44_42 (by decide) rfl (by decide) (by decide) rfl (by decide) ?_
        exact bt_La_law_3136 (cx_L hX dec_La_law_3136) hSc (fn_La_law_28 xs sl n) v5 c9 s9 (ih (c9 + 85) (s9 + 11934) (by omega) (by omega)) (by omega) (by omega) M
      refine VV_ite (fun e44_43 => ?_) (fun n44_43 => ?_)
      · refine V_tabIn hX 11 3211 43 e44_43 (by decide) rfl (by decide) (by decide) rfl (by decide) ?_
        exact bt_La_law_3211 (cx_L hX dec_La_law_3211) hSc (fn_La_law_28 xs sl n) v5 c9 s9 (ih (c9 + 85) (s9 + 11934) (by omega) (by omega)) (by omega) (by omega) M
      refine VV_ite (fun e44_44 => ?_) (fun n44_44 => ?_)
      · refine V_tabIn hX 11 3286 44 e44_44 (by decide) rfl (by decide) (by decide) rfl (by decide) ?_
        exact bt_La_law_3286 (cx_L hX dec_La_law_3286) hSc (fn_La_law_28 xs sl n) v5 c9 s9 (ih (c9 + 85) (s9 + 11934) (by omega) (by omega)) (by omega) (by omega) M
      refine VV_ite (fun e44_45 => ?_) (fun n44_45 => ?_)
      · refine V_tabIn hX 11 3349 45 e44_45 (by decide) rfl (by decide) (by decide) rfl (by decide) ?_
        exact bt_La_law_3349 (cx_L hX dec_La_law_3349) hSc (fn_La_law_28 xs sl n) v5 c9 s9 (ih (c9 + 85) (s9 + 11934) (by omega) (by omega)) (by omega) (by omega) M
      refine VV_ite (fun e44_46 => ?_) (fun n44_46 => ?_)
      · refine V_tabIn hX 11 3362 46 e44_46 (by decide) rfl (by decide) (by decide) rfl (by decide) ?_
        exact bt_La_law_3362 (cx_L hX dec_La_law_3362) hSc (fn_La_law_28 xs sl n) v5 c9 s9 (ih (c9 + 85) (s9 + 11934) (by omega) (by omega)) (by omega) (by omega) M
      refine VV_ite (fun e44_47 => ?_) (fun n44_47 => ?_)
      · refine V_tabIn hX 11 3375 47 e44_47 (by decide) rfl (by decide) (by decide) rfl (by decide) ?_
        exact bt_La_law_3375 (cx_L hX dec_La_law_3375) hSc (fn_La_law_28 xs sl n) v5 c9 s9 (ih (c9 + 85) (s9 + 11934) (by omega) (by omega)) (by omega) (by omega) M
      refine VV_ite (fun e44_48 => ?_) (fun n44_48 => ?_)
      · refine V_tabIn hX 11 3441 48 e44_48 (by decide) rfl (by decide) (by decide) rfl (by decide) ?_
        exact bt_La_law_3441 (cx_L hX dec_La_law_3441) hSc (fn_La_law_28 xs sl n) v5 c9 s9 (ih (c9 + 85) (s9 + 11934) (by omega) (by omega)) (by omega) (by omega) M
      refine VV_ite (fun e44_49 => ?_) (fun n44_49 => ?_)
      · refine V_tabIn hX 11 3454 49 e44_49 (by decide) rfl (by decide) (by decide) rfl (by decide) ?_
        exact bt_La_law_3454 (cx_L hX dec_La_law_3454) hSc (fn_La_law_28 xs sl n) v5 c9 s9 (ih (c9 + 85) (s9 + 11934) (by omega) (by omega)) (by omega) (by omega) M
      refine VV_ite (fun e44_50 => ?_) (fun n44_50 => ?_)
      · refine V_tabIn hX 11 3510 50 e44_50 (by decide) rfl (by decide) (by decide) rfl (by decide) ?_
        exact bt_La_law_3510 (cx_L hX dec_La_law_3510) hSc (fn_La_law_28 xs sl n) v5 c9 s9 (ih (c9 + 85) (s9 + 11934) (by omega) (by omega)) (by omega) (by omega) M
      refine VV_ite (fun e44_51 => ?_) (fun n44_51 => ?_)
      · refine V_tabIn hX 11 3566 51 e44_51 (by decide) rfl (by decide) (by decide) rfl (by decide) ?_
        exact bt_La_law_3566 (cx_L hX dec_La_law_3566) hSc (fn_La_law_28 xs sl n) v5 c9 s9 (ih (c9 + 85) (s9 + 11934) (by omega) (by omega)) (by omega) (by omega) M
      refine VV_ite (fun e44_52 => ?_) (fun n44_52 => ?_)
      · refine V_tabIn hX 11 3622 52 e44_52 (by decide) rfl (by decide) (by decide) rfl (by decide) ?_
        exact bt_La_law_3622 (cx_L hX dec_La_law_3622) hSc (fn_La_law_28 xs sl n) v5 c9 s9 (ih (c9 + 85) (s9 + 11934) (by omega) (by omega)) (by omega) (by omega) M
      refine VV_ite (fun e44_53 => ?_) (fun n44_53 => ?_)
      · refine V_tabIn hX 11 3680 53 e44_53 (by decide) rfl (by decide) (by decide) rfl (by decide) ?_
        exact bt_La_law_3680 (cx_L hX dec_La_law_3680) hSc (fn_La_law_28 xs sl n) v5 c9 s9 (ih (c9 + 85) (s9 + 11934) (by omega) (by omega)) (by omega) (by omega) M
      refine VV_ite (fun e44_54 => ?_) (fun n44_54 => ?_)
      · refine V_tabIn hX 11 3724 54 e44_54 (by decide) rfl (by decide) (by decide) rfl (by decide) ?_
        exact bt_La_law_3724 (cx_L hX dec_La_law_3724) hSc (fn_La_law_28 xs sl n) v5 c9 s9 (ih (c9 + 85) (s9 + 11934) (by omega) (by omega)) (by omega) (by omega) M
      refine VV_ite (fun e44_55 => ?_) (fun n44_55 => ?_)
      · refine V_tabIn hX 11 3768 55 e44_55 (by decide) rfl (by decide) (by decide) rfl (by decide) ?_
        exact bt_La_law_3768 (cx_L hX dec_La_law_3768) hSc (fn_La_law_28 xs sl n) v5 c9 s9 (ih (c9 + 85) (s9 + 11934) (by omega) (by omega)) (by omega) (by omega) M
      refine VV_ite (fun e44_56 => ?_) (fun n44_56 => ?_)
      · refine V_tabIn hX 11 3812 56 e44_56 (by decide) rfl (by decide) (by decide) rfl (by decide) ?_
        exact bt_La_law_3812 (cx_L hX dec_La_law_3812) hSc (fn_La_law_28 xs sl n) v5 c9 s9 (ih (c9 + 85) (s9 + 11934) (by omega) (by omega)) (by omega) (by omega) M
      refine VV_ite (fun e44_57 => ?_) (fun n44_57 => ?_)
      · refine V_tabIn hX 11 3825 57 e44_57 (by decide) rfl (by decide) (by decide) rfl (by decide) ?_
        exact bt_La_law_3825 (cx_L hX dec_La_law_3825) hSc (fn_La_law_28 xs sl n) v5 c9 s9 (ih (c9 + 85) (s9 + 11934) (by omega) (by omega)) (by omega) (by omega) M
      refine VV_ite (fun e44_58 => ?_) (fun n44_58 => ?_)
      · refine V_tabIn hX 11 3869 58 e44_58 (by decide) rfl (by decide) (by decide) rfl (by decide) ?_
        exact bt_La_law_3869 (cx_L hX dec_La_law_3869) hSc (fn_La_law_28 xs sl n) v5 c9 s9 (ih (c9 + 85) (s9 + 11934) (by omega) (by omega)) (by omega) (by omega) M
      refine VV_ite (fun e44_59 => ?_) (fun n44_59 => ?_)
      · refine V_tabIn hX 11 3882 59 e44_59 (by decide) rfl (by decide) (by decide) rfl (by decide) ?_
        exact bt_La_law_3882 (cx_L hX dec_La_law_3882) hSc (fn_La_law_28 xs sl n) v5 c9 s9 (ih (c9 + 85) (s9 + 11934) (by omega) (by omega)) (by omega) (by omega) M
      refine V_tabOut hX 11 3926 rfl (by have a0 := zz_ne (0) (by decide) n44_0; have a1 := zz_ne (1) (by decide) n44_1; have a2 := zz_ne (2) (by decide) n44_2; have a3 := zz_ne (3) (by decide) n44_3; have a4 := zz_ne (4) (by decide) n44_4; have a5 := zz_ne (5) (by decide) n44_5; have a6 := zz_ne (6) (by decide) n44_6; have a7 := zz_ne (7) (by decide) n44_7; have a8 := zz_ne (8) (by decide) n44_8; have a9 := zz_ne (9) (by decide) n44_9; have a10 := zz_ne (10) (by decide) n44_10; have a11 := zz_ne (11) (by decide) n44_11; have a12 := zz_ne (12) (by decide) n44_12; have a13 := zz_ne (13) (by decide) n44_13; have a14 := zz_ne (14) (by decide) n44_14; have a15 := zz_ne (15) (by decide) n44_15; have a16 := zz_ne (16) (by decide) n44_16; have a17 := zz_ne (17) (by decide) n44_17; have a18 := zz_ne (18) (by decide) n44_18; have a19 := zz_ne (19) (by decide) n44_19; have a20 := zz_ne (20) (by decide) n44_20; have a21 := zz_ne (21) (by decide) n44_21; have a22 := zz_ne (22) (by decide) n44_22; have a23 := zz_ne (23) (by decide) n44_23; have a24 := zz_ne (24) (by decide) n44_24; have a25 := zz_ne (25) (by decide) n44_25; have a26 := zz_ne (26) (by decide) n44_26; have a27 := zz_ne (27) (by decide) n44_27; have a28 := zz_ne (28) (by decide) n44_28; have a29 := zz_ne (29) (by decide) n44_29; have a30 := zz_ne (30) (by decide) n44_30; have a31 := zz_ne (31) (by decide) n44_31; have a32 := zz_ne (32) (by decide) n44_32; have a33 := zz_ne (33) (by decide) n44_33; have a34 := zz_ne (34) (by decide) n44_34; have a35 := zz_ne (35) (by decide) n44_35; have a36 := zz_ne (36) (by decide) n44_36; have a37 := zz_ne (37) (by decide) n44_37; have a38 := zz_ne (38) (by decide) n44_38; have a39 := zz_ne (39) (by decide) n44_39; have a40 := zz_ne (40) (by decide) n44_40; have a41 := zz_ne (41) (by decide) n44_41; have a42 := zz_ne (42) (by decide) n44_42; have a43 := zz_ne (43) (by decide) n44_43; have a44 := zz_ne (44) (by decide) n44_44; have a45 := zz_ne (45) (by decide) n44_45; have a46 := zz_ne (46) (by decide) n44_46; have a47 := zz_ne (47) (by decide) n44_47; have a48 := zz_ne (48) (by decide) n44_48; have a49 := zz_ne (49) (by decide) n44_49; have a50 := zz_ne (50) (by decide) n44_50; have a51 := zz_ne (51) (by decide) n44_51; have a52 := zz_ne (52) (by decide) n44_52; have a53 := zz_ne (53) (by decide) n44_53; have a54 := zz_ne (54) (by decide) n44_54; have a55 := zz_ne (55) (by decide) n44_55; have a56 := zz_ne (56) (by decide) n44_56; have a57 := zz_ne (57) (by decide) n44_57; have a58 := zz_ne (58) (by decide) n44_58; have a59 := zz_ne (59) (by decide) n44_59; omega) (by decide) ?_
      refine VV_wd (c9 + 85) (s9 + 11934) (by omega) (by omega) ?_
      exact bt_La_law_3926 (cx_L hX dec_La_law_3923) hSc (fn_La_law_28 xs sl n) v5 c9 s9 (ih (c9 + 85) (s9 + 11934) (by omega) (by omega)) (by omega) (by omega) M
