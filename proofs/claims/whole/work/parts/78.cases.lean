/-! the cases of the law -/
section LWC
variable {p : Program} {l : Launch} {e : Env} {s : State} {m : MethodId} {below : List Frame} {meth : Method} {c : Code} {D : va_G} {cA : Nat → ClassId} {b L td i : Nat} {xs : Nat → Int32} {adC adR : Nat → Nat} {M N : mm_M}
theorem lw_case_0 (X : lw_X p s m c D cA b L xs td) (hC : adC 1000 = td) (hRR : adR 1000 = td) (hi : i + 6 ≤ L) (hR : Rel M N) (k : ∀ M' N', Rel M' N' → lw_C p l e s m below meth c D b 1262 (lw_lv b adC adR i) [] (mm_w LC adC cA M' ++ mm_w LR adR cA N')) : lw_C p l e s m below meth c D b 192 (lw_lv b adC adR i) [] (mm_w LC adC cA M ++ mm_w LR adR cA N) := by
  obtain ⟨r, M', N', e1, e2, hR'⟩ := op_type hR (xs (i + 1)) (xs (i + 2))
  refine nw_aload X.1 (q := 193) (z := 2) dL_law_192 rfl rfl rfl ?_
  refine lw_ld X (q := 198) (j := 1) dL_law_193 dL_law_194 dL_law_195 dL_law_196 dL_law_197 rfl (by decide) (by omega) ?_
  refine lw_ld X (q := 203) (j := 2) dL_law_198 dL_law_199 dL_law_200 dL_law_201 dL_law_202 rfl (by decide) (by omega) ?_
  refine lc_callI X hC (q := 206) (as := [.int (xs (i + 1)), .int (xs (i + 2))]) (st := []) (T := TX6) (NN := 13) rfl (fX6_type_ok (xs (i + 1)) (xs (i + 2)) M) e1 ms_L_13 rfl rfl ⟨(Nat.le_of_ble_eq_true rfl), (Nat.le_of_ble_eq_true rfl)⟩ (Nat.le_of_ble_eq_true rfl) rfl dL_law_203 rfl ?_
  refine nw_aload X.1 (q := 207) (z := 1) dL_law_206 rfl rfl rfl ?_
  refine lw_ld X (q := 212) (j := 1) dL_law_207 dL_law_208 dL_law_209 dL_law_210 dL_law_211 rfl (by decide) (by omega) ?_
  refine lw_ld X (q := 217) (j := 2) dL_law_212 dL_law_213 dL_law_214 dL_law_215 dL_law_216 rfl (by decide) (by omega) ?_
  refine lr_callI X hRR (q := 220) (as := [.int (xs (i + 1)), .int (xs (i + 2))]) (st := [.int r]) (T := TX7) (NN := 31) rfl (fX7_type_ok (xs (i + 1)) (xs (i + 2)) N) e2 ms_L_17 rfl rfl ⟨(Nat.le_of_ble_eq_true rfl), (Nat.le_of_ble_eq_true rfl)⟩ (Nat.le_of_ble_eq_true rfl) rfl dL_law_217 rfl ?_
  refine nw_eq_t X.1 (tgt := 1262) dL_law_220 rfl ?_
  exact k M' N' hR'
theorem lw_case_1 (X : lw_X p s m c D cA b L xs td) (hC : adC 1000 = td) (hRR : adR 1000 = td) (hi : i + 6 ≤ L) (hR : Rel M N) (k : ∀ M' N', Rel M' N' → lw_C p l e s m below meth c D b 1262 (lw_lv b adC adR i) [] (mm_w LC adC cA M' ++ mm_w LR adR cA N')) : lw_C p l e s m below meth c D b 225 (lw_lv b adC adR i) [] (mm_w LC adC cA M ++ mm_w LR adR cA N) := by
  obtain ⟨r, M', N', e1, e2, hR'⟩ := op_wipe hR (xs (i + 1))
  refine nw_aload X.1 (q := 226) (z := 2) dL_law_225 rfl rfl rfl ?_
  refine lw_ld X (q := 231) (j := 1) dL_law_226 dL_law_227 dL_law_228 dL_law_229 dL_law_230 rfl (by decide) (by omega) ?_
  refine lc_callI X hC (q := 234) (as := [.int (xs (i + 1))]) (st := []) (T := TX6) (NN := 13) rfl (fX6_wipe_ok (xs (i + 1)) M) e1 ms_L_18 rfl rfl ⟨(Nat.le_of_ble_eq_true rfl), (Nat.le_of_ble_eq_true rfl)⟩ (Nat.le_of_ble_eq_true rfl) rfl dL_law_231 rfl ?_
  refine nw_aload X.1 (q := 235) (z := 1) dL_law_234 rfl rfl rfl ?_
  refine lw_ld X (q := 240) (j := 1) dL_law_235 dL_law_236 dL_law_237 dL_law_238 dL_law_239 rfl (by decide) (by omega) ?_
  refine lr_callI X hRR (q := 243) (as := [.int (xs (i + 1))]) (st := [.int r]) (T := TX7) (NN := 31) rfl (fX7_wipe_ok (xs (i + 1)) N) e2 ms_L_22 rfl rfl ⟨(Nat.le_of_ble_eq_true rfl), (Nat.le_of_ble_eq_true rfl)⟩ (Nat.le_of_ble_eq_true rfl) rfl dL_law_240 rfl ?_
  refine nw_eq_t X.1 (tgt := 1262) dL_law_243 rfl ?_
  exact k M' N' hR'
theorem lw_case_2 (X : lw_X p s m c D cA b L xs td) (hC : adC 1000 = td) (hRR : adR 1000 = td) (hi : i + 6 ≤ L) (hR : Rel M N) (k : ∀ M' N', Rel M' N' → lw_C p l e s m below meth c D b 1262 (lw_lv b adC adR i) [] (mm_w LC adC cA M' ++ mm_w LR adR cA N')) : lw_C p l e s m below meth c D b 248 (lw_lv b adC adR i) [] (mm_w LC adC cA M ++ mm_w LR adR cA N) := by
  obtain ⟨r, M', N', e1, e2, hR'⟩ := op_undo hR (xs (i + 1))
  refine nw_aload X.1 (q := 249) (z := 2) dL_law_248 rfl rfl rfl ?_
  refine lw_ld X (q := 254) (j := 1) dL_law_249 dL_law_250 dL_law_251 dL_law_252 dL_law_253 rfl (by decide) (by omega) ?_
  refine lc_callI X hC (q := 257) (as := [.int (xs (i + 1))]) (st := []) (T := TX6) (NN := 13) rfl (fX6_undo_ok (xs (i + 1)) M) e1 ms_L_23 rfl rfl ⟨(Nat.le_of_ble_eq_true rfl), (Nat.le_of_ble_eq_true rfl)⟩ (Nat.le_of_ble_eq_true rfl) rfl dL_law_254 rfl ?_
  refine nw_aload X.1 (q := 258) (z := 1) dL_law_257 rfl rfl rfl ?_
  refine lw_ld X (q := 263) (j := 1) dL_law_258 dL_law_259 dL_law_260 dL_law_261 dL_law_262 rfl (by decide) (by omega) ?_
  refine lr_callI X hRR (q := 266) (as := [.int (xs (i + 1))]) (st := [.int r]) (T := TX7) (NN := 31) rfl (fX7_undo_ok (xs (i + 1)) N) e2 ms_L_26 rfl rfl ⟨(Nat.le_of_ble_eq_true rfl), (Nat.le_of_ble_eq_true rfl)⟩ (Nat.le_of_ble_eq_true rfl) rfl dL_law_263 rfl ?_
  refine nw_eq_t X.1 (tgt := 1262) dL_law_266 rfl ?_
  exact k M' N' hR'
theorem lw_case_3 (X : lw_X p s m c D cA b L xs td) (hC : adC 1000 = td) (hRR : adR 1000 = td) (hi : i + 6 ≤ L) (hR : Rel M N) (k : ∀ M' N', Rel M' N' → lw_C p l e s m below meth c D b 1262 (lw_lv b adC adR i) [] (mm_w LC adC cA M' ++ mm_w LR adR cA N')) : lw_C p l e s m below meth c D b 271 (lw_lv b adC adR i) [] (mm_w LC adC cA M ++ mm_w LR adR cA N) := by
  obtain ⟨r, N', e1, e2, hR'⟩ := op_fault hR (xs (i + 1))
  refine nw_aload X.1 (q := 272) (z := 2) dL_law_271 rfl rfl rfl ?_
  refine lw_ld X (q := 277) (j := 1) dL_law_272 dL_law_273 dL_law_274 dL_law_275 dL_law_276 rfl (by decide) (by omega) ?_
  refine lc_callP X hC (q := 280) (as := [.int (xs (i + 1))]) (st := []) (T := TX6) (NN := 13) rfl (fX6_fault_ok (xs (i + 1)) M) e1 ms_L_27 rfl rfl ⟨(Nat.le_of_ble_eq_true rfl), (Nat.le_of_ble_eq_true rfl)⟩ (Nat.le_of_ble_eq_true rfl) rfl dL_law_277 rfl ?_
  refine nw_aload X.1 (q := 281) (z := 1) dL_law_280 rfl rfl rfl ?_
  refine lw_ld X (q := 286) (j := 1) dL_law_281 dL_law_282 dL_law_283 dL_law_284 dL_law_285 rfl (by decide) (by omega) ?_
  refine lr_callI X hRR (q := 289) (as := [.int (xs (i + 1))]) (st := [.int r]) (T := TX7) (NN := 31) rfl (fX7_fault_ok (xs (i + 1)) N) e2 ms_L_30 rfl rfl ⟨(Nat.le_of_ble_eq_true rfl), (Nat.le_of_ble_eq_true rfl)⟩ (Nat.le_of_ble_eq_true rfl) rfl dL_law_286 rfl ?_
  refine nw_eq_t X.1 (tgt := 1262) dL_law_289 rfl ?_
  exact k M N' hR'
theorem lw_case_4 (X : lw_X p s m c D cA b L xs td) (hC : adC 1000 = td) (hRR : adR 1000 = td) (hi : i + 6 ≤ L) (hR : Rel M N) (k : ∀ M' N', Rel M' N' → lw_C p l e s m below meth c D b 1262 (lw_lv b adC adR i) [] (mm_w LC adC cA M' ++ mm_w LR adR cA N')) : lw_C p l e s m below meth c D b 294 (lw_lv b adC adR i) [] (mm_w LC adC cA M ++ mm_w LR adR cA N) := by
  obtain ⟨r, N', e1, e2, hR'⟩ := op_person hR (xs (i + 1)) (xs (i + 2))
  refine nw_aload X.1 (q := 295) (z := 2) dL_law_294 rfl rfl rfl ?_
  refine lw_ld X (q := 300) (j := 1) dL_law_295 dL_law_296 dL_law_297 dL_law_298 dL_law_299 rfl (by decide) (by omega) ?_
  refine lw_ld X (q := 305) (j := 2) dL_law_300 dL_law_301 dL_law_302 dL_law_303 dL_law_304 rfl (by decide) (by omega) ?_
  refine lc_callP X hC (q := 308) (as := [.int (xs (i + 1)), .int (xs (i + 2))]) (st := []) (T := TX6) (NN := 13) rfl (fX6_person_ok (xs (i + 1)) (xs (i + 2)) M) e1 ms_L_31 rfl rfl ⟨(Nat.le_of_ble_eq_true rfl), (Nat.le_of_ble_eq_true rfl)⟩ (Nat.le_of_ble_eq_true rfl) rfl dL_law_305 rfl ?_
  refine nw_aload X.1 (q := 309) (z := 1) dL_law_308 rfl rfl rfl ?_
  refine lw_ld X (q := 314) (j := 1) dL_law_309 dL_law_310 dL_law_311 dL_law_312 dL_law_313 rfl (by decide) (by omega) ?_
  refine lw_ld X (q := 319) (j := 2) dL_law_314 dL_law_315 dL_law_316 dL_law_317 dL_law_318 rfl (by decide) (by omega) ?_
  refine lr_callI X hRR (q := 322) (as := [.int (xs (i + 1)), .int (xs (i + 2))]) (st := [.int r]) (T := TX7) (NN := 31) rfl (fX7_person_ok (xs (i + 1)) (xs (i + 2)) N) e2 ms_L_34 rfl rfl ⟨(Nat.le_of_ble_eq_true rfl), (Nat.le_of_ble_eq_true rfl)⟩ (Nat.le_of_ble_eq_true rfl) rfl dL_law_319 rfl ?_
  refine nw_eq_t X.1 (tgt := 1262) dL_law_322 rfl ?_
  exact k M N' hR'
theorem lw_case_5 (X : lw_X p s m c D cA b L xs td) (hC : adC 1000 = td) (hRR : adR 1000 = td) (hi : i + 6 ≤ L) (hR : Rel M N) (k : ∀ M' N', Rel M' N' → lw_C p l e s m below meth c D b 1262 (lw_lv b adC adR i) [] (mm_w LC adC cA M' ++ mm_w LR adR cA N')) : lw_C p l e s m below meth c D b 327 (lw_lv b adC adR i) [] (mm_w LC adC cA M ++ mm_w LR adR cA N) := by
  obtain ⟨r, N', e1, e2, hR'⟩ := op_word hR (xs (i + 1)) (xs (i + 2))
  refine nw_aload X.1 (q := 328) (z := 2) dL_law_327 rfl rfl rfl ?_
  refine lw_ld X (q := 333) (j := 1) dL_law_328 dL_law_329 dL_law_330 dL_law_331 dL_law_332 rfl (by decide) (by omega) ?_
  refine lw_ld X (q := 338) (j := 2) dL_law_333 dL_law_334 dL_law_335 dL_law_336 dL_law_337 rfl (by decide) (by omega) ?_
  refine lc_callP X hC (q := 341) (as := [.int (xs (i + 1)), .int (xs (i + 2))]) (st := []) (T := TX6) (NN := 13) rfl (fX6_word_ok (xs (i + 1)) (xs (i + 2)) M) e1 ms_L_35 rfl rfl ⟨(Nat.le_of_ble_eq_true rfl), (Nat.le_of_ble_eq_true rfl)⟩ (Nat.le_of_ble_eq_true rfl) rfl dL_law_338 rfl ?_
  refine nw_aload X.1 (q := 342) (z := 1) dL_law_341 rfl rfl rfl ?_
  refine lw_ld X (q := 347) (j := 1) dL_law_342 dL_law_343 dL_law_344 dL_law_345 dL_law_346 rfl (by decide) (by omega) ?_
  refine lw_ld X (q := 352) (j := 2) dL_law_347 dL_law_348 dL_law_349 dL_law_350 dL_law_351 rfl (by decide) (by omega) ?_
  refine lr_callI X hRR (q := 355) (as := [.int (xs (i + 1)), .int (xs (i + 2))]) (st := [.int r]) (T := TX7) (NN := 31) rfl (fX7_word_ok (xs (i + 1)) (xs (i + 2)) N) e2 ms_L_38 rfl rfl ⟨(Nat.le_of_ble_eq_true rfl), (Nat.le_of_ble_eq_true rfl)⟩ (Nat.le_of_ble_eq_true rfl) rfl dL_law_352 rfl ?_
  refine nw_eq_t X.1 (tgt := 1262) dL_law_355 rfl ?_
  exact k M N' hR'
theorem lw_case_6 (X : lw_X p s m c D cA b L xs td) (hC : adC 1000 = td) (hRR : adR 1000 = td) (hi : i + 6 ≤ L) (hR : Rel M N) (k : ∀ M' N', Rel M' N' → lw_C p l e s m below meth c D b 1262 (lw_lv b adC adR i) [] (mm_w LC adC cA M' ++ mm_w LR adR cA N')) : lw_C p l e s m below meth c D b 360 (lw_lv b adC adR i) [] (mm_w LC adC cA M ++ mm_w LR adR cA N) := by
  obtain ⟨r, N', e1, e2, hR'⟩ := op_meeting hR (xs (i + 1)) (xs (i + 2))
  refine nw_aload X.1 (q := 361) (z := 2) dL_law_360 rfl rfl rfl ?_
  refine lw_ld X (q := 366) (j := 1) dL_law_361 dL_law_362 dL_law_363 dL_law_364 dL_law_365 rfl (by decide) (by omega) ?_
  refine lw_ld X (q := 371) (j := 2) dL_law_366 dL_law_367 dL_law_368 dL_law_369 dL_law_370 rfl (by decide) (by omega) ?_
  refine lc_callP X hC (q := 374) (as := [.int (xs (i + 1)), .int (xs (i + 2))]) (st := []) (T := TX6) (NN := 13) rfl (fX6_meeting_ok (xs (i + 1)) (xs (i + 2)) M) e1 ms_L_39 rfl rfl ⟨(Nat.le_of_ble_eq_true rfl), (Nat.le_of_ble_eq_true rfl)⟩ (Nat.le_of_ble_eq_true rfl) rfl dL_law_371 rfl ?_
  refine nw_aload X.1 (q := 375) (z := 1) dL_law_374 rfl rfl rfl ?_
  refine lw_ld X (q := 380) (j := 1) dL_law_375 dL_law_376 dL_law_377 dL_law_378 dL_law_379 rfl (by decide) (by omega) ?_
  refine lw_ld X (q := 385) (j := 2) dL_law_380 dL_law_381 dL_law_382 dL_law_383 dL_law_384 rfl (by decide) (by omega) ?_
  refine lr_callI X hRR (q := 388) (as := [.int (xs (i + 1)), .int (xs (i + 2))]) (st := [.int r]) (T := TX7) (NN := 31) rfl (fX7_meeting_ok (xs (i + 1)) (xs (i + 2)) N) e2 ms_L_42 rfl rfl ⟨(Nat.le_of_ble_eq_true rfl), (Nat.le_of_ble_eq_true rfl)⟩ (Nat.le_of_ble_eq_true rfl) rfl dL_law_385 rfl ?_
  refine nw_eq_t X.1 (tgt := 1262) dL_law_388 rfl ?_
  exact k M N' hR'
theorem lw_case_7 (X : lw_X p s m c D cA b L xs td) (hC : adC 1000 = td) (hRR : adR 1000 = td) (hi : i + 6 ≤ L) (hR : Rel M N) (k : ∀ M' N', Rel M' N' → lw_C p l e s m below meth c D b 1262 (lw_lv b adC adR i) [] (mm_w LC adC cA M' ++ mm_w LR adR cA N')) : lw_C p l e s m below meth c D b 393 (lw_lv b adC adR i) [] (mm_w LC adC cA M ++ mm_w LR adR cA N) := by
  obtain ⟨r, M', N', e1, e2, hR'⟩ := op_echo hR (xs (i + 1)) (xs (i + 2))
  refine nw_aload X.1 (q := 394) (z := 2) dL_law_393 rfl rfl rfl ?_
  refine lw_ld X (q := 399) (j := 1) dL_law_394 dL_law_395 dL_law_396 dL_law_397 dL_law_398 rfl (by decide) (by omega) ?_
  refine lw_ld X (q := 404) (j := 2) dL_law_399 dL_law_400 dL_law_401 dL_law_402 dL_law_403 rfl (by decide) (by omega) ?_
  refine lc_callI X hC (q := 407) (as := [.int (xs (i + 1)), .int (xs (i + 2))]) (st := []) (T := TX6) (NN := 13) rfl (fX6_echo_ok (xs (i + 1)) (xs (i + 2)) M) e1 ms_L_43 rfl rfl ⟨(Nat.le_of_ble_eq_true rfl), (Nat.le_of_ble_eq_true rfl)⟩ (Nat.le_of_ble_eq_true rfl) rfl dL_law_404 rfl ?_
  refine nw_aload X.1 (q := 408) (z := 1) dL_law_407 rfl rfl rfl ?_
  refine lw_ld X (q := 413) (j := 1) dL_law_408 dL_law_409 dL_law_410 dL_law_411 dL_law_412 rfl (by decide) (by omega) ?_
  refine lw_ld X (q := 418) (j := 2) dL_law_413 dL_law_414 dL_law_415 dL_law_416 dL_law_417 rfl (by decide) (by omega) ?_
  refine lr_callI X hRR (q := 421) (as := [.int (xs (i + 1)), .int (xs (i + 2))]) (st := [.int r]) (T := TX7) (NN := 31) rfl (fX7_echo_ok (xs (i + 1)) (xs (i + 2)) N) e2 ms_L_46 rfl rfl ⟨(Nat.le_of_ble_eq_true rfl), (Nat.le_of_ble_eq_true rfl)⟩ (Nat.le_of_ble_eq_true rfl) rfl dL_law_418 rfl ?_
  refine nw_eq_t X.1 (tgt := 1262) dL_law_421 rfl ?_
  exact k M' N' hR'
theorem lw_case_8 (X : lw_X p s m c D cA b L xs td) (hC : adC 1000 = td) (hRR : adR 1000 = td) (hi : i + 6 ≤ L) (hR : Rel M N) (k : ∀ M' N', Rel M' N' → lw_C p l e s m below meth c D b 1262 (lw_lv b adC adR i) [] (mm_w LC adC cA M' ++ mm_w LR adR cA N')) : lw_C p l e s m below meth c D b 426 (lw_lv b adC adR i) [] (mm_w LC adC cA M ++ mm_w LR adR cA N) := by
  obtain ⟨r, M', N', e1, e2, hR'⟩ := op_back hR 
  refine nw_aload X.1 (q := 427) (z := 2) dL_law_426 rfl rfl rfl ?_
  refine lc_callI X hC (q := 430) (as := []) (st := []) (T := TX6) (NN := 13) rfl (fX6_back_ok  M) e1 ms_L_47 rfl rfl ⟨(Nat.le_of_ble_eq_true rfl), (Nat.le_of_ble_eq_true rfl)⟩ (Nat.le_of_ble_eq_true rfl) rfl dL_law_427 rfl ?_
  refine nw_aload X.1 (q := 431) (z := 1) dL_law_430 rfl rfl rfl ?_
  refine lr_callI X hRR (q := 434) (as := []) (st := [.int r]) (T := TX7) (NN := 31) rfl (fX7_back_ok  N) e2 ms_L_51 rfl rfl ⟨(Nat.le_of_ble_eq_true rfl), (Nat.le_of_ble_eq_true rfl)⟩ (Nat.le_of_ble_eq_true rfl) rfl dL_law_431 rfl ?_
  refine nw_eq_t X.1 (tgt := 1262) dL_law_434 rfl ?_
  exact k M' N' hR'
theorem lw_case_9 (X : lw_X p s m c D cA b L xs td) (hC : adC 1000 = td) (hRR : adR 1000 = td) (hi : i + 6 ≤ L) (hR : Rel M N) (k : ∀ M' N', Rel M' N' → lw_C p l e s m below meth c D b 1262 (lw_lv b adC adR i) [] (mm_w LC adC cA M' ++ mm_w LR adR cA N')) : lw_C p l e s m below meth c D b 439 (lw_lv b adC adR i) [] (mm_w LC adC cA M ++ mm_w LR adR cA N) := by
  obtain ⟨r, M', N', e1, e2, hR'⟩ := op_read hR (xs (i + 1))
  refine nw_aload X.1 (q := 440) (z := 2) dL_law_439 rfl rfl rfl ?_
  refine lw_ld X (q := 445) (j := 1) dL_law_440 dL_law_441 dL_law_442 dL_law_443 dL_law_444 rfl (by decide) (by omega) ?_
  refine lc_callI X hC (q := 448) (as := [.int (xs (i + 1))]) (st := []) (T := TX6) (NN := 13) rfl (fX6_read_ok (xs (i + 1)) M) e1 ms_L_52 rfl rfl ⟨(Nat.le_of_ble_eq_true rfl), (Nat.le_of_ble_eq_true rfl)⟩ (Nat.le_of_ble_eq_true rfl) rfl dL_law_445 rfl ?_
  refine nw_aload X.1 (q := 449) (z := 1) dL_law_448 rfl rfl rfl ?_
  refine lw_ld X (q := 454) (j := 1) dL_law_449 dL_law_450 dL_law_451 dL_law_452 dL_law_453 rfl (by decide) (by omega) ?_
  refine lr_callI X hRR (q := 457) (as := [.int (xs (i + 1))]) (st := [.int r]) (T := TX7) (NN := 31) rfl (fX7_read_ok (xs (i + 1)) N) e2 ms_L_55 rfl rfl ⟨(Nat.le_of_ble_eq_true rfl), (Nat.le_of_ble_eq_true rfl)⟩ (Nat.le_of_ble_eq_true rfl) rfl dL_law_454 rfl ?_
  refine nw_eq_t X.1 (tgt := 1262) dL_law_457 rfl ?_
  exact k M' N' hR'
theorem lw_case_10 (X : lw_X p s m c D cA b L xs td) (hC : adC 1000 = td) (hRR : adR 1000 = td) (hi : i + 6 ≤ L) (hR : Rel M N) (k : ∀ M' N', Rel M' N' → lw_C p l e s m below meth c D b 1262 (lw_lv b adC adR i) [] (mm_w LC adC cA M' ++ mm_w LR adR cA N')) : lw_C p l e s m below meth c D b 462 (lw_lv b adC adR i) [] (mm_w LC adC cA M ++ mm_w LR adR cA N) := by
  obtain ⟨r, M', N', e1, e2, hR'⟩ := op_stands hR (xs (i + 1)) (xs (i + 2)) (xs (i + 3))
  refine nw_aload X.1 (q := 463) (z := 2) dL_law_462 rfl rfl rfl ?_
  refine lw_ld X (q := 468) (j := 1) dL_law_463 dL_law_464 dL_law_465 dL_law_466 dL_law_467 rfl (by decide) (by omega) ?_
  refine lw_ld X (q := 473) (j := 2) dL_law_468 dL_law_469 dL_law_470 dL_law_471 dL_law_472 rfl (by decide) (by omega) ?_
  refine lw_ld X (q := 478) (j := 3) dL_law_473 dL_law_474 dL_law_475 dL_law_476 dL_law_477 rfl (by decide) (by omega) ?_
  refine lc_callI X hC (q := 481) (as := [.int (xs (i + 1)), .int (xs (i + 2)), .int (xs (i + 3))]) (st := []) (T := TX6) (NN := 13) rfl (fX6_stands_ok (xs (i + 1)) (xs (i + 2)) (xs (i + 3)) M) e1 ms_L_56 rfl rfl ⟨(Nat.le_of_ble_eq_true rfl), (Nat.le_of_ble_eq_true rfl)⟩ (Nat.le_of_ble_eq_true rfl) rfl dL_law_478 rfl ?_
  refine nw_aload X.1 (q := 482) (z := 1) dL_law_481 rfl rfl rfl ?_
  refine lw_ld X (q := 487) (j := 1) dL_law_482 dL_law_483 dL_law_484 dL_law_485 dL_law_486 rfl (by decide) (by omega) ?_
  refine lw_ld X (q := 492) (j := 2) dL_law_487 dL_law_488 dL_law_489 dL_law_490 dL_law_491 rfl (by decide) (by omega) ?_
  refine lw_ld X (q := 497) (j := 3) dL_law_492 dL_law_493 dL_law_494 dL_law_495 dL_law_496 rfl (by decide) (by omega) ?_
  refine lr_callI X hRR (q := 500) (as := [.int (xs (i + 1)), .int (xs (i + 2)), .int (xs (i + 3))]) (st := [.int r]) (T := TX7) (NN := 31) rfl (fX7_stands_ok (xs (i + 1)) (xs (i + 2)) (xs (i + 3)) N) e2 ms_L_60 rfl rfl ⟨(Nat.le_of_ble_eq_true rfl), (Nat.le_of_ble_eq_true rfl)⟩ (Nat.le_of_ble_eq_true rfl) rfl dL_law_497 rfl ?_
  refine nw_eq_t X.1 (tgt := 1262) dL_law_500 rfl ?_
  exact k M' N' hR'
theorem lw_case_11 (X : lw_X p s m c D cA b L xs td) (hC : adC 1000 = td) (hRR : adR 1000 = td) (hi : i + 6 ≤ L) (hR : Rel M N) (k : ∀ M' N', Rel M' N' → lw_C p l e s m below meth c D b 1262 (lw_lv b adC adR i) [] (mm_w LC adC cA M' ++ mm_w LR adR cA N')) : lw_C p l e s m below meth c D b 505 (lw_lv b adC adR i) [] (mm_w LC adC cA M ++ mm_w LR adR cA N) := by
  obtain ⟨r, M', N', e1, e2, hR'⟩ := op_at hR (xs (i + 1)) (xs (i + 2)) (xs (i + 3))
  refine nw_aload X.1 (q := 506) (z := 2) dL_law_505 rfl rfl rfl ?_
  refine lw_ld X (q := 511) (j := 1) dL_law_506 dL_law_507 dL_law_508 dL_law_509 dL_law_510 rfl (by decide) (by omega) ?_
  refine lw_ld X (q := 516) (j := 2) dL_law_511 dL_law_512 dL_law_513 dL_law_514 dL_law_515 rfl (by decide) (by omega) ?_
  refine lw_ld X (q := 521) (j := 3) dL_law_516 dL_law_517 dL_law_518 dL_law_519 dL_law_520 rfl (by decide) (by omega) ?_
  refine lc_callI X hC (q := 524) (as := [.int (xs (i + 1)), .int (xs (i + 2)), .int (xs (i + 3))]) (st := []) (T := TX6) (NN := 13) rfl (fX6_at_ok (xs (i + 1)) (xs (i + 2)) (xs (i + 3)) M) e1 ms_L_61 rfl rfl ⟨(Nat.le_of_ble_eq_true rfl), (Nat.le_of_ble_eq_true rfl)⟩ (Nat.le_of_ble_eq_true rfl) rfl dL_law_521 rfl ?_
  refine nw_aload X.1 (q := 525) (z := 1) dL_law_524 rfl rfl rfl ?_
  refine lw_ld X (q := 530) (j := 1) dL_law_525 dL_law_526 dL_law_527 dL_law_528 dL_law_529 rfl (by decide) (by omega) ?_
  refine lw_ld X (q := 535) (j := 2) dL_law_530 dL_law_531 dL_law_532 dL_law_533 dL_law_534 rfl (by decide) (by omega) ?_
  refine lw_ld X (q := 540) (j := 3) dL_law_535 dL_law_536 dL_law_537 dL_law_538 dL_law_539 rfl (by decide) (by omega) ?_
  refine lr_callI X hRR (q := 543) (as := [.int (xs (i + 1)), .int (xs (i + 2)), .int (xs (i + 3))]) (st := [.int r]) (T := TX7) (NN := 31) rfl (fX7_at_ok (xs (i + 1)) (xs (i + 2)) (xs (i + 3)) N) e2 ms_L_64 rfl rfl ⟨(Nat.le_of_ble_eq_true rfl), (Nat.le_of_ble_eq_true rfl)⟩ (Nat.le_of_ble_eq_true rfl) rfl dL_law_540 rfl ?_
  refine nw_eq_t X.1 (tgt := 1262) dL_law_543 rfl ?_
  exact k M' N' hR'
theorem lw_case_12 (X : lw_X p s m c D cA b L xs td) (hC : adC 1000 = td) (hRR : adR 1000 = td) (hi : i + 6 ≤ L) (hR : Rel M N) (k : ∀ M' N', Rel M' N' → lw_C p l e s m below meth c D b 1262 (lw_lv b adC adR i) [] (mm_w LC adC cA M' ++ mm_w LR adR cA N')) : lw_C p l e s m below meth c D b 548 (lw_lv b adC adR i) [] (mm_w LC adC cA M ++ mm_w LR adR cA N) := by
  obtain ⟨r, M', N', e1, e2, hR'⟩ := op_clear hR (xs (i + 1))
  refine nw_aload X.1 (q := 549) (z := 2) dL_law_548 rfl rfl rfl ?_
  refine lw_ld X (q := 554) (j := 1) dL_law_549 dL_law_550 dL_law_551 dL_law_552 dL_law_553 rfl (by decide) (by omega) ?_
  refine lc_callI X hC (q := 557) (as := [.int (xs (i + 1))]) (st := []) (T := TX6) (NN := 13) rfl (fX6_clear_ok (xs (i + 1)) M) e1 ms_L_65 rfl rfl ⟨(Nat.le_of_ble_eq_true rfl), (Nat.le_of_ble_eq_true rfl)⟩ (Nat.le_of_ble_eq_true rfl) rfl dL_law_554 rfl ?_
  refine nw_aload X.1 (q := 558) (z := 1) dL_law_557 rfl rfl rfl ?_
  refine lw_ld X (q := 563) (j := 1) dL_law_558 dL_law_559 dL_law_560 dL_law_561 dL_law_562 rfl (by decide) (by omega) ?_
  refine lr_callI X hRR (q := 566) (as := [.int (xs (i + 1))]) (st := [.int r]) (T := TX7) (NN := 31) rfl (fX7_clear_ok (xs (i + 1)) N) e2 ms_L_68 rfl rfl ⟨(Nat.le_of_ble_eq_true rfl), (Nat.le_of_ble_eq_true rfl)⟩ (Nat.le_of_ble_eq_true rfl) rfl dL_law_563 rfl ?_
  refine nw_eq_t X.1 (tgt := 1262) dL_law_566 rfl ?_
  exact k M' N' hR'
theorem lw_case_13 (X : lw_X p s m c D cA b L xs td) (hC : adC 1000 = td) (hRR : adR 1000 = td) (hi : i + 6 ≤ L) (hR : Rel M N) (k : ∀ M' N', Rel M' N' → lw_C p l e s m below meth c D b 1262 (lw_lv b adC adR i) [] (mm_w LC adC cA M' ++ mm_w LR adR cA N')) : lw_C p l e s m below meth c D b 571 (lw_lv b adC adR i) [] (mm_w LC adC cA M ++ mm_w LR adR cA N) := by
  obtain ⟨r, M', N', e1, e2, hR'⟩ := op_bank hR (xs (i + 1))
  refine nw_aload X.1 (q := 572) (z := 2) dL_law_571 rfl rfl rfl ?_
  refine lw_ld X (q := 577) (j := 1) dL_law_572 dL_law_573 dL_law_574 dL_law_575 dL_law_576 rfl (by decide) (by omega) ?_
  refine lc_callI X hC (q := 580) (as := [.int (xs (i + 1))]) (st := []) (T := TX6) (NN := 13) rfl (fX6_bank_ok (xs (i + 1)) M) e1 ms_L_69 rfl rfl ⟨(Nat.le_of_ble_eq_true rfl), (Nat.le_of_ble_eq_true rfl)⟩ (Nat.le_of_ble_eq_true rfl) rfl dL_law_577 rfl ?_
  refine nw_aload X.1 (q := 581) (z := 1) dL_law_580 rfl rfl rfl ?_
  refine lw_ld X (q := 586) (j := 1) dL_law_581 dL_law_582 dL_law_583 dL_law_584 dL_law_585 rfl (by decide) (by omega) ?_
  refine lr_callI X hRR (q := 589) (as := [.int (xs (i + 1))]) (st := [.int r]) (T := TX7) (NN := 31) rfl (fX7_bank_ok (xs (i + 1)) N) e2 ms_L_72 rfl rfl ⟨(Nat.le_of_ble_eq_true rfl), (Nat.le_of_ble_eq_true rfl)⟩ (Nat.le_of_ble_eq_true rfl) rfl dL_law_586 rfl ?_
  refine nw_eq_t X.1 (tgt := 1262) dL_law_589 rfl ?_
  exact k M' N' hR'
theorem lw_case_14 (X : lw_X p s m c D cA b L xs td) (hC : adC 1000 = td) (hRR : adR 1000 = td) (hi : i + 6 ≤ L) (hR : Rel M N) (k : ∀ M' N', Rel M' N' → lw_C p l e s m below meth c D b 1262 (lw_lv b adC adR i) [] (mm_w LC adC cA M' ++ mm_w LR adR cA N')) : lw_C p l e s m below meth c D b 594 (lw_lv b adC adR i) [] (mm_w LC adC cA M ++ mm_w LR adR cA N) := by
  obtain ⟨r, M', N', e1, e2, hR'⟩ := op_ring hR (xs (i + 1)) (xs (i + 2))
  refine nw_aload X.1 (q := 595) (z := 2) dL_law_594 rfl rfl rfl ?_
  refine lw_ld X (q := 600) (j := 1) dL_law_595 dL_law_596 dL_law_597 dL_law_598 dL_law_599 rfl (by decide) (by omega) ?_
  refine lw_ld X (q := 605) (j := 2) dL_law_600 dL_law_601 dL_law_602 dL_law_603 dL_law_604 rfl (by decide) (by omega) ?_
  refine lc_callI X hC (q := 608) (as := [.int (xs (i + 1)), .int (xs (i + 2))]) (st := []) (T := TX6) (NN := 13) rfl (fX6_ring_ok (xs (i + 1)) (xs (i + 2)) M) e1 ms_L_73 rfl rfl ⟨(Nat.le_of_ble_eq_true rfl), (Nat.le_of_ble_eq_true rfl)⟩ (Nat.le_of_ble_eq_true rfl) rfl dL_law_605 rfl ?_
  refine nw_aload X.1 (q := 609) (z := 1) dL_law_608 rfl rfl rfl ?_
  refine lw_ld X (q := 614) (j := 1) dL_law_609 dL_law_610 dL_law_611 dL_law_612 dL_law_613 rfl (by decide) (by omega) ?_
  refine lw_ld X (q := 619) (j := 2) dL_law_614 dL_law_615 dL_law_616 dL_law_617 dL_law_618 rfl (by decide) (by omega) ?_
  refine lr_callI X hRR (q := 622) (as := [.int (xs (i + 1)), .int (xs (i + 2))]) (st := [.int r]) (T := TX7) (NN := 31) rfl (fX7_ring_ok (xs (i + 1)) (xs (i + 2)) N) e2 ms_L_76 rfl rfl ⟨(Nat.le_of_ble_eq_true rfl), (Nat.le_of_ble_eq_true rfl)⟩ (Nat.le_of_ble_eq_true rfl) rfl dL_law_619 rfl ?_
  refine nw_eq_t X.1 (tgt := 1262) dL_law_622 rfl ?_
  exact k M' N' hR'
theorem lw_case_15 (X : lw_X p s m c D cA b L xs td) (hC : adC 1000 = td) (hRR : adR 1000 = td) (hi : i + 6 ≤ L) (hR : Rel M N) (k : ∀ M' N', Rel M' N' → lw_C p l e s m below meth c D b 1262 (lw_lv b adC adR i) [] (mm_w LC adC cA M' ++ mm_w LR adR cA N')) : lw_C p l e s m below meth c D b 627 (lw_lv b adC adR i) [] (mm_w LC adC cA M ++ mm_w LR adR cA N) := by
  obtain ⟨r, M', N', e1, e2, hR'⟩ := op_silent hR 
  refine nw_aload X.1 (q := 628) (z := 2) dL_law_627 rfl rfl rfl ?_
  refine lc_callI X hC (q := 631) (as := []) (st := []) (T := TX6) (NN := 13) rfl (fX6_silent_ok  M) e1 ms_L_77 rfl rfl ⟨(Nat.le_of_ble_eq_true rfl), (Nat.le_of_ble_eq_true rfl)⟩ (Nat.le_of_ble_eq_true rfl) rfl dL_law_628 rfl ?_
  refine nw_aload X.1 (q := 632) (z := 1) dL_law_631 rfl rfl rfl ?_
  refine lr_callI X hRR (q := 635) (as := []) (st := [.int r]) (T := TX7) (NN := 31) rfl (fX7_silent_ok  N) e2 ms_L_80 rfl rfl ⟨(Nat.le_of_ble_eq_true rfl), (Nat.le_of_ble_eq_true rfl)⟩ (Nat.le_of_ble_eq_true rfl) rfl dL_law_632 rfl ?_
  refine nw_eq_t X.1 (tgt := 1262) dL_law_635 rfl ?_
  exact k M' N' hR'
theorem lw_case_16 (X : lw_X p s m c D cA b L xs td) (hC : adC 1000 = td) (hRR : adR 1000 = td) (hi : i + 6 ≤ L) (hR : Rel M N) (k : ∀ M' N', Rel M' N' → lw_C p l e s m below meth c D b 1262 (lw_lv b adC adR i) [] (mm_w LC adC cA M' ++ mm_w LR adR cA N')) : lw_C p l e s m below meth c D b 640 (lw_lv b adC adR i) [] (mm_w LC adC cA M ++ mm_w LR adR cA N) := by
  obtain ⟨r, M', N', e1, e2, hR'⟩ := op_meet hR (xs (i + 1)) (xs (i + 2))
  refine nw_aload X.1 (q := 641) (z := 2) dL_law_640 rfl rfl rfl ?_
  refine lw_ld X (q := 646) (j := 1) dL_law_641 dL_law_642 dL_law_643 dL_law_644 dL_law_645 rfl (by decide) (by omega) ?_
  refine lw_ld X (q := 651) (j := 2) dL_law_646 dL_law_647 dL_law_648 dL_law_649 dL_law_650 rfl (by decide) (by omega) ?_
  refine lc_callI X hC (q := 654) (as := [.int (xs (i + 1)), .int (xs (i + 2))]) (st := []) (T := TX6) (NN := 13) rfl (fX6_meet_ok (xs (i + 1)) (xs (i + 2)) M) e1 ms_L_81 rfl rfl ⟨(Nat.le_of_ble_eq_true rfl), (Nat.le_of_ble_eq_true rfl)⟩ (Nat.le_of_ble_eq_true rfl) rfl dL_law_651 rfl ?_
  refine nw_aload X.1 (q := 655) (z := 1) dL_law_654 rfl rfl rfl ?_
  refine lw_ld X (q := 660) (j := 1) dL_law_655 dL_law_656 dL_law_657 dL_law_658 dL_law_659 rfl (by decide) (by omega) ?_
  refine lw_ld X (q := 665) (j := 2) dL_law_660 dL_law_661 dL_law_662 dL_law_663 dL_law_664 rfl (by decide) (by omega) ?_
  refine lr_callI X hRR (q := 668) (as := [.int (xs (i + 1)), .int (xs (i + 2))]) (st := [.int r]) (T := TX7) (NN := 31) rfl (fX7_meet_ok (xs (i + 1)) (xs (i + 2)) N) e2 ms_L_84 rfl rfl ⟨(Nat.le_of_ble_eq_true rfl), (Nat.le_of_ble_eq_true rfl)⟩ (Nat.le_of_ble_eq_true rfl) rfl dL_law_665 rfl ?_
  refine nw_eq_t X.1 (tgt := 1262) dL_law_668 rfl ?_
  exact k M' N' hR'
theorem lw_case_17 (X : lw_X p s m c D cA b L xs td) (hC : adC 1000 = td) (hRR : adR 1000 = td) (hi : i + 6 ≤ L) (hR : Rel M N) (k : ∀ M' N', Rel M' N' → lw_C p l e s m below meth c D b 1262 (lw_lv b adC adR i) [] (mm_w LC adC cA M' ++ mm_w LR adR cA N')) : lw_C p l e s m below meth c D b 673 (lw_lv b adC adR i) [] (mm_w LC adC cA M ++ mm_w LR adR cA N) := by
  obtain ⟨r, M', N', e1, e2, hR'⟩ := op_live hR (xs (i + 1))
  refine nw_aload X.1 (q := 674) (z := 2) dL_law_673 rfl rfl rfl ?_
  refine lw_ld X (q := 679) (j := 1) dL_law_674 dL_law_675 dL_law_676 dL_law_677 dL_law_678 rfl (by decide) (by omega) ?_
  refine lc_callI X hC (q := 682) (as := [.int (xs (i + 1))]) (st := []) (T := TX6) (NN := 13) rfl (fX6_live_ok (xs (i + 1)) M) e1 ms_L_85 rfl rfl ⟨(Nat.le_of_ble_eq_true rfl), (Nat.le_of_ble_eq_true rfl)⟩ (Nat.le_of_ble_eq_true rfl) rfl dL_law_679 rfl ?_
  refine nw_aload X.1 (q := 683) (z := 1) dL_law_682 rfl rfl rfl ?_
  refine lw_ld X (q := 688) (j := 1) dL_law_683 dL_law_684 dL_law_685 dL_law_686 dL_law_687 rfl (by decide) (by omega) ?_
  refine lr_callI X hRR (q := 691) (as := [.int (xs (i + 1))]) (st := [.int r]) (T := TX7) (NN := 31) rfl (fX7_live_ok (xs (i + 1)) N) e2 ms_L_88 rfl rfl ⟨(Nat.le_of_ble_eq_true rfl), (Nat.le_of_ble_eq_true rfl)⟩ (Nat.le_of_ble_eq_true rfl) rfl dL_law_688 rfl ?_
  refine nw_eq_t X.1 (tgt := 1262) dL_law_691 rfl ?_
  exact k M' N' hR'
theorem lw_case_18 (X : lw_X p s m c D cA b L xs td) (hC : adC 1000 = td) (hRR : adR 1000 = td) (hi : i + 6 ≤ L) (hR : Rel M N) (k : ∀ M' N', Rel M' N' → lw_C p l e s m below meth c D b 1262 (lw_lv b adC adR i) [] (mm_w LC adC cA M' ++ mm_w LR adR cA N')) : lw_C p l e s m below meth c D b 696 (lw_lv b adC adR i) [] (mm_w LC adC cA M ++ mm_w LR adR cA N) := by
  obtain ⟨r, M', N', e1, e2, hR'⟩ := op_voice hR (xs (i + 1))
  refine nw_aload X.1 (q := 697) (z := 2) dL_law_696 rfl rfl rfl ?_
  refine lw_ld X (q := 702) (j := 1) dL_law_697 dL_law_698 dL_law_699 dL_law_700 dL_law_701 rfl (by decide) (by omega) ?_
  refine lc_callI X hC (q := 705) (as := [.int (xs (i + 1))]) (st := []) (T := TX6) (NN := 13) rfl (fX6_voice_ok (xs (i + 1)) M) e1 ms_L_89 rfl rfl ⟨(Nat.le_of_ble_eq_true rfl), (Nat.le_of_ble_eq_true rfl)⟩ (Nat.le_of_ble_eq_true rfl) rfl dL_law_702 rfl ?_
  refine nw_aload X.1 (q := 706) (z := 1) dL_law_705 rfl rfl rfl ?_
  refine lw_ld X (q := 711) (j := 1) dL_law_706 dL_law_707 dL_law_708 dL_law_709 dL_law_710 rfl (by decide) (by omega) ?_
  refine lr_callI X hRR (q := 714) (as := [.int (xs (i + 1))]) (st := [.int r]) (T := TX7) (NN := 31) rfl (fX7_voice_ok (xs (i + 1)) N) e2 ms_L_92 rfl rfl ⟨(Nat.le_of_ble_eq_true rfl), (Nat.le_of_ble_eq_true rfl)⟩ (Nat.le_of_ble_eq_true rfl) rfl dL_law_711 rfl ?_
  refine nw_eq_t X.1 (tgt := 1262) dL_law_714 rfl ?_
  exact k M' N' hR'
theorem lw_case_19 (X : lw_X p s m c D cA b L xs td) (hC : adC 1000 = td) (hRR : adR 1000 = td) (hi : i + 6 ≤ L) (hR : Rel M N) (k : ∀ M' N', Rel M' N' → lw_C p l e s m below meth c D b 1262 (lw_lv b adC adR i) [] (mm_w LC adC cA M' ++ mm_w LR adR cA N')) : lw_C p l e s m below meth c D b 719 (lw_lv b adC adR i) [] (mm_w LC adC cA M ++ mm_w LR adR cA N) := by
  obtain ⟨r, M', N', e1, e2, hR'⟩ := op_spare hR (xs (i + 1))
  refine nw_aload X.1 (q := 720) (z := 2) dL_law_719 rfl rfl rfl ?_
  refine lw_ld X (q := 725) (j := 1) dL_law_720 dL_law_721 dL_law_722 dL_law_723 dL_law_724 rfl (by decide) (by omega) ?_
  refine lc_callI X hC (q := 728) (as := [.int (xs (i + 1))]) (st := []) (T := TX6) (NN := 13) rfl (fX6_spare_ok (xs (i + 1)) M) e1 ms_L_93 rfl rfl ⟨(Nat.le_of_ble_eq_true rfl), (Nat.le_of_ble_eq_true rfl)⟩ (Nat.le_of_ble_eq_true rfl) rfl dL_law_725 rfl ?_
  refine nw_aload X.1 (q := 729) (z := 1) dL_law_728 rfl rfl rfl ?_
  refine lw_ld X (q := 734) (j := 1) dL_law_729 dL_law_730 dL_law_731 dL_law_732 dL_law_733 rfl (by decide) (by omega) ?_
  refine lr_callI X hRR (q := 737) (as := [.int (xs (i + 1))]) (st := [.int r]) (T := TX7) (NN := 31) rfl (fX7_spare_ok (xs (i + 1)) N) e2 ms_L_96 rfl rfl ⟨(Nat.le_of_ble_eq_true rfl), (Nat.le_of_ble_eq_true rfl)⟩ (Nat.le_of_ble_eq_true rfl) rfl dL_law_734 rfl ?_
  refine nw_eq_t X.1 (tgt := 1262) dL_law_737 rfl ?_
  exact k M' N' hR'
theorem lw_case_20 (X : lw_X p s m c D cA b L xs td) (hC : adC 1000 = td) (hRR : adR 1000 = td) (hi : i + 6 ≤ L) (hR : Rel M N) (k : ∀ M' N', Rel M' N' → lw_C p l e s m below meth c D b 1262 (lw_lv b adC adR i) [] (mm_w LC adC cA M' ++ mm_w LR adR cA N')) : lw_C p l e s m below meth c D b 742 (lw_lv b adC adR i) [] (mm_w LC adC cA M ++ mm_w LR adR cA N) := by
  obtain ⟨r, M', N', e1, e2, hR'⟩ := op_tally hR (xs (i + 1)) (xs (i + 2)) (xs (i + 3))
  refine nw_aload X.1 (q := 743) (z := 2) dL_law_742 rfl rfl rfl ?_
  refine lw_ld X (q := 748) (j := 1) dL_law_743 dL_law_744 dL_law_745 dL_law_746 dL_law_747 rfl (by decide) (by omega) ?_
  refine lw_ld X (q := 753) (j := 2) dL_law_748 dL_law_749 dL_law_750 dL_law_751 dL_law_752 rfl (by decide) (by omega) ?_
  refine lw_ld X (q := 758) (j := 3) dL_law_753 dL_law_754 dL_law_755 dL_law_756 dL_law_757 rfl (by decide) (by omega) ?_
  refine lc_callI X hC (q := 761) (as := [.int (xs (i + 1)), .int (xs (i + 2)), .int (xs (i + 3))]) (st := []) (T := TX6) (NN := 13) rfl (fX6_tally_ok (xs (i + 1)) (xs (i + 2)) (xs (i + 3)) M) e1 ms_L_97 rfl rfl ⟨(Nat.le_of_ble_eq_true rfl), (Nat.le_of_ble_eq_true rfl)⟩ (Nat.le_of_ble_eq_true rfl) rfl dL_law_758 rfl ?_
  refine nw_aload X.1 (q := 762) (z := 1) dL_law_761 rfl rfl rfl ?_
  refine lw_ld X (q := 767) (j := 1) dL_law_762 dL_law_763 dL_law_764 dL_law_765 dL_law_766 rfl (by decide) (by omega) ?_
  refine lw_ld X (q := 772) (j := 2) dL_law_767 dL_law_768 dL_law_769 dL_law_770 dL_law_771 rfl (by decide) (by omega) ?_
  refine lw_ld X (q := 777) (j := 3) dL_law_772 dL_law_773 dL_law_774 dL_law_775 dL_law_776 rfl (by decide) (by omega) ?_
  refine lr_callI X hRR (q := 780) (as := [.int (xs (i + 1)), .int (xs (i + 2)), .int (xs (i + 3))]) (st := [.int r]) (T := TX7) (NN := 31) rfl (fX7_tally_ok (xs (i + 1)) (xs (i + 2)) (xs (i + 3)) N) e2 ms_L_100 rfl rfl ⟨(Nat.le_of_ble_eq_true rfl), (Nat.le_of_ble_eq_true rfl)⟩ (Nat.le_of_ble_eq_true rfl) rfl dL_law_777 rfl ?_
  refine nw_eq_t X.1 (tgt := 1262) dL_law_780 rfl ?_
  exact k M' N' hR'
theorem lw_case_21 (X : lw_X p s m c D cA b L xs td) (hC : adC 1000 = td) (hRR : adR 1000 = td) (hi : i + 6 ≤ L) (hR : Rel M N) (k : ∀ M' N', Rel M' N' → lw_C p l e s m below meth c D b 1262 (lw_lv b adC adR i) [] (mm_w LC adC cA M' ++ mm_w LR adR cA N')) : lw_C p l e s m below meth c D b 785 (lw_lv b adC adR i) [] (mm_w LC adC cA M ++ mm_w LR adR cA N) := by
  obtain ⟨r, M', N', e1, e2, hR'⟩ := op_forget hR 
  refine nw_aload X.1 (q := 786) (z := 2) dL_law_785 rfl rfl rfl ?_
  refine lc_callI X hC (q := 789) (as := []) (st := []) (T := TX6) (NN := 13) rfl (fX6_forget_ok  M) e1 ms_L_101 rfl rfl ⟨(Nat.le_of_ble_eq_true rfl), (Nat.le_of_ble_eq_true rfl)⟩ (Nat.le_of_ble_eq_true rfl) rfl dL_law_786 rfl ?_
  refine nw_aload X.1 (q := 790) (z := 1) dL_law_789 rfl rfl rfl ?_
  refine lr_callI X hRR (q := 793) (as := []) (st := [.int r]) (T := TX7) (NN := 31) rfl (fX7_forget_ok  N) e2 ms_L_104 rfl rfl ⟨(Nat.le_of_ble_eq_true rfl), (Nat.le_of_ble_eq_true rfl)⟩ (Nat.le_of_ble_eq_true rfl) rfl dL_law_790 rfl ?_
  refine nw_eq_t X.1 (tgt := 1262) dL_law_793 rfl ?_
  exact k M' N' hR'
theorem lw_case_22 (X : lw_X p s m c D cA b L xs td) (hC : adC 1000 = td) (hRR : adR 1000 = td) (hi : i + 6 ≤ L) (hR : Rel M N) (k : ∀ M' N', Rel M' N' → lw_C p l e s m below meth c D b 1262 (lw_lv b adC adR i) [] (mm_w LC adC cA M' ++ mm_w LR adR cA N')) : lw_C p l e s m below meth c D b 798 (lw_lv b adC adR i) [] (mm_w LC adC cA M ++ mm_w LR adR cA N) := by
  obtain ⟨r, M', N', e1, e2, hR'⟩ := op_never hR 
  refine nw_aload X.1 (q := 799) (z := 2) dL_law_798 rfl rfl rfl ?_
  refine lc_callI X hC (q := 802) (as := []) (st := []) (T := TX6) (NN := 13) rfl (fX6_never_ok  M) e1 ms_L_105 rfl rfl ⟨(Nat.le_of_ble_eq_true rfl), (Nat.le_of_ble_eq_true rfl)⟩ (Nat.le_of_ble_eq_true rfl) rfl dL_law_799 rfl ?_
  refine nw_aload X.1 (q := 803) (z := 1) dL_law_802 rfl rfl rfl ?_
  refine lr_callI X hRR (q := 806) (as := []) (st := [.int r]) (T := TX7) (NN := 31) rfl (fX7_never_ok  N) e2 ms_L_108 rfl rfl ⟨(Nat.le_of_ble_eq_true rfl), (Nat.le_of_ble_eq_true rfl)⟩ (Nat.le_of_ble_eq_true rfl) rfl dL_law_803 rfl ?_
  refine nw_eq_t X.1 (tgt := 1262) dL_law_806 rfl ?_
  exact k M' N' hR'
theorem lw_case_23 (X : lw_X p s m c D cA b L xs td) (hC : adC 1000 = td) (hRR : adR 1000 = td) (hi : i + 6 ≤ L) (hR : Rel M N) (k : ∀ M' N', Rel M' N' → lw_C p l e s m below meth c D b 1262 (lw_lv b adC adR i) [] (mm_w LC adC cA M' ++ mm_w LR adR cA N')) : lw_C p l e s m below meth c D b 811 (lw_lv b adC adR i) [] (mm_w LC adC cA M ++ mm_w LR adR cA N) := by
  obtain ⟨r, M', N', e1, e2, hR'⟩ := op_sort hR (xs (i + 1))
  refine nw_aload X.1 (q := 812) (z := 2) dL_law_811 rfl rfl rfl ?_
  refine lw_ld X (q := 817) (j := 1) dL_law_812 dL_law_813 dL_law_814 dL_law_815 dL_law_816 rfl (by decide) (by omega) ?_
  refine lc_callI X hC (q := 820) (as := [.int (xs (i + 1))]) (st := []) (T := TX6) (NN := 13) rfl (fX6_sort_ok (xs (i + 1)) M) e1 ms_L_109 rfl rfl ⟨(Nat.le_of_ble_eq_true rfl), (Nat.le_of_ble_eq_true rfl)⟩ (Nat.le_of_ble_eq_true rfl) rfl dL_law_817 rfl ?_
  refine nw_aload X.1 (q := 821) (z := 1) dL_law_820 rfl rfl rfl ?_
  refine lw_ld X (q := 826) (j := 1) dL_law_821 dL_law_822 dL_law_823 dL_law_824 dL_law_825 rfl (by decide) (by omega) ?_
  refine lr_callI X hRR (q := 829) (as := [.int (xs (i + 1))]) (st := [.int r]) (T := TX7) (NN := 31) rfl (fX7_sort_ok (xs (i + 1)) N) e2 ms_L_112 rfl rfl ⟨(Nat.le_of_ble_eq_true rfl), (Nat.le_of_ble_eq_true rfl)⟩ (Nat.le_of_ble_eq_true rfl) rfl dL_law_826 rfl ?_
  refine nw_eq_t X.1 (tgt := 1262) dL_law_829 rfl ?_
  exact k M' N' hR'
theorem lw_case_24 (X : lw_X p s m c D cA b L xs td) (hC : adC 1000 = td) (hRR : adR 1000 = td) (hi : i + 6 ≤ L) (hR : Rel M N) (k : ∀ M' N', Rel M' N' → lw_C p l e s m below meth c D b 1262 (lw_lv b adC adR i) [] (mm_w LC adC cA M' ++ mm_w LR adR cA N')) : lw_C p l e s m below meth c D b 834 (lw_lv b adC adR i) [] (mm_w LC adC cA M ++ mm_w LR adR cA N) := by
  obtain ⟨r, M', N', e1, e2, hR'⟩ := op_lent hR (xs (i + 1))
  refine nw_aload X.1 (q := 835) (z := 2) dL_law_834 rfl rfl rfl ?_
  refine lw_ld X (q := 840) (j := 1) dL_law_835 dL_law_836 dL_law_837 dL_law_838 dL_law_839 rfl (by decide) (by omega) ?_
  refine lc_callI X hC (q := 843) (as := [.int (xs (i + 1))]) (st := []) (T := TX6) (NN := 13) rfl (fX6_lent_ok (xs (i + 1)) M) e1 ms_L_113 rfl rfl ⟨(Nat.le_of_ble_eq_true rfl), (Nat.le_of_ble_eq_true rfl)⟩ (Nat.le_of_ble_eq_true rfl) rfl dL_law_840 rfl ?_
  refine nw_aload X.1 (q := 844) (z := 1) dL_law_843 rfl rfl rfl ?_
  refine lw_ld X (q := 849) (j := 1) dL_law_844 dL_law_845 dL_law_846 dL_law_847 dL_law_848 rfl (by decide) (by omega) ?_
  refine lr_callI X hRR (q := 852) (as := [.int (xs (i + 1))]) (st := [.int r]) (T := TX7) (NN := 31) rfl (fX7_lent_ok (xs (i + 1)) N) e2 ms_L_116 rfl rfl ⟨(Nat.le_of_ble_eq_true rfl), (Nat.le_of_ble_eq_true rfl)⟩ (Nat.le_of_ble_eq_true rfl) rfl dL_law_849 rfl ?_
  refine nw_eq_t X.1 (tgt := 1262) dL_law_852 rfl ?_
  exact k M' N' hR'
theorem lw_case_25 (X : lw_X p s m c D cA b L xs td) (hC : adC 1000 = td) (hRR : adR 1000 = td) (hi : i + 6 ≤ L) (hR : Rel M N) (k : ∀ M' N', Rel M' N' → lw_C p l e s m below meth c D b 1262 (lw_lv b adC adR i) [] (mm_w LC adC cA M' ++ mm_w LR adR cA N')) : lw_C p l e s m below meth c D b 857 (lw_lv b adC adR i) [] (mm_w LC adC cA M ++ mm_w LR adR cA N) := by
  obtain ⟨r, M', N', e1, e2, hR'⟩ := op_ask hR (xs (i + 1))
  refine nw_aload X.1 (q := 858) (z := 2) dL_law_857 rfl rfl rfl ?_
  refine lw_ld X (q := 863) (j := 1) dL_law_858 dL_law_859 dL_law_860 dL_law_861 dL_law_862 rfl (by decide) (by omega) ?_
  refine lc_callI X hC (q := 866) (as := [.int (xs (i + 1))]) (st := []) (T := TX6) (NN := 13) rfl (fX6_ask_ok (xs (i + 1)) M) e1 ms_L_117 rfl rfl ⟨(Nat.le_of_ble_eq_true rfl), (Nat.le_of_ble_eq_true rfl)⟩ (Nat.le_of_ble_eq_true rfl) rfl dL_law_863 rfl ?_
  refine nw_aload X.1 (q := 867) (z := 1) dL_law_866 rfl rfl rfl ?_
  refine lw_ld X (q := 872) (j := 1) dL_law_867 dL_law_868 dL_law_869 dL_law_870 dL_law_871 rfl (by decide) (by omega) ?_
  refine lr_callI X hRR (q := 875) (as := [.int (xs (i + 1))]) (st := [.int r]) (T := TX7) (NN := 31) rfl (fX7_ask_ok (xs (i + 1)) N) e2 ms_L_120 rfl rfl ⟨(Nat.le_of_ble_eq_true rfl), (Nat.le_of_ble_eq_true rfl)⟩ (Nat.le_of_ble_eq_true rfl) rfl dL_law_872 rfl ?_
  refine nw_eq_t X.1 (tgt := 1262) dL_law_875 rfl ?_
  exact k M' N' hR'
theorem lw_case_26 (X : lw_X p s m c D cA b L xs td) (hC : adC 1000 = td) (hRR : adR 1000 = td) (hi : i + 6 ≤ L) (hR : Rel M N) (k : ∀ M' N', Rel M' N' → lw_C p l e s m below meth c D b 1262 (lw_lv b adC adR i) [] (mm_w LC adC cA M' ++ mm_w LR adR cA N')) : lw_C p l e s m below meth c D b 880 (lw_lv b adC adR i) [] (mm_w LC adC cA M ++ mm_w LR adR cA N) := by
  obtain ⟨r, M', N', e1, e2, hR'⟩ := op_chance hR (xs (i + 1)) (xs (i + 2)) (xs (i + 3))
  refine nw_aload X.1 (q := 881) (z := 2) dL_law_880 rfl rfl rfl ?_
  refine lw_ld X (q := 886) (j := 1) dL_law_881 dL_law_882 dL_law_883 dL_law_884 dL_law_885 rfl (by decide) (by omega) ?_
  refine lw_ld X (q := 891) (j := 2) dL_law_886 dL_law_887 dL_law_888 dL_law_889 dL_law_890 rfl (by decide) (by omega) ?_
  refine lw_ld X (q := 896) (j := 3) dL_law_891 dL_law_892 dL_law_893 dL_law_894 dL_law_895 rfl (by decide) (by omega) ?_
  refine lc_callL X hC (q := 899) (as := [.int (xs (i + 1)), .int (xs (i + 2)), .int (xs (i + 3))]) (st := []) (T := TX6) (NN := 13) rfl (fX6_chance_ok (xs (i + 1)) (xs (i + 2)) (xs (i + 3)) M) e1 ms_L_121 rfl rfl ⟨(Nat.le_of_ble_eq_true rfl), (Nat.le_of_ble_eq_true rfl)⟩ (Nat.le_of_ble_eq_true rfl) rfl dL_law_896 rfl ?_
  refine nw_aload X.1 (q := 900) (z := 1) dL_law_899 rfl rfl rfl ?_
  refine lw_ld X (q := 905) (j := 1) dL_law_900 dL_law_901 dL_law_902 dL_law_903 dL_law_904 rfl (by decide) (by omega) ?_
  refine lw_ld X (q := 910) (j := 2) dL_law_905 dL_law_906 dL_law_907 dL_law_908 dL_law_909 rfl (by decide) (by omega) ?_
  refine lw_ld X (q := 915) (j := 3) dL_law_910 dL_law_911 dL_law_912 dL_law_913 dL_law_914 rfl (by decide) (by omega) ?_
  refine lr_callL X hRR (q := 918) (as := [.int (xs (i + 1)), .int (xs (i + 2)), .int (xs (i + 3))]) (st := [.long r]) (T := TX7) (NN := 31) rfl (fX7_chance_ok (xs (i + 1)) (xs (i + 2)) (xs (i + 3)) N) e2 ms_L_125 rfl rfl ⟨(Nat.le_of_ble_eq_true rfl), (Nat.le_of_ble_eq_true rfl)⟩ (Nat.le_of_ble_eq_true rfl) rfl dL_law_915 rfl ?_
  refine nw_lcmp X.1 (q := 919) dL_law_918 rfl ?_
  refine nw_ifeq_t X.1 (tgt := 1262) ((q_cmp_eq r r).mpr rfl) dL_law_919 rfl ?_
  exact k M' N' hR'
theorem lw_case_27 (X : lw_X p s m c D cA b L xs td) (hC : adC 1000 = td) (hRR : adR 1000 = td) (hi : i + 6 ≤ L) (hR : Rel M N) (k : ∀ M' N', Rel M' N' → lw_C p l e s m below meth c D b 1262 (lw_lv b adC adR i) [] (mm_w LC adC cA M' ++ mm_w LR adR cA N')) : lw_C p l e s m below meth c D b 924 (lw_lv b adC adR i) [] (mm_w LC adC cA M ++ mm_w LR adR cA N) := by
  obtain ⟨r, M', N', e1, e2, hR'⟩ := op_lives hR (xs (i + 1)) (xs (i + 2)) (xs (i + 3))
  refine nw_aload X.1 (q := 925) (z := 2) dL_law_924 rfl rfl rfl ?_
  refine lw_ld X (q := 930) (j := 1) dL_law_925 dL_law_926 dL_law_927 dL_law_928 dL_law_929 rfl (by decide) (by omega) ?_
  refine lw_ld X (q := 935) (j := 2) dL_law_930 dL_law_931 dL_law_932 dL_law_933 dL_law_934 rfl (by decide) (by omega) ?_
  refine lw_ld X (q := 940) (j := 3) dL_law_935 dL_law_936 dL_law_937 dL_law_938 dL_law_939 rfl (by decide) (by omega) ?_
  refine lc_callI X hC (q := 943) (as := [.int (xs (i + 1)), .int (xs (i + 2)), .int (xs (i + 3))]) (st := []) (T := TX6) (NN := 13) rfl (fX6_lives_ok (xs (i + 1)) (xs (i + 2)) (xs (i + 3)) M) e1 ms_L_126 rfl rfl ⟨(Nat.le_of_ble_eq_true rfl), (Nat.le_of_ble_eq_true rfl)⟩ (Nat.le_of_ble_eq_true rfl) rfl dL_law_940 rfl ?_
  refine nw_aload X.1 (q := 944) (z := 1) dL_law_943 rfl rfl rfl ?_
  refine lw_ld X (q := 949) (j := 1) dL_law_944 dL_law_945 dL_law_946 dL_law_947 dL_law_948 rfl (by decide) (by omega) ?_
  refine lw_ld X (q := 954) (j := 2) dL_law_949 dL_law_950 dL_law_951 dL_law_952 dL_law_953 rfl (by decide) (by omega) ?_
  refine lw_ld X (q := 959) (j := 3) dL_law_954 dL_law_955 dL_law_956 dL_law_957 dL_law_958 rfl (by decide) (by omega) ?_
  refine lr_callI X hRR (q := 962) (as := [.int (xs (i + 1)), .int (xs (i + 2)), .int (xs (i + 3))]) (st := [.int r]) (T := TX7) (NN := 31) rfl (fX7_lives_ok (xs (i + 1)) (xs (i + 2)) (xs (i + 3)) N) e2 ms_L_129 rfl rfl ⟨(Nat.le_of_ble_eq_true rfl), (Nat.le_of_ble_eq_true rfl)⟩ (Nat.le_of_ble_eq_true rfl) rfl dL_law_959 rfl ?_
  refine nw_eq_t X.1 (tgt := 1262) dL_law_962 rfl ?_
  exact k M' N' hR'
theorem lw_case_28 (X : lw_X p s m c D cA b L xs td) (hC : adC 1000 = td) (hRR : adR 1000 = td) (hi : i + 6 ≤ L) (hR : Rel M N) (k : ∀ M' N', Rel M' N' → lw_C p l e s m below meth c D b 1262 (lw_lv b adC adR i) [] (mm_w LC adC cA M' ++ mm_w LR adR cA N')) : lw_C p l e s m below meth c D b 967 (lw_lv b adC adR i) [] (mm_w LC adC cA M ++ mm_w LR adR cA N) := by
  obtain ⟨r, M', N', e1, e2, hR'⟩ := op_sheet hR (xs (i + 1)) (xs (i + 2)) (xs (i + 3))
  refine nw_aload X.1 (q := 968) (z := 2) dL_law_967 rfl rfl rfl ?_
  refine lw_ld X (q := 973) (j := 1) dL_law_968 dL_law_969 dL_law_970 dL_law_971 dL_law_972 rfl (by decide) (by omega) ?_
  refine lw_ld X (q := 978) (j := 2) dL_law_973 dL_law_974 dL_law_975 dL_law_976 dL_law_977 rfl (by decide) (by omega) ?_
  refine lw_ld X (q := 983) (j := 3) dL_law_978 dL_law_979 dL_law_980 dL_law_981 dL_law_982 rfl (by decide) (by omega) ?_
  refine lc_callI X hC (q := 986) (as := [.int (xs (i + 1)), .int (xs (i + 2)), .int (xs (i + 3))]) (st := []) (T := TX6) (NN := 13) rfl (fX6_sheet_ok (xs (i + 1)) (xs (i + 2)) (xs (i + 3)) M) e1 ms_L_130 rfl rfl ⟨(Nat.le_of_ble_eq_true rfl), (Nat.le_of_ble_eq_true rfl)⟩ (Nat.le_of_ble_eq_true rfl) rfl dL_law_983 rfl ?_
  refine nw_aload X.1 (q := 987) (z := 1) dL_law_986 rfl rfl rfl ?_
  refine lw_ld X (q := 992) (j := 1) dL_law_987 dL_law_988 dL_law_989 dL_law_990 dL_law_991 rfl (by decide) (by omega) ?_
  refine lw_ld X (q := 997) (j := 2) dL_law_992 dL_law_993 dL_law_994 dL_law_995 dL_law_996 rfl (by decide) (by omega) ?_
  refine lw_ld X (q := 1002) (j := 3) dL_law_997 dL_law_998 dL_law_999 dL_law_1000 dL_law_1001 rfl (by decide) (by omega) ?_
  refine lr_callI X hRR (q := 1005) (as := [.int (xs (i + 1)), .int (xs (i + 2)), .int (xs (i + 3))]) (st := [.int r]) (T := TX7) (NN := 31) rfl (fX7_sheet_ok (xs (i + 1)) (xs (i + 2)) (xs (i + 3)) N) e2 ms_L_133 rfl rfl ⟨(Nat.le_of_ble_eq_true rfl), (Nat.le_of_ble_eq_true rfl)⟩ (Nat.le_of_ble_eq_true rfl) rfl dL_law_1002 rfl ?_
  refine nw_eq_t X.1 (tgt := 1262) dL_law_1005 rfl ?_
  exact k M' N' hR'
theorem lw_case_29 (X : lw_X p s m c D cA b L xs td) (hC : adC 1000 = td) (hRR : adR 1000 = td) (hi : i + 6 ≤ L) (hR : Rel M N) (k : ∀ M' N', Rel M' N' → lw_C p l e s m below meth c D b 1262 (lw_lv b adC adR i) [] (mm_w LC adC cA M' ++ mm_w LR adR cA N')) : lw_C p l e s m below meth c D b 1010 (lw_lv b adC adR i) [] (mm_w LC adC cA M ++ mm_w LR adR cA N) := by
  obtain ⟨r, M', N', e1, e2, hR'⟩ := op_lose hR (xs (i + 1))
  refine nw_aload X.1 (q := 1011) (z := 2) dL_law_1010 rfl rfl rfl ?_
  refine lw_ld X (q := 1016) (j := 1) dL_law_1011 dL_law_1012 dL_law_1013 dL_law_1014 dL_law_1015 rfl (by decide) (by omega) ?_
  refine lc_callI X hC (q := 1019) (as := [.int (xs (i + 1))]) (st := []) (T := TX6) (NN := 13) rfl (fX6_lose_ok (xs (i + 1)) M) e1 ms_L_134 rfl rfl ⟨(Nat.le_of_ble_eq_true rfl), (Nat.le_of_ble_eq_true rfl)⟩ (Nat.le_of_ble_eq_true rfl) rfl dL_law_1016 rfl ?_
  refine nw_aload X.1 (q := 1020) (z := 1) dL_law_1019 rfl rfl rfl ?_
  refine lw_ld X (q := 1025) (j := 1) dL_law_1020 dL_law_1021 dL_law_1022 dL_law_1023 dL_law_1024 rfl (by decide) (by omega) ?_
  refine lr_callI X hRR (q := 1028) (as := [.int (xs (i + 1))]) (st := [.int r]) (T := TX7) (NN := 31) rfl (fX7_lose_ok (xs (i + 1)) N) e2 ms_L_137 rfl rfl ⟨(Nat.le_of_ble_eq_true rfl), (Nat.le_of_ble_eq_true rfl)⟩ (Nat.le_of_ble_eq_true rfl) rfl dL_law_1025 rfl ?_
  refine nw_eq_t X.1 (tgt := 1262) dL_law_1028 rfl ?_
  exact k M' N' hR'
theorem lw_case_30 (X : lw_X p s m c D cA b L xs td) (hC : adC 1000 = td) (hRR : adR 1000 = td) (hi : i + 6 ≤ L) (hR : Rel M N) (k : ∀ M' N', Rel M' N' → lw_C p l e s m below meth c D b 1262 (lw_lv b adC adR i) [] (mm_w LC adC cA M' ++ mm_w LR adR cA N')) : lw_C p l e s m below meth c D b 1033 (lw_lv b adC adR i) [] (mm_w LC adC cA M ++ mm_w LR adR cA N) := by
  obtain ⟨r, M', N', e1, e2, hR'⟩ := op_lay hR (xs (i + 1)) (xs (i + 2)) (xs (i + 3)) (xs (i + 4))
  refine nw_aload X.1 (q := 1034) (z := 2) dL_law_1033 rfl rfl rfl ?_
  refine lw_ld X (q := 1039) (j := 1) dL_law_1034 dL_law_1035 dL_law_1036 dL_law_1037 dL_law_1038 rfl (by decide) (by omega) ?_
  refine lw_ld X (q := 1044) (j := 2) dL_law_1039 dL_law_1040 dL_law_1041 dL_law_1042 dL_law_1043 rfl (by decide) (by omega) ?_
  refine lw_ld X (q := 1049) (j := 3) dL_law_1044 dL_law_1045 dL_law_1046 dL_law_1047 dL_law_1048 rfl (by decide) (by omega) ?_
  refine lw_ld X (q := 1054) (j := 4) dL_law_1049 dL_law_1050 dL_law_1051 dL_law_1052 dL_law_1053 rfl (by decide) (by omega) ?_
  refine lc_callI X hC (q := 1057) (as := [.int (xs (i + 1)), .int (xs (i + 2)), .int (xs (i + 3)), .int (xs (i + 4))]) (st := []) (T := TX6) (NN := 13) rfl (fX6_lay_ok (xs (i + 1)) (xs (i + 2)) (xs (i + 3)) (xs (i + 4)) M) e1 ms_L_138 rfl rfl ⟨(Nat.le_of_ble_eq_true rfl), (Nat.le_of_ble_eq_true rfl)⟩ (Nat.le_of_ble_eq_true rfl) rfl dL_law_1054 rfl ?_
  refine nw_aload X.1 (q := 1058) (z := 1) dL_law_1057 rfl rfl rfl ?_
  refine lw_ld X (q := 1063) (j := 1) dL_law_1058 dL_law_1059 dL_law_1060 dL_law_1061 dL_law_1062 rfl (by decide) (by omega) ?_
  refine lw_ld X (q := 1068) (j := 2) dL_law_1063 dL_law_1064 dL_law_1065 dL_law_1066 dL_law_1067 rfl (by decide) (by omega) ?_
  refine lw_ld X (q := 1073) (j := 3) dL_law_1068 dL_law_1069 dL_law_1070 dL_law_1071 dL_law_1072 rfl (by decide) (by omega) ?_
  refine lw_ld X (q := 1078) (j := 4) dL_law_1073 dL_law_1074 dL_law_1075 dL_law_1076 dL_law_1077 rfl (by decide) (by omega) ?_
  refine lr_callI X hRR (q := 1081) (as := [.int (xs (i + 1)), .int (xs (i + 2)), .int (xs (i + 3)), .int (xs (i + 4))]) (st := [.int r]) (T := TX7) (NN := 31) rfl (fX7_lay_ok (xs (i + 1)) (xs (i + 2)) (xs (i + 3)) (xs (i + 4)) N) e2 ms_L_142 rfl rfl ⟨(Nat.le_of_ble_eq_true rfl), (Nat.le_of_ble_eq_true rfl)⟩ (Nat.le_of_ble_eq_true rfl) rfl dL_law_1078 rfl ?_
  refine nw_eq_t X.1 (tgt := 1262) dL_law_1081 rfl ?_
  exact k M' N' hR'
theorem lw_case_31 (X : lw_X p s m c D cA b L xs td) (hC : adC 1000 = td) (hRR : adR 1000 = td) (hi : i + 6 ≤ L) (hR : Rel M N) (k : ∀ M' N', Rel M' N' → lw_C p l e s m below meth c D b 1262 (lw_lv b adC adR i) [] (mm_w LC adC cA M' ++ mm_w LR adR cA N')) : lw_C p l e s m below meth c D b 1086 (lw_lv b adC adR i) [] (mm_w LC adC cA M ++ mm_w LR adR cA N) := by
  obtain ⟨r, M', N', e1, e2, hR'⟩ := op_get hR (xs (i + 1)) (xs (i + 2)) (xs (i + 3))
  refine nw_aload X.1 (q := 1087) (z := 2) dL_law_1086 rfl rfl rfl ?_
  refine lw_ld X (q := 1092) (j := 1) dL_law_1087 dL_law_1088 dL_law_1089 dL_law_1090 dL_law_1091 rfl (by decide) (by omega) ?_
  refine lw_ld X (q := 1097) (j := 2) dL_law_1092 dL_law_1093 dL_law_1094 dL_law_1095 dL_law_1096 rfl (by decide) (by omega) ?_
  refine lw_ld X (q := 1102) (j := 3) dL_law_1097 dL_law_1098 dL_law_1099 dL_law_1100 dL_law_1101 rfl (by decide) (by omega) ?_
  refine lc_callI X hC (q := 1105) (as := [.int (xs (i + 1)), .int (xs (i + 2)), .int (xs (i + 3))]) (st := []) (T := TX6) (NN := 13) rfl (fX6_get_ok (xs (i + 1)) (xs (i + 2)) (xs (i + 3)) M) e1 ms_L_143 rfl rfl ⟨(Nat.le_of_ble_eq_true rfl), (Nat.le_of_ble_eq_true rfl)⟩ (Nat.le_of_ble_eq_true rfl) rfl dL_law_1102 rfl ?_
  refine nw_aload X.1 (q := 1106) (z := 1) dL_law_1105 rfl rfl rfl ?_
  refine lw_ld X (q := 1111) (j := 1) dL_law_1106 dL_law_1107 dL_law_1108 dL_law_1109 dL_law_1110 rfl (by decide) (by omega) ?_
  refine lw_ld X (q := 1116) (j := 2) dL_law_1111 dL_law_1112 dL_law_1113 dL_law_1114 dL_law_1115 rfl (by decide) (by omega) ?_
  refine lw_ld X (q := 1121) (j := 3) dL_law_1116 dL_law_1117 dL_law_1118 dL_law_1119 dL_law_1120 rfl (by decide) (by omega) ?_
  refine lr_callI X hRR (q := 1124) (as := [.int (xs (i + 1)), .int (xs (i + 2)), .int (xs (i + 3))]) (st := [.int r]) (T := TX7) (NN := 31) rfl (fX7_get_ok (xs (i + 1)) (xs (i + 2)) (xs (i + 3)) N) e2 ms_L_146 rfl rfl ⟨(Nat.le_of_ble_eq_true rfl), (Nat.le_of_ble_eq_true rfl)⟩ (Nat.le_of_ble_eq_true rfl) rfl dL_law_1121 rfl ?_
  refine nw_eq_t X.1 (tgt := 1262) dL_law_1124 rfl ?_
  exact k M' N' hR'
theorem lw_case_32 (X : lw_X p s m c D cA b L xs td) (hC : adC 1000 = td) (hRR : adR 1000 = td) (hi : i + 6 ≤ L) (hR : Rel M N) (k : ∀ M' N', Rel M' N' → lw_C p l e s m below meth c D b 1262 (lw_lv b adC adR i) [] (mm_w LC adC cA M' ++ mm_w LR adR cA N')) : lw_C p l e s m below meth c D b 1129 (lw_lv b adC adR i) [] (mm_w LC adC cA M ++ mm_w LR adR cA N) := by
  obtain ⟨r, M', N', e1, e2, hR'⟩ := op_copy hR (xs (i + 1)) (xs (i + 2)) (xs (i + 3)) (xs (i + 4)) (xs (i + 5))
  refine nw_aload X.1 (q := 1130) (z := 2) dL_law_1129 rfl rfl rfl ?_
  refine lw_ld X (q := 1135) (j := 1) dL_law_1130 dL_law_1131 dL_law_1132 dL_law_1133 dL_law_1134 rfl (by decide) (by omega) ?_
  refine lw_ld X (q := 1140) (j := 2) dL_law_1135 dL_law_1136 dL_law_1137 dL_law_1138 dL_law_1139 rfl (by decide) (by omega) ?_
  refine lw_ld X (q := 1145) (j := 3) dL_law_1140 dL_law_1141 dL_law_1142 dL_law_1143 dL_law_1144 rfl (by decide) (by omega) ?_
  refine lw_ld X (q := 1150) (j := 4) dL_law_1145 dL_law_1146 dL_law_1147 dL_law_1148 dL_law_1149 rfl (by decide) (by omega) ?_
  refine lw_ld X (q := 1155) (j := 5) dL_law_1150 dL_law_1151 dL_law_1152 dL_law_1153 dL_law_1154 rfl (by decide) (by omega) ?_
  refine lc_callI X hC (q := 1158) (as := [.int (xs (i + 1)), .int (xs (i + 2)), .int (xs (i + 3)), .int (xs (i + 4)), .int (xs (i + 5))]) (st := []) (T := TX6) (NN := 13) rfl (fX6_copy_ok (xs (i + 1)) (xs (i + 2)) (xs (i + 3)) (xs (i + 4)) (xs (i + 5)) M) e1 ms_L_147 rfl rfl ⟨(Nat.le_of_ble_eq_true rfl), (Nat.le_of_ble_eq_true rfl)⟩ (Nat.le_of_ble_eq_true rfl) rfl dL_law_1155 rfl ?_
  refine nw_aload X.1 (q := 1159) (z := 1) dL_law_1158 rfl rfl rfl ?_
  refine lw_ld X (q := 1164) (j := 1) dL_law_1159 dL_law_1160 dL_law_1161 dL_law_1162 dL_law_1163 rfl (by decide) (by omega) ?_
  refine lw_ld X (q := 1169) (j := 2) dL_law_1164 dL_law_1165 dL_law_1166 dL_law_1167 dL_law_1168 rfl (by decide) (by omega) ?_
  refine lw_ld X (q := 1174) (j := 3) dL_law_1169 dL_law_1170 dL_law_1171 dL_law_1172 dL_law_1173 rfl (by decide) (by omega) ?_
  refine lw_ld X (q := 1179) (j := 4) dL_law_1174 dL_law_1175 dL_law_1176 dL_law_1177 dL_law_1178 rfl (by decide) (by omega) ?_
  refine lw_ld X (q := 1184) (j := 5) dL_law_1179 dL_law_1180 dL_law_1181 dL_law_1182 dL_law_1183 rfl (by decide) (by omega) ?_
  refine lr_callI X hRR (q := 1187) (as := [.int (xs (i + 1)), .int (xs (i + 2)), .int (xs (i + 3)), .int (xs (i + 4)), .int (xs (i + 5))]) (st := [.int r]) (T := TX7) (NN := 31) rfl (fX7_copy_ok (xs (i + 1)) (xs (i + 2)) (xs (i + 3)) (xs (i + 4)) (xs (i + 5)) N) e2 ms_L_151 rfl rfl ⟨(Nat.le_of_ble_eq_true rfl), (Nat.le_of_ble_eq_true rfl)⟩ (Nat.le_of_ble_eq_true rfl) rfl dL_law_1184 rfl ?_
  refine nw_eq_t X.1 (tgt := 1262) dL_law_1187 rfl ?_
  exact k M' N' hR'
theorem lw_case_33 (X : lw_X p s m c D cA b L xs td) (hC : adC 1000 = td) (hRR : adR 1000 = td) (hi : i + 6 ≤ L) (hR : Rel M N) (k : ∀ M' N', Rel M' N' → lw_C p l e s m below meth c D b 1262 (lw_lv b adC adR i) [] (mm_w LC adC cA M' ++ mm_w LR adR cA N')) : lw_C p l e s m below meth c D b 1192 (lw_lv b adC adR i) [] (mm_w LC adC cA M ++ mm_w LR adR cA N) := by
  obtain ⟨r, M', N', e1, e2, hR'⟩ := op_write hR (xs (i + 1)) (xs (i + 2))
  refine nw_aload X.1 (q := 1193) (z := 2) dL_law_1192 rfl rfl rfl ?_
  refine lw_ld X (q := 1198) (j := 1) dL_law_1193 dL_law_1194 dL_law_1195 dL_law_1196 dL_law_1197 rfl (by decide) (by omega) ?_
  refine lw_ld X (q := 1203) (j := 2) dL_law_1198 dL_law_1199 dL_law_1200 dL_law_1201 dL_law_1202 rfl (by decide) (by omega) ?_
  refine lc_callI X hC (q := 1206) (as := [.int (xs (i + 1)), .int (xs (i + 2))]) (st := []) (T := TX6) (NN := 13) rfl (fX6_write_ok (xs (i + 1)) (xs (i + 2)) M) e1 ms_L_152 rfl rfl ⟨(Nat.le_of_ble_eq_true rfl), (Nat.le_of_ble_eq_true rfl)⟩ (Nat.le_of_ble_eq_true rfl) rfl dL_law_1203 rfl ?_
  refine nw_aload X.1 (q := 1207) (z := 1) dL_law_1206 rfl rfl rfl ?_
  refine lw_ld X (q := 1212) (j := 1) dL_law_1207 dL_law_1208 dL_law_1209 dL_law_1210 dL_law_1211 rfl (by decide) (by omega) ?_
  refine lw_ld X (q := 1217) (j := 2) dL_law_1212 dL_law_1213 dL_law_1214 dL_law_1215 dL_law_1216 rfl (by decide) (by omega) ?_
  refine lr_callI X hRR (q := 1220) (as := [.int (xs (i + 1)), .int (xs (i + 2))]) (st := [.int r]) (T := TX7) (NN := 31) rfl (fX7_write_ok (xs (i + 1)) (xs (i + 2)) N) e2 ms_L_155 rfl rfl ⟨(Nat.le_of_ble_eq_true rfl), (Nat.le_of_ble_eq_true rfl)⟩ (Nat.le_of_ble_eq_true rfl) rfl dL_law_1217 rfl ?_
  refine nw_eq_t X.1 (tgt := 1262) dL_law_1220 rfl ?_
  exact k M' N' hR'
theorem lw_case_34 (X : lw_X p s m c D cA b L xs td) (hC : adC 1000 = td) (hRR : adR 1000 = td) (hi : i + 6 ≤ L) (hR : Rel M N) (k : ∀ M' N', Rel M' N' → lw_C p l e s m below meth c D b 1262 (lw_lv b adC adR i) [] (mm_w LC adC cA M' ++ mm_w LR adR cA N')) : lw_C p l e s m below meth c D b 1225 (lw_lv b adC adR i) [] (mm_w LC adC cA M ++ mm_w LR adR cA N) := by
  obtain ⟨r, N', e1, e2, hR'⟩ := op_count hR (xs (i + 1))
  refine nw_aload X.1 (q := 1226) (z := 2) dL_law_1225 rfl rfl rfl ?_
  refine lw_ld X (q := 1231) (j := 1) dL_law_1226 dL_law_1227 dL_law_1228 dL_law_1229 dL_law_1230 rfl (by decide) (by omega) ?_
  refine lc_callP X hC (q := 1234) (as := [.int (xs (i + 1))]) (st := []) (T := TX6) (NN := 13) rfl (fX6_count_ok (xs (i + 1)) M) e1 ms_L_156 rfl rfl ⟨(Nat.le_of_ble_eq_true rfl), (Nat.le_of_ble_eq_true rfl)⟩ (Nat.le_of_ble_eq_true rfl) rfl dL_law_1231 rfl ?_
  refine nw_aload X.1 (q := 1235) (z := 1) dL_law_1234 rfl rfl rfl ?_
  refine lw_ld X (q := 1240) (j := 1) dL_law_1235 dL_law_1236 dL_law_1237 dL_law_1238 dL_law_1239 rfl (by decide) (by omega) ?_
  refine lr_callI X hRR (q := 1243) (as := [.int (xs (i + 1))]) (st := [.int r]) (T := TX7) (NN := 31) rfl (fX7_count_ok (xs (i + 1)) N) e2 ms_L_159 rfl rfl ⟨(Nat.le_of_ble_eq_true rfl), (Nat.le_of_ble_eq_true rfl)⟩ (Nat.le_of_ble_eq_true rfl) rfl dL_law_1240 rfl ?_
  refine nw_eq_t X.1 (tgt := 1262) dL_law_1243 rfl ?_
  exact k M N' hR'
theorem lw_case_35 (X : lw_X p s m c D cA b L xs td) (hC : adC 1000 = td) (hRR : adR 1000 = td) (hi : i + 6 ≤ L) (hR : Rel M N) (k : ∀ M' N', Rel M' N' → lw_C p l e s m below meth c D b 1262 (lw_lv b adC adR i) [] (mm_w LC adC cA M' ++ mm_w LR adR cA N')) : lw_C p l e s m below meth c D b 1248 (lw_lv b adC adR i) [] (mm_w LC adC cA M ++ mm_w LR adR cA N) := by
  obtain ⟨r, M', N', e1, e2, hR'⟩ := op_digest hR 
  refine nw_aload X.1 (q := 1249) (z := 2) dL_law_1248 rfl rfl rfl ?_
  refine lc_callL X hC (q := 1252) (as := []) (st := []) (T := TX6) (NN := 13) rfl (fX6_digest_ok  M) e1 ms_L_160 rfl rfl ⟨(Nat.le_of_ble_eq_true rfl), (Nat.le_of_ble_eq_true rfl)⟩ (Nat.le_of_ble_eq_true rfl) rfl dL_law_1249 rfl ?_
  refine nw_aload X.1 (q := 1253) (z := 1) dL_law_1252 rfl rfl rfl ?_
  refine lr_callL X hRR (q := 1256) (as := []) (st := [.long r]) (T := TX7) (NN := 31) rfl (fX7_digest_ok  N) e2 ms_L_164 rfl rfl ⟨(Nat.le_of_ble_eq_true rfl), (Nat.le_of_ble_eq_true rfl)⟩ (Nat.le_of_ble_eq_true rfl) rfl dL_law_1253 rfl ?_
  refine nw_lcmp X.1 (q := 1257) dL_law_1256 rfl ?_
  refine nw_ifeq_t X.1 (tgt := 1262) ((q_cmp_eq r r).mpr rfl) dL_law_1257 rfl ?_
  exact k M' N' hR'
end LWC
