/-! the law's cases, but the last -/
abbrev av (xs : Nat → Int32) (i k : Nat) : Int32 := xs (nI i + nI k).toNatClampNeg
abbrev lv2 (xs : Nat → Int32) (i a b : Nat) : Int64 := ((av xs i a).toInt64 <<< ((nI 32).toInt64 &&& 63)) ||| ((av xs i b).toInt64 &&& 4294967295)
/-- the law's locals -/
abbrev LL (m o i : Nat) : List (Nat × Value) := [(0, .ref 1), (1, .ref 2), (2, .ref m), (3, .ref o), (4, .int (nI i))]
/-- two calls that answer the same, an int -/
def SmI (d : Nat) (kx km : MD) (m : Nat) (args : List Value) (M : Mem) (N : Mem → Prop) : Prop := mK M 2 = 13 ∧ ClD d kx (.ref 2 :: args) M (fun r1 M1 => (mK M1 m = 14 ∧ ClD d km (.ref m :: args) M1 (fun r2 M2 => r2 = r1 ∧ N M2)) ∧ ∃ v, r1 = some (.int v))
/-- .. a long -/
def SmJ (d : Nat) (kx km : MD) (m : Nat) (args : List Value) (M : Mem) (N : Mem → Prop) : Prop := mK M 2 = 13 ∧ ClD d kx (.ref 2 :: args) M (fun r1 M1 => (mK M1 m = 14 ∧ ClD d km (.ref m :: args) M1 (fun r2 M2 => r2 = r1 ∧ N M2)) ∧ ∃ v, r1 = some (.long v))
theorem SmI.mono {d m : Nat} {kx km : MD} {args : List Value} {M : Mem} {N N' : Mem → Prop} (h : SmI d kx km m args M N) (k : ∀ M2, N M2 → N' M2) : SmI d kx km m args M N' := ⟨h.1, h.2.mono (fun _ _ q => ⟨⟨q.1.1, q.1.2.mono (fun _ _ z => ⟨z.1, k _ z.2⟩)⟩, q.2⟩)⟩
theorem SmJ.mono {d m : Nat} {kx km : MD} {args : List Value} {M : Mem} {N N' : Mem → Prop} (h : SmJ d kx km m args M N) (k : ∀ M2, N M2 → N' M2) : SmJ d kx km m args M N' := ⟨h.1, h.2.mono (fun _ _ q => ⟨⟨q.1.1, q.1.2.mono (fun _ _ z => ⟨z.1, k _ z.2⟩)⟩, q.2⟩)⟩
section LawOps
variable {d m o i L : Nat} {xs : Nat → Int32} {M : Mem} {Q : Option Value → Mem → Prop}
theorem law_op0 (hi : i + 5 ≤ L) (hL : L ≤ 2560) (h : SmI d mdX11_sign mdX12_sign m [.int (av xs i 1)] M (fun M2 => Wp d (mdL_law L xs) 1645 (LL m o i) [] M2 Q)) : Wp d (mdL_law L xs) 212 (LL m o i) [] M Q := by
  obtain ⟨k13, e1, he1, hc1⟩ := h
  refine r_aload_n dL_law_212 rfl 1 rfl ?_
  refine r_aload_n dL_law_213 rfl 0 rfl ?_
  refine r_iload dL_law_214 4 rfl ?_
  refine r_iconst (v := nI 1) dL_law_216 rfl ?_
  refine r_iadd dL_law_217 ?_
  refine r_sald rfl dL_law_218 (by rw [nI_add]; exact z_in (by omega) (by omega)) ?_
  refine r_callV (ci := 9) (As := [.int (av xs i 1)]) (rest := []) moX11_sign dL_law_219 mlL_19 imX11_sign seX11_sign k13 rfl he1 (Nat.le_of_ble_eq_true rfl) (hc1.mono (fun r1 M1 hq => ?_))
  obtain ⟨⟨k14, e2, he2, hc2⟩, v, rfl⟩ := hq
  refine r_aload_n dL_law_222 rfl 2 rfl ?_
  refine r_aload_n dL_law_223 rfl 0 rfl ?_
  refine r_iload dL_law_224 4 rfl ?_
  refine r_iconst (v := nI 1) dL_law_226 rfl ?_
  refine r_iadd dL_law_227 ?_
  refine r_sald rfl dL_law_228 (by rw [nI_add]; exact z_in (by omega) (by omega)) ?_
  refine r_callV (ci := 10) (As := [.int (av xs i 1)]) (rest := [.int v]) moX12_sign dL_law_229 mlL_23 imX12_sign seX12_sign k14 rfl he2 (Nat.le_of_ble_eq_true rfl) (hc2.mono (fun r2 M2 hq => ?_))
  obtain ⟨rfl, hN⟩ := hq
  exact r_icmp_eq (tgt := 1645) dL_law_232 (by decide) (fun _ => hN) (fun c => absurd rfl c)
theorem law_op1 (hi : i + 5 ≤ L) (hL : L ≤ 2560) (h : SmI d mdX11_end mdX12_end m [.int (av xs i 1)] M (fun M2 => Wp d (mdL_law L xs) 1645 (LL m o i) [] M2 Q)) : Wp d (mdL_law L xs) 237 (LL m o i) [] M Q := by
  obtain ⟨k13, e1, he1, hc1⟩ := h
  refine r_aload_n dL_law_237 rfl 1 rfl ?_
  refine r_aload_n dL_law_238 rfl 0 rfl ?_
  refine r_iload dL_law_239 4 rfl ?_
  refine r_iconst (v := nI 1) dL_law_241 rfl ?_
  refine r_iadd dL_law_242 ?_
  refine r_sald rfl dL_law_243 (by rw [nI_add]; exact z_in (by omega) (by omega)) ?_
  refine r_callV (ci := 9) (As := [.int (av xs i 1)]) (rest := []) moX11_end dL_law_244 mlL_24 imX11_end seX11_end k13 rfl he1 (Nat.le_of_ble_eq_true rfl) (hc1.mono (fun r1 M1 hq => ?_))
  obtain ⟨⟨k14, e2, he2, hc2⟩, v, rfl⟩ := hq
  refine r_aload_n dL_law_247 rfl 2 rfl ?_
  refine r_aload_n dL_law_248 rfl 0 rfl ?_
  refine r_iload dL_law_249 4 rfl ?_
  refine r_iconst (v := nI 1) dL_law_251 rfl ?_
  refine r_iadd dL_law_252 ?_
  refine r_sald rfl dL_law_253 (by rw [nI_add]; exact z_in (by omega) (by omega)) ?_
  refine r_callV (ci := 10) (As := [.int (av xs i 1)]) (rest := [.int v]) moX12_end dL_law_254 mlL_28 imX12_end seX12_end k14 rfl he2 (Nat.le_of_ble_eq_true rfl) (hc2.mono (fun r2 M2 hq => ?_))
  obtain ⟨rfl, hN⟩ := hq
  exact r_icmp_eq (tgt := 1645) dL_law_257 (by decide) (fun _ => hN) (fun c => absurd rfl c)
theorem law_op2 (hi : i + 5 ≤ L) (hL : L ≤ 2560) (h : SmI d mdX11_machine mdX12_machine m [] M (fun M2 => Wp d (mdL_law L xs) 1645 (LL m o i) [] M2 Q)) : Wp d (mdL_law L xs) 262 (LL m o i) [] M Q := by
  obtain ⟨k13, e1, he1, hc1⟩ := h
  refine r_aload_n dL_law_262 rfl 1 rfl ?_
  refine r_callV (ci := 9) (As := []) (rest := []) moX11_machine dL_law_263 mlL_29 imX11_machine seX11_machine k13 rfl he1 (Nat.le_of_ble_eq_true rfl) (hc1.mono (fun r1 M1 hq => ?_))
  obtain ⟨⟨k14, e2, he2, hc2⟩, v, rfl⟩ := hq
  refine r_aload_n dL_law_266 rfl 2 rfl ?_
  refine r_callV (ci := 10) (As := []) (rest := [.int v]) moX12_machine dL_law_267 mlL_33 imX12_machine seX12_machine k14 rfl he2 (Nat.le_of_ble_eq_true rfl) (hc2.mono (fun r2 M2 hq => ?_))
  obtain ⟨rfl, hN⟩ := hq
  exact r_icmp_eq (tgt := 1645) dL_law_270 (by decide) (fun _ => hN) (fun c => absurd rfl c)
theorem law_op3 (hi : i + 5 ≤ L) (hL : L ≤ 2560) (h : SmI d mdX11_draws mdX12_draws m [.int (av xs i 1), .int (av xs i 2), .int (av xs i 3), .int (av xs i 4)] M (fun M2 => Wp d (mdL_law L xs) 1645 (LL m o i) [] M2 Q)) : Wp d (mdL_law L xs) 275 (LL m o i) [] M Q := by
  obtain ⟨k13, e1, he1, hc1⟩ := h
  refine r_aload_n dL_law_275 rfl 1 rfl ?_
  refine r_aload_n dL_law_276 rfl 0 rfl ?_
  refine r_iload dL_law_277 4 rfl ?_
  refine r_iconst (v := nI 1) dL_law_279 rfl ?_
  refine r_iadd dL_law_280 ?_
  refine r_sald rfl dL_law_281 (by rw [nI_add]; exact z_in (by omega) (by omega)) ?_
  refine r_aload_n dL_law_282 rfl 0 rfl ?_
  refine r_iload dL_law_283 4 rfl ?_
  refine r_iconst (v := nI 2) dL_law_285 rfl ?_
  refine r_iadd dL_law_286 ?_
  refine r_sald rfl dL_law_287 (by rw [nI_add]; exact z_in (by omega) (by omega)) ?_
  refine r_aload_n dL_law_288 rfl 0 rfl ?_
  refine r_iload dL_law_289 4 rfl ?_
  refine r_iconst (v := nI 3) dL_law_291 rfl ?_
  refine r_iadd dL_law_292 ?_
  refine r_sald rfl dL_law_293 (by rw [nI_add]; exact z_in (by omega) (by omega)) ?_
  refine r_aload_n dL_law_294 rfl 0 rfl ?_
  refine r_iload dL_law_295 4 rfl ?_
  refine r_iconst (v := nI 4) dL_law_297 rfl ?_
  refine r_iadd dL_law_298 ?_
  refine r_sald rfl dL_law_299 (by rw [nI_add]; exact z_in (by omega) (by omega)) ?_
  refine r_callV (ci := 9) (As := [.int (av xs i 1), .int (av xs i 2), .int (av xs i 3), .int (av xs i 4)]) (rest := []) moX11_draws dL_law_300 mlL_34 imX11_draws seX11_draws k13 rfl he1 (Nat.le_of_ble_eq_true rfl) (hc1.mono (fun r1 M1 hq => ?_))
  obtain ⟨⟨k14, e2, he2, hc2⟩, v, rfl⟩ := hq
  refine r_aload_n dL_law_303 rfl 2 rfl ?_
  refine r_aload_n dL_law_304 rfl 0 rfl ?_
  refine r_iload dL_law_305 4 rfl ?_
  refine r_iconst (v := nI 1) dL_law_307 rfl ?_
  refine r_iadd dL_law_308 ?_
  refine r_sald rfl dL_law_309 (by rw [nI_add]; exact z_in (by omega) (by omega)) ?_
  refine r_aload_n dL_law_310 rfl 0 rfl ?_
  refine r_iload dL_law_311 4 rfl ?_
  refine r_iconst (v := nI 2) dL_law_313 rfl ?_
  refine r_iadd dL_law_314 ?_
  refine r_sald rfl dL_law_315 (by rw [nI_add]; exact z_in (by omega) (by omega)) ?_
  refine r_aload_n dL_law_316 rfl 0 rfl ?_
  refine r_iload dL_law_317 4 rfl ?_
  refine r_iconst (v := nI 3) dL_law_319 rfl ?_
  refine r_iadd dL_law_320 ?_
  refine r_sald rfl dL_law_321 (by rw [nI_add]; exact z_in (by omega) (by omega)) ?_
  refine r_aload_n dL_law_322 rfl 0 rfl ?_
  refine r_iload dL_law_323 4 rfl ?_
  refine r_iconst (v := nI 4) dL_law_325 rfl ?_
  refine r_iadd dL_law_326 ?_
  refine r_sald rfl dL_law_327 (by rw [nI_add]; exact z_in (by omega) (by omega)) ?_
  refine r_callV (ci := 10) (As := [.int (av xs i 1), .int (av xs i 2), .int (av xs i 3), .int (av xs i 4)]) (rest := [.int v]) moX12_draws dL_law_328 mlL_38 imX12_draws seX12_draws k14 rfl he2 (Nat.le_of_ble_eq_true rfl) (hc2.mono (fun r2 M2 hq => ?_))
  obtain ⟨rfl, hN⟩ := hq
  exact r_icmp_eq (tgt := 1645) dL_law_331 (by decide) (fun _ => hN) (fun c => absurd rfl c)
theorem law_op4 (hi : i + 5 ≤ L) (hL : L ≤ 2560) (h : SmI d mdX11_state mdX12_state m [.int (av xs i 1), .int (av xs i 2)] M (fun M2 => Wp d (mdL_law L xs) 1645 (LL m o i) [] M2 Q)) : Wp d (mdL_law L xs) 336 (LL m o i) [] M Q := by
  obtain ⟨k13, e1, he1, hc1⟩ := h
  refine r_aload_n dL_law_336 rfl 1 rfl ?_
  refine r_aload_n dL_law_337 rfl 0 rfl ?_
  refine r_iload dL_law_338 4 rfl ?_
  refine r_iconst (v := nI 1) dL_law_340 rfl ?_
  refine r_iadd dL_law_341 ?_
  refine r_sald rfl dL_law_342 (by rw [nI_add]; exact z_in (by omega) (by omega)) ?_
  refine r_aload_n dL_law_343 rfl 0 rfl ?_
  refine r_iload dL_law_344 4 rfl ?_
  refine r_iconst (v := nI 2) dL_law_346 rfl ?_
  refine r_iadd dL_law_347 ?_
  refine r_sald rfl dL_law_348 (by rw [nI_add]; exact z_in (by omega) (by omega)) ?_
  refine r_callV (ci := 9) (As := [.int (av xs i 1), .int (av xs i 2)]) (rest := []) moX11_state dL_law_349 mlL_39 imX11_state seX11_state k13 rfl he1 (Nat.le_of_ble_eq_true rfl) (hc1.mono (fun r1 M1 hq => ?_))
  obtain ⟨⟨k14, e2, he2, hc2⟩, v, rfl⟩ := hq
  refine r_aload_n dL_law_352 rfl 2 rfl ?_
  refine r_aload_n dL_law_353 rfl 0 rfl ?_
  refine r_iload dL_law_354 4 rfl ?_
  refine r_iconst (v := nI 1) dL_law_356 rfl ?_
  refine r_iadd dL_law_357 ?_
  refine r_sald rfl dL_law_358 (by rw [nI_add]; exact z_in (by omega) (by omega)) ?_
  refine r_aload_n dL_law_359 rfl 0 rfl ?_
  refine r_iload dL_law_360 4 rfl ?_
  refine r_iconst (v := nI 2) dL_law_362 rfl ?_
  refine r_iadd dL_law_363 ?_
  refine r_sald rfl dL_law_364 (by rw [nI_add]; exact z_in (by omega) (by omega)) ?_
  refine r_callV (ci := 10) (As := [.int (av xs i 1), .int (av xs i 2)]) (rest := [.int v]) moX12_state dL_law_365 mlL_43 imX12_state seX12_state k14 rfl he2 (Nat.le_of_ble_eq_true rfl) (hc2.mono (fun r2 M2 hq => ?_))
  obtain ⟨rfl, hN⟩ := hq
  exact r_icmp_eq (tgt := 1645) dL_law_368 (by decide) (fun _ => hN) (fun c => absurd rfl c)
theorem law_op5 (hi : i + 5 ≤ L) (hL : L ≤ 2560) (h : SmI d mdX11_run mdX12_run m [.long (lv2 xs i 1 2)] M (fun M2 => Wp d (mdL_law L xs) 1645 (LL m o i) [] M2 Q)) : Wp d (mdL_law L xs) 373 (LL m o i) [] M Q := by
  obtain ⟨k13, e1, he1, hc1⟩ := h
  refine r_aload_n dL_law_373 rfl 1 rfl ?_
  refine r_aload_n dL_law_374 rfl 0 rfl ?_
  refine r_iload dL_law_375 4 rfl ?_
  refine r_iconst (v := nI 1) dL_law_377 rfl ?_
  refine r_iadd dL_law_378 ?_
  refine r_sald rfl dL_law_379 (by rw [nI_add]; exact z_in (by omega) (by omega)) ?_
  refine r_i2l dL_law_380 ?_
  refine r_bipush (v := nI 32) dL_law_381 rfl ?_
  refine r_lshl dL_law_383 ?_
  refine r_aload_n dL_law_384 rfl 0 rfl ?_
  refine r_iload dL_law_385 4 rfl ?_
  refine r_iconst (v := nI 2) dL_law_387 rfl ?_
  refine r_iadd dL_law_388 ?_
  refine r_sald rfl dL_law_389 (by rw [nI_add]; exact z_in (by omega) (by omega)) ?_
  refine r_i2l dL_law_390 ?_
  refine r_ldc2 dL_law_391 kwL_44 ?_
  refine r_land dL_law_394 ?_
  refine r_lor dL_law_395 ?_
  refine r_callV (ci := 9) (As := [.long (lv2 xs i 1 2)]) (rest := []) moX11_run dL_law_396 mlL_46 imX11_run seX11_run k13 rfl he1 (Nat.le_of_ble_eq_true rfl) (hc1.mono (fun r1 M1 hq => ?_))
  obtain ⟨⟨k14, e2, he2, hc2⟩, v, rfl⟩ := hq
  refine r_aload_n dL_law_399 rfl 2 rfl ?_
  refine r_aload_n dL_law_400 rfl 0 rfl ?_
  refine r_iload dL_law_401 4 rfl ?_
  refine r_iconst (v := nI 1) dL_law_403 rfl ?_
  refine r_iadd dL_law_404 ?_
  refine r_sald rfl dL_law_405 (by rw [nI_add]; exact z_in (by omega) (by omega)) ?_
  refine r_i2l dL_law_406 ?_
  refine r_bipush (v := nI 32) dL_law_407 rfl ?_
  refine r_lshl dL_law_409 ?_
  refine r_aload_n dL_law_410 rfl 0 rfl ?_
  refine r_iload dL_law_411 4 rfl ?_
  refine r_iconst (v := nI 2) dL_law_413 rfl ?_
  refine r_iadd dL_law_414 ?_
  refine r_sald rfl dL_law_415 (by rw [nI_add]; exact z_in (by omega) (by omega)) ?_
  refine r_i2l dL_law_416 ?_
  refine r_ldc2 dL_law_417 kwL_44 ?_
  refine r_land dL_law_420 ?_
  refine r_lor dL_law_421 ?_
  refine r_callV (ci := 10) (As := [.long (lv2 xs i 1 2)]) (rest := [.int v]) moX12_run dL_law_422 mlL_50 imX12_run seX12_run k14 rfl he2 (Nat.le_of_ble_eq_true rfl) (hc2.mono (fun r2 M2 hq => ?_))
  obtain ⟨rfl, hN⟩ := hq
  exact r_icmp_eq (tgt := 1645) dL_law_425 (by decide) (fun _ => hN) (fun c => absurd rfl c)
theorem law_op6 (hi : i + 5 ≤ L) (hL : L ≤ 2560) (h : SmJ d mdX11_joins mdX12_joins m [.long (lv2 xs i 1 2), .long (lv2 xs i 3 4)] M (fun M2 => Wp d (mdL_law L xs) 1645 (LL m o i) [] M2 Q)) : Wp d (mdL_law L xs) 430 (LL m o i) [] M Q := by
  obtain ⟨k13, e1, he1, hc1⟩ := h
  refine r_aload_n dL_law_430 rfl 1 rfl ?_
  refine r_aload_n dL_law_431 rfl 0 rfl ?_
  refine r_iload dL_law_432 4 rfl ?_
  refine r_iconst (v := nI 1) dL_law_434 rfl ?_
  refine r_iadd dL_law_435 ?_
  refine r_sald rfl dL_law_436 (by rw [nI_add]; exact z_in (by omega) (by omega)) ?_
  refine r_i2l dL_law_437 ?_
  refine r_bipush (v := nI 32) dL_law_438 rfl ?_
  refine r_lshl dL_law_440 ?_
  refine r_aload_n dL_law_441 rfl 0 rfl ?_
  refine r_iload dL_law_442 4 rfl ?_
  refine r_iconst (v := nI 2) dL_law_444 rfl ?_
  refine r_iadd dL_law_445 ?_
  refine r_sald rfl dL_law_446 (by rw [nI_add]; exact z_in (by omega) (by omega)) ?_
  refine r_i2l dL_law_447 ?_
  refine r_ldc2 dL_law_448 kwL_44 ?_
  refine r_land dL_law_451 ?_
  refine r_lor dL_law_452 ?_
  refine r_aload_n dL_law_453 rfl 0 rfl ?_
  refine r_iload dL_law_454 4 rfl ?_
  refine r_iconst (v := nI 3) dL_law_456 rfl ?_
  refine r_iadd dL_law_457 ?_
  refine r_sald rfl dL_law_458 (by rw [nI_add]; exact z_in (by omega) (by omega)) ?_
  refine r_i2l dL_law_459 ?_
  refine r_bipush (v := nI 32) dL_law_460 rfl ?_
  refine r_lshl dL_law_462 ?_
  refine r_aload_n dL_law_463 rfl 0 rfl ?_
  refine r_iload dL_law_464 4 rfl ?_
  refine r_iconst (v := nI 4) dL_law_466 rfl ?_
  refine r_iadd dL_law_467 ?_
  refine r_sald rfl dL_law_468 (by rw [nI_add]; exact z_in (by omega) (by omega)) ?_
  refine r_i2l dL_law_469 ?_
  refine r_ldc2 dL_law_470 kwL_44 ?_
  refine r_land dL_law_473 ?_
  refine r_lor dL_law_474 ?_
  refine r_callV (ci := 9) (As := [.long (lv2 xs i 1 2), .long (lv2 xs i 3 4)]) (rest := []) moX11_joins dL_law_475 mlL_51 imX11_joins seX11_joins k13 rfl he1 (Nat.le_of_ble_eq_true rfl) (hc1.mono (fun r1 M1 hq => ?_))
  obtain ⟨⟨k14, e2, he2, hc2⟩, v, rfl⟩ := hq
  refine r_aload_n dL_law_478 rfl 2 rfl ?_
  refine r_aload_n dL_law_479 rfl 0 rfl ?_
  refine r_iload dL_law_480 4 rfl ?_
  refine r_iconst (v := nI 1) dL_law_482 rfl ?_
  refine r_iadd dL_law_483 ?_
  refine r_sald rfl dL_law_484 (by rw [nI_add]; exact z_in (by omega) (by omega)) ?_
  refine r_i2l dL_law_485 ?_
  refine r_bipush (v := nI 32) dL_law_486 rfl ?_
  refine r_lshl dL_law_488 ?_
  refine r_aload_n dL_law_489 rfl 0 rfl ?_
  refine r_iload dL_law_490 4 rfl ?_
  refine r_iconst (v := nI 2) dL_law_492 rfl ?_
  refine r_iadd dL_law_493 ?_
  refine r_sald rfl dL_law_494 (by rw [nI_add]; exact z_in (by omega) (by omega)) ?_
  refine r_i2l dL_law_495 ?_
  refine r_ldc2 dL_law_496 kwL_44 ?_
  refine r_land dL_law_499 ?_
  refine r_lor dL_law_500 ?_
  refine r_aload_n dL_law_501 rfl 0 rfl ?_
  refine r_iload dL_law_502 4 rfl ?_
  refine r_iconst (v := nI 3) dL_law_504 rfl ?_
  refine r_iadd dL_law_505 ?_
  refine r_sald rfl dL_law_506 (by rw [nI_add]; exact z_in (by omega) (by omega)) ?_
  refine r_i2l dL_law_507 ?_
  refine r_bipush (v := nI 32) dL_law_508 rfl ?_
  refine r_lshl dL_law_510 ?_
  refine r_aload_n dL_law_511 rfl 0 rfl ?_
  refine r_iload dL_law_512 4 rfl ?_
  refine r_iconst (v := nI 4) dL_law_514 rfl ?_
  refine r_iadd dL_law_515 ?_
  refine r_sald rfl dL_law_516 (by rw [nI_add]; exact z_in (by omega) (by omega)) ?_
  refine r_i2l dL_law_517 ?_
  refine r_ldc2 dL_law_518 kwL_44 ?_
  refine r_land dL_law_521 ?_
  refine r_lor dL_law_522 ?_
  refine r_callV (ci := 10) (As := [.long (lv2 xs i 1 2), .long (lv2 xs i 3 4)]) (rest := [.long v]) moX12_joins dL_law_523 mlL_55 imX12_joins seX12_joins k14 rfl he2 (Nat.le_of_ble_eq_true rfl) (hc2.mono (fun r2 M2 hq => ?_))
  obtain ⟨rfl, hN⟩ := hq
  exact r_lif_eq (tgt := 1645) dL_law_526 dL_law_527 (by decide) (fun _ => hN) (fun c => absurd rfl c)
theorem law_op7 (hi : i + 5 ≤ L) (hL : L ≤ 2560) (h : SmI d mdX11_letter mdX12_letter m [.long (lv2 xs i 1 2), .int (av xs i 3)] M (fun M2 => Wp d (mdL_law L xs) 1645 (LL m o i) [] M2 Q)) : Wp d (mdL_law L xs) 532 (LL m o i) [] M Q := by
  obtain ⟨k13, e1, he1, hc1⟩ := h
  refine r_aload_n dL_law_532 rfl 1 rfl ?_
  refine r_aload_n dL_law_533 rfl 0 rfl ?_
  refine r_iload dL_law_534 4 rfl ?_
  refine r_iconst (v := nI 1) dL_law_536 rfl ?_
  refine r_iadd dL_law_537 ?_
  refine r_sald rfl dL_law_538 (by rw [nI_add]; exact z_in (by omega) (by omega)) ?_
  refine r_i2l dL_law_539 ?_
  refine r_bipush (v := nI 32) dL_law_540 rfl ?_
  refine r_lshl dL_law_542 ?_
  refine r_aload_n dL_law_543 rfl 0 rfl ?_
  refine r_iload dL_law_544 4 rfl ?_
  refine r_iconst (v := nI 2) dL_law_546 rfl ?_
  refine r_iadd dL_law_547 ?_
  refine r_sald rfl dL_law_548 (by rw [nI_add]; exact z_in (by omega) (by omega)) ?_
  refine r_i2l dL_law_549 ?_
  refine r_ldc2 dL_law_550 kwL_44 ?_
  refine r_land dL_law_553 ?_
  refine r_lor dL_law_554 ?_
  refine r_aload_n dL_law_555 rfl 0 rfl ?_
  refine r_iload dL_law_556 4 rfl ?_
  refine r_iconst (v := nI 3) dL_law_558 rfl ?_
  refine r_iadd dL_law_559 ?_
  refine r_sald rfl dL_law_560 (by rw [nI_add]; exact z_in (by omega) (by omega)) ?_
  refine r_callV (ci := 9) (As := [.long (lv2 xs i 1 2), .int (av xs i 3)]) (rest := []) moX11_letter dL_law_561 mlL_56 imX11_letter seX11_letter k13 rfl he1 (Nat.le_of_ble_eq_true rfl) (hc1.mono (fun r1 M1 hq => ?_))
  obtain ⟨⟨k14, e2, he2, hc2⟩, v, rfl⟩ := hq
  refine r_aload_n dL_law_564 rfl 2 rfl ?_
  refine r_aload_n dL_law_565 rfl 0 rfl ?_
  refine r_iload dL_law_566 4 rfl ?_
  refine r_iconst (v := nI 1) dL_law_568 rfl ?_
  refine r_iadd dL_law_569 ?_
  refine r_sald rfl dL_law_570 (by rw [nI_add]; exact z_in (by omega) (by omega)) ?_
  refine r_i2l dL_law_571 ?_
  refine r_bipush (v := nI 32) dL_law_572 rfl ?_
  refine r_lshl dL_law_574 ?_
  refine r_aload_n dL_law_575 rfl 0 rfl ?_
  refine r_iload dL_law_576 4 rfl ?_
  refine r_iconst (v := nI 2) dL_law_578 rfl ?_
  refine r_iadd dL_law_579 ?_
  refine r_sald rfl dL_law_580 (by rw [nI_add]; exact z_in (by omega) (by omega)) ?_
  refine r_i2l dL_law_581 ?_
  refine r_ldc2 dL_law_582 kwL_44 ?_
  refine r_land dL_law_585 ?_
  refine r_lor dL_law_586 ?_
  refine r_aload_n dL_law_587 rfl 0 rfl ?_
  refine r_iload dL_law_588 4 rfl ?_
  refine r_iconst (v := nI 3) dL_law_590 rfl ?_
  refine r_iadd dL_law_591 ?_
  refine r_sald rfl dL_law_592 (by rw [nI_add]; exact z_in (by omega) (by omega)) ?_
  refine r_callV (ci := 10) (As := [.long (lv2 xs i 1 2), .int (av xs i 3)]) (rest := [.int v]) moX12_letter dL_law_593 mlL_60 imX12_letter seX12_letter k14 rfl he2 (Nat.le_of_ble_eq_true rfl) (hc2.mono (fun r2 M2 hq => ?_))
  obtain ⟨rfl, hN⟩ := hq
  exact r_icmp_eq (tgt := 1645) dL_law_596 (by decide) (fun _ => hN) (fun c => absurd rfl c)
theorem law_op8 (hi : i + 5 ≤ L) (hL : L ≤ 2560) (h : SmJ d mdX11_cut mdX12_cut m [.long (lv2 xs i 1 2), .int (av xs i 3)] M (fun M2 => Wp d (mdL_law L xs) 1645 (LL m o i) [] M2 Q)) : Wp d (mdL_law L xs) 601 (LL m o i) [] M Q := by
  obtain ⟨k13, e1, he1, hc1⟩ := h
  refine r_aload_n dL_law_601 rfl 1 rfl ?_
  refine r_aload_n dL_law_602 rfl 0 rfl ?_
  refine r_iload dL_law_603 4 rfl ?_
  refine r_iconst (v := nI 1) dL_law_605 rfl ?_
  refine r_iadd dL_law_606 ?_
  refine r_sald rfl dL_law_607 (by rw [nI_add]; exact z_in (by omega) (by omega)) ?_
  refine r_i2l dL_law_608 ?_
  refine r_bipush (v := nI 32) dL_law_609 rfl ?_
  refine r_lshl dL_law_611 ?_
  refine r_aload_n dL_law_612 rfl 0 rfl ?_
  refine r_iload dL_law_613 4 rfl ?_
  refine r_iconst (v := nI 2) dL_law_615 rfl ?_
  refine r_iadd dL_law_616 ?_
  refine r_sald rfl dL_law_617 (by rw [nI_add]; exact z_in (by omega) (by omega)) ?_
  refine r_i2l dL_law_618 ?_
  refine r_ldc2 dL_law_619 kwL_44 ?_
  refine r_land dL_law_622 ?_
  refine r_lor dL_law_623 ?_
  refine r_aload_n dL_law_624 rfl 0 rfl ?_
  refine r_iload dL_law_625 4 rfl ?_
  refine r_iconst (v := nI 3) dL_law_627 rfl ?_
  refine r_iadd dL_law_628 ?_
  refine r_sald rfl dL_law_629 (by rw [nI_add]; exact z_in (by omega) (by omega)) ?_
  refine r_callV (ci := 9) (As := [.long (lv2 xs i 1 2), .int (av xs i 3)]) (rest := []) moX11_cut dL_law_630 mlL_61 imX11_cut seX11_cut k13 rfl he1 (Nat.le_of_ble_eq_true rfl) (hc1.mono (fun r1 M1 hq => ?_))
  obtain ⟨⟨k14, e2, he2, hc2⟩, v, rfl⟩ := hq
  refine r_aload_n dL_law_633 rfl 2 rfl ?_
  refine r_aload_n dL_law_634 rfl 0 rfl ?_
  refine r_iload dL_law_635 4 rfl ?_
  refine r_iconst (v := nI 1) dL_law_637 rfl ?_
  refine r_iadd dL_law_638 ?_
  refine r_sald rfl dL_law_639 (by rw [nI_add]; exact z_in (by omega) (by omega)) ?_
  refine r_i2l dL_law_640 ?_
  refine r_bipush (v := nI 32) dL_law_641 rfl ?_
  refine r_lshl dL_law_643 ?_
  refine r_aload_n dL_law_644 rfl 0 rfl ?_
  refine r_iload dL_law_645 4 rfl ?_
  refine r_iconst (v := nI 2) dL_law_647 rfl ?_
  refine r_iadd dL_law_648 ?_
  refine r_sald rfl dL_law_649 (by rw [nI_add]; exact z_in (by omega) (by omega)) ?_
  refine r_i2l dL_law_650 ?_
  refine r_ldc2 dL_law_651 kwL_44 ?_
  refine r_land dL_law_654 ?_
  refine r_lor dL_law_655 ?_
  refine r_aload_n dL_law_656 rfl 0 rfl ?_
  refine r_iload dL_law_657 4 rfl ?_
  refine r_iconst (v := nI 3) dL_law_659 rfl ?_
  refine r_iadd dL_law_660 ?_
  refine r_sald rfl dL_law_661 (by rw [nI_add]; exact z_in (by omega) (by omega)) ?_
  refine r_callV (ci := 10) (As := [.long (lv2 xs i 1 2), .int (av xs i 3)]) (rest := [.long v]) moX12_cut dL_law_662 mlL_65 imX12_cut seX12_cut k14 rfl he2 (Nat.le_of_ble_eq_true rfl) (hc2.mono (fun r2 M2 hq => ?_))
  obtain ⟨rfl, hN⟩ := hq
  exact r_lif_eq (tgt := 1645) dL_law_665 dL_law_666 (by decide) (fun _ => hN) (fun c => absurd rfl c)
theorem law_op9 (hi : i + 5 ≤ L) (hL : L ≤ 2560) (h : SmJ d mdX11_word mdX12_word m [.int (av xs i 1)] M (fun M2 => Wp d (mdL_law L xs) 1645 (LL m o i) [] M2 Q)) : Wp d (mdL_law L xs) 671 (LL m o i) [] M Q := by
  obtain ⟨k13, e1, he1, hc1⟩ := h
  refine r_aload_n dL_law_671 rfl 1 rfl ?_
  refine r_aload_n dL_law_672 rfl 0 rfl ?_
  refine r_iload dL_law_673 4 rfl ?_
  refine r_iconst (v := nI 1) dL_law_675 rfl ?_
  refine r_iadd dL_law_676 ?_
  refine r_sald rfl dL_law_677 (by rw [nI_add]; exact z_in (by omega) (by omega)) ?_
  refine r_callV (ci := 9) (As := [.int (av xs i 1)]) (rest := []) moX11_word dL_law_678 mlL_66 imX11_word seX11_word k13 rfl he1 (Nat.le_of_ble_eq_true rfl) (hc1.mono (fun r1 M1 hq => ?_))
  obtain ⟨⟨k14, e2, he2, hc2⟩, v, rfl⟩ := hq
  refine r_aload_n dL_law_681 rfl 2 rfl ?_
  refine r_aload_n dL_law_682 rfl 0 rfl ?_
  refine r_iload dL_law_683 4 rfl ?_
  refine r_iconst (v := nI 1) dL_law_685 rfl ?_
  refine r_iadd dL_law_686 ?_
  refine r_sald rfl dL_law_687 (by rw [nI_add]; exact z_in (by omega) (by omega)) ?_
  refine r_callV (ci := 10) (As := [.int (av xs i 1)]) (rest := [.long v]) moX12_word dL_law_688 mlL_69 imX12_word seX12_word k14 rfl he2 (Nat.le_of_ble_eq_true rfl) (hc2.mono (fun r2 M2 hq => ?_))
  obtain ⟨rfl, hN⟩ := hq
  exact r_lif_eq (tgt := 1645) dL_law_691 dL_law_692 (by decide) (fun _ => hN) (fun c => absurd rfl c)
theorem law_op10 (hi : i + 5 ≤ L) (hL : L ≤ 2560) (h : SmI d mdX11_prices mdX12_prices m [.int (av xs i 1), .int (av xs i 2)] M (fun M2 => Wp d (mdL_law L xs) 1645 (LL m o i) [] M2 Q)) : Wp d (mdL_law L xs) 697 (LL m o i) [] M Q := by
  obtain ⟨k13, e1, he1, hc1⟩ := h
  refine r_aload_n dL_law_697 rfl 1 rfl ?_
  refine r_aload_n dL_law_698 rfl 0 rfl ?_
  refine r_iload dL_law_699 4 rfl ?_
  refine r_iconst (v := nI 1) dL_law_701 rfl ?_
  refine r_iadd dL_law_702 ?_
  refine r_sald rfl dL_law_703 (by rw [nI_add]; exact z_in (by omega) (by omega)) ?_
  refine r_aload_n dL_law_704 rfl 0 rfl ?_
  refine r_iload dL_law_705 4 rfl ?_
  refine r_iconst (v := nI 2) dL_law_707 rfl ?_
  refine r_iadd dL_law_708 ?_
  refine r_sald rfl dL_law_709 (by rw [nI_add]; exact z_in (by omega) (by omega)) ?_
  refine r_callV (ci := 9) (As := [.int (av xs i 1), .int (av xs i 2)]) (rest := []) moX11_prices dL_law_710 mlL_70 imX11_prices seX11_prices k13 rfl he1 (Nat.le_of_ble_eq_true rfl) (hc1.mono (fun r1 M1 hq => ?_))
  obtain ⟨⟨k14, e2, he2, hc2⟩, v, rfl⟩ := hq
  refine r_aload_n dL_law_713 rfl 2 rfl ?_
  refine r_aload_n dL_law_714 rfl 0 rfl ?_
  refine r_iload dL_law_715 4 rfl ?_
  refine r_iconst (v := nI 1) dL_law_717 rfl ?_
  refine r_iadd dL_law_718 ?_
  refine r_sald rfl dL_law_719 (by rw [nI_add]; exact z_in (by omega) (by omega)) ?_
  refine r_aload_n dL_law_720 rfl 0 rfl ?_
  refine r_iload dL_law_721 4 rfl ?_
  refine r_iconst (v := nI 2) dL_law_723 rfl ?_
  refine r_iadd dL_law_724 ?_
  refine r_sald rfl dL_law_725 (by rw [nI_add]; exact z_in (by omega) (by omega)) ?_
  refine r_callV (ci := 10) (As := [.int (av xs i 1), .int (av xs i 2)]) (rest := [.int v]) moX12_prices dL_law_726 mlL_74 imX12_prices seX12_prices k14 rfl he2 (Nat.le_of_ble_eq_true rfl) (hc2.mono (fun r2 M2 hq => ?_))
  obtain ⟨rfl, hN⟩ := hq
  exact r_icmp_eq (tgt := 1645) dL_law_729 (by decide) (fun _ => hN) (fun c => absurd rfl c)
theorem law_op11 (hi : i + 5 ≤ L) (hL : L ≤ 2560) (h : SmI d mdX11_method mdX12_method m [.int (av xs i 1)] M (fun M2 => Wp d (mdL_law L xs) 1645 (LL m o i) [] M2 Q)) : Wp d (mdL_law L xs) 734 (LL m o i) [] M Q := by
  obtain ⟨k13, e1, he1, hc1⟩ := h
  refine r_aload_n dL_law_734 rfl 1 rfl ?_
  refine r_aload_n dL_law_735 rfl 0 rfl ?_
  refine r_iload dL_law_736 4 rfl ?_
  refine r_iconst (v := nI 1) dL_law_738 rfl ?_
  refine r_iadd dL_law_739 ?_
  refine r_sald rfl dL_law_740 (by rw [nI_add]; exact z_in (by omega) (by omega)) ?_
  refine r_callV (ci := 9) (As := [.int (av xs i 1)]) (rest := []) moX11_method dL_law_741 mlL_75 imX11_method seX11_method k13 rfl he1 (Nat.le_of_ble_eq_true rfl) (hc1.mono (fun r1 M1 hq => ?_))
  obtain ⟨⟨k14, e2, he2, hc2⟩, v, rfl⟩ := hq
  refine r_aload_n dL_law_744 rfl 2 rfl ?_
  refine r_aload_n dL_law_745 rfl 0 rfl ?_
  refine r_iload dL_law_746 4 rfl ?_
  refine r_iconst (v := nI 1) dL_law_748 rfl ?_
  refine r_iadd dL_law_749 ?_
  refine r_sald rfl dL_law_750 (by rw [nI_add]; exact z_in (by omega) (by omega)) ?_
  refine r_callV (ci := 10) (As := [.int (av xs i 1)]) (rest := [.int v]) moX12_method dL_law_751 mlL_78 imX12_method seX12_method k14 rfl he2 (Nat.le_of_ble_eq_true rfl) (hc2.mono (fun r2 M2 hq => ?_))
  obtain ⟨rfl, hN⟩ := hq
  exact r_icmp_eq (tgt := 1645) dL_law_754 (by decide) (fun _ => hN) (fun c => absurd rfl c)
theorem law_op12 (hi : i + 5 ≤ L) (hL : L ≤ 2560) (h : SmI d mdX11_asks mdX12_asks m [.long (lv2 xs i 1 2)] M (fun M2 => Wp d (mdL_law L xs) 1645 (LL m o i) [] M2 Q)) : Wp d (mdL_law L xs) 759 (LL m o i) [] M Q := by
  obtain ⟨k13, e1, he1, hc1⟩ := h
  refine r_aload_n dL_law_759 rfl 1 rfl ?_
  refine r_aload_n dL_law_760 rfl 0 rfl ?_
  refine r_iload dL_law_761 4 rfl ?_
  refine r_iconst (v := nI 1) dL_law_763 rfl ?_
  refine r_iadd dL_law_764 ?_
  refine r_sald rfl dL_law_765 (by rw [nI_add]; exact z_in (by omega) (by omega)) ?_
  refine r_i2l dL_law_766 ?_
  refine r_bipush (v := nI 32) dL_law_767 rfl ?_
  refine r_lshl dL_law_769 ?_
  refine r_aload_n dL_law_770 rfl 0 rfl ?_
  refine r_iload dL_law_771 4 rfl ?_
  refine r_iconst (v := nI 2) dL_law_773 rfl ?_
  refine r_iadd dL_law_774 ?_
  refine r_sald rfl dL_law_775 (by rw [nI_add]; exact z_in (by omega) (by omega)) ?_
  refine r_i2l dL_law_776 ?_
  refine r_ldc2 dL_law_777 kwL_44 ?_
  refine r_land dL_law_780 ?_
  refine r_lor dL_law_781 ?_
  refine r_callV (ci := 9) (As := [.long (lv2 xs i 1 2)]) (rest := []) moX11_asks dL_law_782 mlL_79 imX11_asks seX11_asks k13 rfl he1 (Nat.le_of_ble_eq_true rfl) (hc1.mono (fun r1 M1 hq => ?_))
  obtain ⟨⟨k14, e2, he2, hc2⟩, v, rfl⟩ := hq
  refine r_aload_n dL_law_785 rfl 2 rfl ?_
  refine r_aload_n dL_law_786 rfl 0 rfl ?_
  refine r_iload dL_law_787 4 rfl ?_
  refine r_iconst (v := nI 1) dL_law_789 rfl ?_
  refine r_iadd dL_law_790 ?_
  refine r_sald rfl dL_law_791 (by rw [nI_add]; exact z_in (by omega) (by omega)) ?_
  refine r_i2l dL_law_792 ?_
  refine r_bipush (v := nI 32) dL_law_793 rfl ?_
  refine r_lshl dL_law_795 ?_
  refine r_aload_n dL_law_796 rfl 0 rfl ?_
  refine r_iload dL_law_797 4 rfl ?_
  refine r_iconst (v := nI 2) dL_law_799 rfl ?_
  refine r_iadd dL_law_800 ?_
  refine r_sald rfl dL_law_801 (by rw [nI_add]; exact z_in (by omega) (by omega)) ?_
  refine r_i2l dL_law_802 ?_
  refine r_ldc2 dL_law_803 kwL_44 ?_
  refine r_land dL_law_806 ?_
  refine r_lor dL_law_807 ?_
  refine r_callV (ci := 10) (As := [.long (lv2 xs i 1 2)]) (rest := [.int v]) moX12_asks dL_law_808 mlL_82 imX12_asks seX12_asks k14 rfl he2 (Nat.le_of_ble_eq_true rfl) (hc2.mono (fun r2 M2 hq => ?_))
  obtain ⟨rfl, hN⟩ := hq
  exact r_icmp_eq (tgt := 1645) dL_law_811 (by decide) (fun _ => hN) (fun c => absurd rfl c)
theorem law_op13 (hi : i + 5 ≤ L) (hL : L ≤ 2560) (h : SmI d mdX11_known mdX12_known m [.long (lv2 xs i 1 2)] M (fun M2 => Wp d (mdL_law L xs) 1645 (LL m o i) [] M2 Q)) : Wp d (mdL_law L xs) 816 (LL m o i) [] M Q := by
  obtain ⟨k13, e1, he1, hc1⟩ := h
  refine r_aload_n dL_law_816 rfl 1 rfl ?_
  refine r_aload_n dL_law_817 rfl 0 rfl ?_
  refine r_iload dL_law_818 4 rfl ?_
  refine r_iconst (v := nI 1) dL_law_820 rfl ?_
  refine r_iadd dL_law_821 ?_
  refine r_sald rfl dL_law_822 (by rw [nI_add]; exact z_in (by omega) (by omega)) ?_
  refine r_i2l dL_law_823 ?_
  refine r_bipush (v := nI 32) dL_law_824 rfl ?_
  refine r_lshl dL_law_826 ?_
  refine r_aload_n dL_law_827 rfl 0 rfl ?_
  refine r_iload dL_law_828 4 rfl ?_
  refine r_iconst (v := nI 2) dL_law_830 rfl ?_
  refine r_iadd dL_law_831 ?_
  refine r_sald rfl dL_law_832 (by rw [nI_add]; exact z_in (by omega) (by omega)) ?_
  refine r_i2l dL_law_833 ?_
  refine r_ldc2 dL_law_834 kwL_44 ?_
  refine r_land dL_law_837 ?_
  refine r_lor dL_law_838 ?_
  refine r_callV (ci := 9) (As := [.long (lv2 xs i 1 2)]) (rest := []) moX11_known dL_law_839 mlL_83 imX11_known seX11_known k13 rfl he1 (Nat.le_of_ble_eq_true rfl) (hc1.mono (fun r1 M1 hq => ?_))
  obtain ⟨⟨k14, e2, he2, hc2⟩, v, rfl⟩ := hq
  refine r_aload_n dL_law_842 rfl 2 rfl ?_
  refine r_aload_n dL_law_843 rfl 0 rfl ?_
  refine r_iload dL_law_844 4 rfl ?_
  refine r_iconst (v := nI 1) dL_law_846 rfl ?_
  refine r_iadd dL_law_847 ?_
  refine r_sald rfl dL_law_848 (by rw [nI_add]; exact z_in (by omega) (by omega)) ?_
  refine r_i2l dL_law_849 ?_
  refine r_bipush (v := nI 32) dL_law_850 rfl ?_
  refine r_lshl dL_law_852 ?_
  refine r_aload_n dL_law_853 rfl 0 rfl ?_
  refine r_iload dL_law_854 4 rfl ?_
  refine r_iconst (v := nI 2) dL_law_856 rfl ?_
  refine r_iadd dL_law_857 ?_
  refine r_sald rfl dL_law_858 (by rw [nI_add]; exact z_in (by omega) (by omega)) ?_
  refine r_i2l dL_law_859 ?_
  refine r_ldc2 dL_law_860 kwL_44 ?_
  refine r_land dL_law_863 ?_
  refine r_lor dL_law_864 ?_
  refine r_callV (ci := 10) (As := [.long (lv2 xs i 1 2)]) (rest := [.int v]) moX12_known dL_law_865 mlL_86 imX12_known seX12_known k14 rfl he2 (Nat.le_of_ble_eq_true rfl) (hc2.mono (fun r2 M2 hq => ?_))
  obtain ⟨rfl, hN⟩ := hq
  exact r_icmp_eq (tgt := 1645) dL_law_868 (by decide) (fun _ => hN) (fun c => absurd rfl c)
theorem law_op14 (hi : i + 5 ≤ L) (hL : L ≤ 2560) (h : SmI d mdX11_step mdX12_step m [] M (fun M2 => Wp d (mdL_law L xs) 1645 (LL m o i) [] M2 Q)) : Wp d (mdL_law L xs) 873 (LL m o i) [] M Q := by
  obtain ⟨k13, e1, he1, hc1⟩ := h
  refine r_aload_n dL_law_873 rfl 1 rfl ?_
  refine r_callV (ci := 9) (As := []) (rest := []) moX11_step dL_law_874 mlL_87 imX11_step seX11_step k13 rfl he1 (Nat.le_of_ble_eq_true rfl) (hc1.mono (fun r1 M1 hq => ?_))
  obtain ⟨⟨k14, e2, he2, hc2⟩, v, rfl⟩ := hq
  refine r_aload_n dL_law_877 rfl 2 rfl ?_
  refine r_callV (ci := 10) (As := []) (rest := [.int v]) moX12_step dL_law_878 mlL_90 imX12_step seX12_step k14 rfl he2 (Nat.le_of_ble_eq_true rfl) (hc2.mono (fun r2 M2 hq => ?_))
  obtain ⟨rfl, hN⟩ := hq
  exact r_icmp_eq (tgt := 1645) dL_law_881 (by decide) (fun _ => hN) (fun c => absurd rfl c)
theorem law_op15 (hi : i + 5 ≤ L) (hL : L ≤ 2560) (h : SmI d mdX11_guess mdX12_guess m [] M (fun M2 => Wp d (mdL_law L xs) 1645 (LL m o i) [] M2 Q)) : Wp d (mdL_law L xs) 886 (LL m o i) [] M Q := by
  obtain ⟨k13, e1, he1, hc1⟩ := h
  refine r_aload_n dL_law_886 rfl 1 rfl ?_
  refine r_callV (ci := 9) (As := []) (rest := []) moX11_guess dL_law_887 mlL_91 imX11_guess seX11_guess k13 rfl he1 (Nat.le_of_ble_eq_true rfl) (hc1.mono (fun r1 M1 hq => ?_))
  obtain ⟨⟨k14, e2, he2, hc2⟩, v, rfl⟩ := hq
  refine r_aload_n dL_law_890 rfl 2 rfl ?_
  refine r_callV (ci := 10) (As := []) (rest := [.int v]) moX12_guess dL_law_891 mlL_94 imX12_guess seX12_guess k14 rfl he2 (Nat.le_of_ble_eq_true rfl) (hc2.mono (fun r2 M2 hq => ?_))
  obtain ⟨rfl, hN⟩ := hq
  exact r_icmp_eq (tgt := 1645) dL_law_894 (by decide) (fun _ => hN) (fun c => absurd rfl c)
theorem law_op16 (hi : i + 5 ≤ L) (hL : L ≤ 2560) (h : SmI d mdX11_tells mdX12_tells m [.long (lv2 xs i 1 2)] M (fun M2 => Wp d (mdL_law L xs) 1645 (LL m o i) [] M2 Q)) : Wp d (mdL_law L xs) 899 (LL m o i) [] M Q := by
  obtain ⟨k13, e1, he1, hc1⟩ := h
  refine r_aload_n dL_law_899 rfl 1 rfl ?_
  refine r_aload_n dL_law_900 rfl 0 rfl ?_
  refine r_iload dL_law_901 4 rfl ?_
  refine r_iconst (v := nI 1) dL_law_903 rfl ?_
  refine r_iadd dL_law_904 ?_
  refine r_sald rfl dL_law_905 (by rw [nI_add]; exact z_in (by omega) (by omega)) ?_
  refine r_i2l dL_law_906 ?_
  refine r_bipush (v := nI 32) dL_law_907 rfl ?_
  refine r_lshl dL_law_909 ?_
  refine r_aload_n dL_law_910 rfl 0 rfl ?_
  refine r_iload dL_law_911 4 rfl ?_
  refine r_iconst (v := nI 2) dL_law_913 rfl ?_
  refine r_iadd dL_law_914 ?_
  refine r_sald rfl dL_law_915 (by rw [nI_add]; exact z_in (by omega) (by omega)) ?_
  refine r_i2l dL_law_916 ?_
  refine r_ldc2 dL_law_917 kwL_44 ?_
  refine r_land dL_law_920 ?_
  refine r_lor dL_law_921 ?_
  refine r_callV (ci := 9) (As := [.long (lv2 xs i 1 2)]) (rest := []) moX11_tells dL_law_922 mlL_95 imX11_tells seX11_tells k13 rfl he1 (Nat.le_of_ble_eq_true rfl) (hc1.mono (fun r1 M1 hq => ?_))
  obtain ⟨⟨k14, e2, he2, hc2⟩, v, rfl⟩ := hq
  refine r_aload_n dL_law_925 rfl 2 rfl ?_
  refine r_aload_n dL_law_926 rfl 0 rfl ?_
  refine r_iload dL_law_927 4 rfl ?_
  refine r_iconst (v := nI 1) dL_law_929 rfl ?_
  refine r_iadd dL_law_930 ?_
  refine r_sald rfl dL_law_931 (by rw [nI_add]; exact z_in (by omega) (by omega)) ?_
  refine r_i2l dL_law_932 ?_
  refine r_bipush (v := nI 32) dL_law_933 rfl ?_
  refine r_lshl dL_law_935 ?_
  refine r_aload_n dL_law_936 rfl 0 rfl ?_
  refine r_iload dL_law_937 4 rfl ?_
  refine r_iconst (v := nI 2) dL_law_939 rfl ?_
  refine r_iadd dL_law_940 ?_
  refine r_sald rfl dL_law_941 (by rw [nI_add]; exact z_in (by omega) (by omega)) ?_
  refine r_i2l dL_law_942 ?_
  refine r_ldc2 dL_law_943 kwL_44 ?_
  refine r_land dL_law_946 ?_
  refine r_lor dL_law_947 ?_
  refine r_callV (ci := 10) (As := [.long (lv2 xs i 1 2)]) (rest := [.int v]) moX12_tells dL_law_948 mlL_98 imX12_tells seX12_tells k14 rfl he2 (Nat.le_of_ble_eq_true rfl) (hc2.mono (fun r2 M2 hq => ?_))
  obtain ⟨rfl, hN⟩ := hq
  exact r_icmp_eq (tgt := 1645) dL_law_951 (by decide) (fun _ => hN) (fun c => absurd rfl c)
theorem law_op17 (hi : i + 5 ≤ L) (hL : L ≤ 2560) (h : SmI d mdX11_learns mdX12_learns m [] M (fun M2 => Wp d (mdL_law L xs) 1645 (LL m o i) [] M2 Q)) : Wp d (mdL_law L xs) 956 (LL m o i) [] M Q := by
  obtain ⟨k13, e1, he1, hc1⟩ := h
  refine r_aload_n dL_law_956 rfl 1 rfl ?_
  refine r_callV (ci := 9) (As := []) (rest := []) moX11_learns dL_law_957 mlL_99 imX11_learns seX11_learns k13 rfl he1 (Nat.le_of_ble_eq_true rfl) (hc1.mono (fun r1 M1 hq => ?_))
  obtain ⟨⟨k14, e2, he2, hc2⟩, v, rfl⟩ := hq
  refine r_aload_n dL_law_960 rfl 2 rfl ?_
  refine r_callV (ci := 10) (As := []) (rest := [.int v]) moX12_learns dL_law_961 mlL_102 imX12_learns seX12_learns k14 rfl he2 (Nat.le_of_ble_eq_true rfl) (hc2.mono (fun r2 M2 hq => ?_))
  obtain ⟨rfl, hN⟩ := hq
  exact r_icmp_eq (tgt := 1645) dL_law_964 (by decide) (fun _ => hN) (fun c => absurd rfl c)
theorem law_op18 (hi : i + 5 ≤ L) (hL : L ≤ 2560) (h : SmJ d mdX11_head mdX12_head m [.int (av xs i 1)] M (fun M2 => Wp d (mdL_law L xs) 1645 (LL m o i) [] M2 Q)) : Wp d (mdL_law L xs) 969 (LL m o i) [] M Q := by
  obtain ⟨k13, e1, he1, hc1⟩ := h
  refine r_aload_n dL_law_969 rfl 1 rfl ?_
  refine r_aload_n dL_law_970 rfl 0 rfl ?_
  refine r_iload dL_law_971 4 rfl ?_
  refine r_iconst (v := nI 1) dL_law_973 rfl ?_
  refine r_iadd dL_law_974 ?_
  refine r_sald rfl dL_law_975 (by rw [nI_add]; exact z_in (by omega) (by omega)) ?_
  refine r_callV (ci := 9) (As := [.int (av xs i 1)]) (rest := []) moX11_head dL_law_976 mlL_103 imX11_head seX11_head k13 rfl he1 (Nat.le_of_ble_eq_true rfl) (hc1.mono (fun r1 M1 hq => ?_))
  obtain ⟨⟨k14, e2, he2, hc2⟩, v, rfl⟩ := hq
  refine r_aload_n dL_law_979 rfl 2 rfl ?_
  refine r_aload_n dL_law_980 rfl 0 rfl ?_
  refine r_iload dL_law_981 4 rfl ?_
  refine r_iconst (v := nI 1) dL_law_983 rfl ?_
  refine r_iadd dL_law_984 ?_
  refine r_sald rfl dL_law_985 (by rw [nI_add]; exact z_in (by omega) (by omega)) ?_
  refine r_callV (ci := 10) (As := [.int (av xs i 1)]) (rest := [.long v]) moX12_head dL_law_986 mlL_106 imX12_head seX12_head k14 rfl he2 (Nat.le_of_ble_eq_true rfl) (hc2.mono (fun r2 M2 hq => ?_))
  obtain ⟨rfl, hN⟩ := hq
  exact r_lif_eq (tgt := 1645) dL_law_989 dL_law_990 (by decide) (fun _ => hN) (fun c => absurd rfl c)
theorem law_op19 (hi : i + 5 ≤ L) (hL : L ≤ 2560) (h : SmJ d mdX11_tail mdX12_tail m [.int (av xs i 1)] M (fun M2 => Wp d (mdL_law L xs) 1645 (LL m o i) [] M2 Q)) : Wp d (mdL_law L xs) 995 (LL m o i) [] M Q := by
  obtain ⟨k13, e1, he1, hc1⟩ := h
  refine r_aload_n dL_law_995 rfl 1 rfl ?_
  refine r_aload_n dL_law_996 rfl 0 rfl ?_
  refine r_iload dL_law_997 4 rfl ?_
  refine r_iconst (v := nI 1) dL_law_999 rfl ?_
  refine r_iadd dL_law_1000 ?_
  refine r_sald rfl dL_law_1001 (by rw [nI_add]; exact z_in (by omega) (by omega)) ?_
  refine r_callV (ci := 9) (As := [.int (av xs i 1)]) (rest := []) moX11_tail dL_law_1002 mlL_107 imX11_tail seX11_tail k13 rfl he1 (Nat.le_of_ble_eq_true rfl) (hc1.mono (fun r1 M1 hq => ?_))
  obtain ⟨⟨k14, e2, he2, hc2⟩, v, rfl⟩ := hq
  refine r_aload_n dL_law_1005 rfl 2 rfl ?_
  refine r_aload_n dL_law_1006 rfl 0 rfl ?_
  refine r_iload dL_law_1007 4 rfl ?_
  refine r_iconst (v := nI 1) dL_law_1009 rfl ?_
  refine r_iadd dL_law_1010 ?_
  refine r_sald rfl dL_law_1011 (by rw [nI_add]; exact z_in (by omega) (by omega)) ?_
  refine r_callV (ci := 10) (As := [.int (av xs i 1)]) (rest := [.long v]) moX12_tail dL_law_1012 mlL_110 imX12_tail seX12_tail k14 rfl he2 (Nat.le_of_ble_eq_true rfl) (hc2.mono (fun r2 M2 hq => ?_))
  obtain ⟨rfl, hN⟩ := hq
  exact r_lif_eq (tgt := 1645) dL_law_1015 dL_law_1016 (by decide) (fun _ => hN) (fun c => absurd rfl c)
theorem law_op20 (hi : i + 5 ≤ L) (hL : L ≤ 2560) (h : SmI d mdX11_cell mdX12_cell m [.int (av xs i 1), .int (av xs i 2), .int (av xs i 3)] M (fun M2 => Wp d (mdL_law L xs) 1645 (LL m o i) [] M2 Q)) : Wp d (mdL_law L xs) 1021 (LL m o i) [] M Q := by
  obtain ⟨k13, e1, he1, hc1⟩ := h
  refine r_aload_n dL_law_1021 rfl 1 rfl ?_
  refine r_aload_n dL_law_1022 rfl 0 rfl ?_
  refine r_iload dL_law_1023 4 rfl ?_
  refine r_iconst (v := nI 1) dL_law_1025 rfl ?_
  refine r_iadd dL_law_1026 ?_
  refine r_sald rfl dL_law_1027 (by rw [nI_add]; exact z_in (by omega) (by omega)) ?_
  refine r_aload_n dL_law_1028 rfl 0 rfl ?_
  refine r_iload dL_law_1029 4 rfl ?_
  refine r_iconst (v := nI 2) dL_law_1031 rfl ?_
  refine r_iadd dL_law_1032 ?_
  refine r_sald rfl dL_law_1033 (by rw [nI_add]; exact z_in (by omega) (by omega)) ?_
  refine r_aload_n dL_law_1034 rfl 0 rfl ?_
  refine r_iload dL_law_1035 4 rfl ?_
  refine r_iconst (v := nI 3) dL_law_1037 rfl ?_
  refine r_iadd dL_law_1038 ?_
  refine r_sald rfl dL_law_1039 (by rw [nI_add]; exact z_in (by omega) (by omega)) ?_
  refine r_callV (ci := 9) (As := [.int (av xs i 1), .int (av xs i 2), .int (av xs i 3)]) (rest := []) moX11_cell dL_law_1040 mlL_111 imX11_cell seX11_cell k13 rfl he1 (Nat.le_of_ble_eq_true rfl) (hc1.mono (fun r1 M1 hq => ?_))
  obtain ⟨⟨k14, e2, he2, hc2⟩, v, rfl⟩ := hq
  refine r_aload_n dL_law_1043 rfl 2 rfl ?_
  refine r_aload_n dL_law_1044 rfl 0 rfl ?_
  refine r_iload dL_law_1045 4 rfl ?_
  refine r_iconst (v := nI 1) dL_law_1047 rfl ?_
  refine r_iadd dL_law_1048 ?_
  refine r_sald rfl dL_law_1049 (by rw [nI_add]; exact z_in (by omega) (by omega)) ?_
  refine r_aload_n dL_law_1050 rfl 0 rfl ?_
  refine r_iload dL_law_1051 4 rfl ?_
  refine r_iconst (v := nI 2) dL_law_1053 rfl ?_
  refine r_iadd dL_law_1054 ?_
  refine r_sald rfl dL_law_1055 (by rw [nI_add]; exact z_in (by omega) (by omega)) ?_
  refine r_aload_n dL_law_1056 rfl 0 rfl ?_
  refine r_iload dL_law_1057 4 rfl ?_
  refine r_iconst (v := nI 3) dL_law_1059 rfl ?_
  refine r_iadd dL_law_1060 ?_
  refine r_sald rfl dL_law_1061 (by rw [nI_add]; exact z_in (by omega) (by omega)) ?_
  refine r_callV (ci := 10) (As := [.int (av xs i 1), .int (av xs i 2), .int (av xs i 3)]) (rest := [.int v]) moX12_cell dL_law_1062 mlL_115 imX12_cell seX12_cell k14 rfl he2 (Nat.le_of_ble_eq_true rfl) (hc2.mono (fun r2 M2 hq => ?_))
  obtain ⟨rfl, hN⟩ := hq
  exact r_icmp_eq (tgt := 1645) dL_law_1065 (by decide) (fun _ => hN) (fun c => absurd rfl c)
theorem law_op21 (hi : i + 5 ≤ L) (hL : L ≤ 2560) (h : SmI d mdX11_lines mdX12_lines m [] M (fun M2 => Wp d (mdL_law L xs) 1645 (LL m o i) [] M2 Q)) : Wp d (mdL_law L xs) 1070 (LL m o i) [] M Q := by
  obtain ⟨k13, e1, he1, hc1⟩ := h
  refine r_aload_n dL_law_1070 rfl 1 rfl ?_
  refine r_callV (ci := 9) (As := []) (rest := []) moX11_lines dL_law_1071 mlL_116 imX11_lines seX11_lines k13 rfl he1 (Nat.le_of_ble_eq_true rfl) (hc1.mono (fun r1 M1 hq => ?_))
  obtain ⟨⟨k14, e2, he2, hc2⟩, v, rfl⟩ := hq
  refine r_aload_n dL_law_1074 rfl 2 rfl ?_
  refine r_callV (ci := 10) (As := []) (rest := [.int v]) moX12_lines dL_law_1075 mlL_119 imX12_lines seX12_lines k14 rfl he2 (Nat.le_of_ble_eq_true rfl) (hc2.mono (fun r2 M2 hq => ?_))
  obtain ⟨rfl, hN⟩ := hq
  exact r_icmp_eq (tgt := 1645) dL_law_1078 (by decide) (fun _ => hN) (fun c => absurd rfl c)
theorem law_op22 (hi : i + 5 ≤ L) (hL : L ≤ 2560) (h : SmI d mdX11_knot mdX12_knot m [.int (av xs i 1), .int (av xs i 2)] M (fun M2 => Wp d (mdL_law L xs) 1645 (LL m o i) [] M2 Q)) : Wp d (mdL_law L xs) 1083 (LL m o i) [] M Q := by
  obtain ⟨k13, e1, he1, hc1⟩ := h
  refine r_aload_n dL_law_1083 rfl 1 rfl ?_
  refine r_aload_n dL_law_1084 rfl 0 rfl ?_
  refine r_iload dL_law_1085 4 rfl ?_
  refine r_iconst (v := nI 1) dL_law_1087 rfl ?_
  refine r_iadd dL_law_1088 ?_
  refine r_sald rfl dL_law_1089 (by rw [nI_add]; exact z_in (by omega) (by omega)) ?_
  refine r_aload_n dL_law_1090 rfl 0 rfl ?_
  refine r_iload dL_law_1091 4 rfl ?_
  refine r_iconst (v := nI 2) dL_law_1093 rfl ?_
  refine r_iadd dL_law_1094 ?_
  refine r_sald rfl dL_law_1095 (by rw [nI_add]; exact z_in (by omega) (by omega)) ?_
  refine r_callV (ci := 9) (As := [.int (av xs i 1), .int (av xs i 2)]) (rest := []) moX11_knot dL_law_1096 mlL_120 imX11_knot seX11_knot k13 rfl he1 (Nat.le_of_ble_eq_true rfl) (hc1.mono (fun r1 M1 hq => ?_))
  obtain ⟨⟨k14, e2, he2, hc2⟩, v, rfl⟩ := hq
  refine r_aload_n dL_law_1099 rfl 2 rfl ?_
  refine r_aload_n dL_law_1100 rfl 0 rfl ?_
  refine r_iload dL_law_1101 4 rfl ?_
  refine r_iconst (v := nI 1) dL_law_1103 rfl ?_
  refine r_iadd dL_law_1104 ?_
  refine r_sald rfl dL_law_1105 (by rw [nI_add]; exact z_in (by omega) (by omega)) ?_
  refine r_aload_n dL_law_1106 rfl 0 rfl ?_
  refine r_iload dL_law_1107 4 rfl ?_
  refine r_iconst (v := nI 2) dL_law_1109 rfl ?_
  refine r_iadd dL_law_1110 ?_
  refine r_sald rfl dL_law_1111 (by rw [nI_add]; exact z_in (by omega) (by omega)) ?_
  refine r_callV (ci := 10) (As := [.int (av xs i 1), .int (av xs i 2)]) (rest := [.int v]) moX12_knot dL_law_1112 mlL_123 imX12_knot seX12_knot k14 rfl he2 (Nat.le_of_ble_eq_true rfl) (hc2.mono (fun r2 M2 hq => ?_))
  obtain ⟨rfl, hN⟩ := hq
  exact r_icmp_eq (tgt := 1645) dL_law_1115 (by decide) (fun _ => hN) (fun c => absurd rfl c)
theorem law_op23 (hi : i + 5 ≤ L) (hL : L ≤ 2560) (h : SmI d mdX11_sift mdX12_sift m [.long (lv2 xs i 1 2)] M (fun M2 => Wp d (mdL_law L xs) 1645 (LL m o i) [] M2 Q)) : Wp d (mdL_law L xs) 1120 (LL m o i) [] M Q := by
  obtain ⟨k13, e1, he1, hc1⟩ := h
  refine r_aload_n dL_law_1120 rfl 1 rfl ?_
  refine r_aload_n dL_law_1121 rfl 0 rfl ?_
  refine r_iload dL_law_1122 4 rfl ?_
  refine r_iconst (v := nI 1) dL_law_1124 rfl ?_
  refine r_iadd dL_law_1125 ?_
  refine r_sald rfl dL_law_1126 (by rw [nI_add]; exact z_in (by omega) (by omega)) ?_
  refine r_i2l dL_law_1127 ?_
  refine r_bipush (v := nI 32) dL_law_1128 rfl ?_
  refine r_lshl dL_law_1130 ?_
  refine r_aload_n dL_law_1131 rfl 0 rfl ?_
  refine r_iload dL_law_1132 4 rfl ?_
  refine r_iconst (v := nI 2) dL_law_1134 rfl ?_
  refine r_iadd dL_law_1135 ?_
  refine r_sald rfl dL_law_1136 (by rw [nI_add]; exact z_in (by omega) (by omega)) ?_
  refine r_i2l dL_law_1137 ?_
  refine r_ldc2 dL_law_1138 kwL_44 ?_
  refine r_land dL_law_1141 ?_
  refine r_lor dL_law_1142 ?_
  refine r_callV (ci := 9) (As := [.long (lv2 xs i 1 2)]) (rest := []) moX11_sift dL_law_1143 mlL_124 imX11_sift seX11_sift k13 rfl he1 (Nat.le_of_ble_eq_true rfl) (hc1.mono (fun r1 M1 hq => ?_))
  obtain ⟨⟨k14, e2, he2, hc2⟩, v, rfl⟩ := hq
  refine r_aload_n dL_law_1146 rfl 2 rfl ?_
  refine r_aload_n dL_law_1147 rfl 0 rfl ?_
  refine r_iload dL_law_1148 4 rfl ?_
  refine r_iconst (v := nI 1) dL_law_1150 rfl ?_
  refine r_iadd dL_law_1151 ?_
  refine r_sald rfl dL_law_1152 (by rw [nI_add]; exact z_in (by omega) (by omega)) ?_
  refine r_i2l dL_law_1153 ?_
  refine r_bipush (v := nI 32) dL_law_1154 rfl ?_
  refine r_lshl dL_law_1156 ?_
  refine r_aload_n dL_law_1157 rfl 0 rfl ?_
  refine r_iload dL_law_1158 4 rfl ?_
  refine r_iconst (v := nI 2) dL_law_1160 rfl ?_
  refine r_iadd dL_law_1161 ?_
  refine r_sald rfl dL_law_1162 (by rw [nI_add]; exact z_in (by omega) (by omega)) ?_
  refine r_i2l dL_law_1163 ?_
  refine r_ldc2 dL_law_1164 kwL_44 ?_
  refine r_land dL_law_1167 ?_
  refine r_lor dL_law_1168 ?_
  refine r_callV (ci := 10) (As := [.long (lv2 xs i 1 2)]) (rest := [.int v]) moX12_sift dL_law_1169 mlL_127 imX12_sift seX12_sift k14 rfl he2 (Nat.le_of_ble_eq_true rfl) (hc2.mono (fun r2 M2 hq => ?_))
  obtain ⟨rfl, hN⟩ := hq
  exact r_icmp_eq (tgt := 1645) dL_law_1172 (by decide) (fun _ => hN) (fun c => absurd rfl c)
theorem law_op24 (hi : i + 5 ≤ L) (hL : L ≤ 2560) (h : SmI d mdX11_guessed mdX12_guessed m [.int (av xs i 1), .int (av xs i 2)] M (fun M2 => Wp d (mdL_law L xs) 1645 (LL m o i) [] M2 Q)) : Wp d (mdL_law L xs) 1177 (LL m o i) [] M Q := by
  obtain ⟨k13, e1, he1, hc1⟩ := h
  refine r_aload_n dL_law_1177 rfl 1 rfl ?_
  refine r_aload_n dL_law_1178 rfl 0 rfl ?_
  refine r_iload dL_law_1179 4 rfl ?_
  refine r_iconst (v := nI 1) dL_law_1181 rfl ?_
  refine r_iadd dL_law_1182 ?_
  refine r_sald rfl dL_law_1183 (by rw [nI_add]; exact z_in (by omega) (by omega)) ?_
  refine r_aload_n dL_law_1184 rfl 0 rfl ?_
  refine r_iload dL_law_1185 4 rfl ?_
  refine r_iconst (v := nI 2) dL_law_1187 rfl ?_
  refine r_iadd dL_law_1188 ?_
  refine r_sald rfl dL_law_1189 (by rw [nI_add]; exact z_in (by omega) (by omega)) ?_
  refine r_callV (ci := 9) (As := [.int (av xs i 1), .int (av xs i 2)]) (rest := []) moX11_guessed dL_law_1190 mlL_128 imX11_guessed seX11_guessed k13 rfl he1 (Nat.le_of_ble_eq_true rfl) (hc1.mono (fun r1 M1 hq => ?_))
  obtain ⟨⟨k14, e2, he2, hc2⟩, v, rfl⟩ := hq
  refine r_aload_n dL_law_1193 rfl 2 rfl ?_
  refine r_aload_n dL_law_1194 rfl 0 rfl ?_
  refine r_iload dL_law_1195 4 rfl ?_
  refine r_iconst (v := nI 1) dL_law_1197 rfl ?_
  refine r_iadd dL_law_1198 ?_
  refine r_sald rfl dL_law_1199 (by rw [nI_add]; exact z_in (by omega) (by omega)) ?_
  refine r_aload_n dL_law_1200 rfl 0 rfl ?_
  refine r_iload dL_law_1201 4 rfl ?_
  refine r_iconst (v := nI 2) dL_law_1203 rfl ?_
  refine r_iadd dL_law_1204 ?_
  refine r_sald rfl dL_law_1205 (by rw [nI_add]; exact z_in (by omega) (by omega)) ?_
  refine r_callV (ci := 10) (As := [.int (av xs i 1), .int (av xs i 2)]) (rest := [.int v]) moX12_guessed dL_law_1206 mlL_131 imX12_guessed seX12_guessed k14 rfl he2 (Nat.le_of_ble_eq_true rfl) (hc2.mono (fun r2 M2 hq => ?_))
  obtain ⟨rfl, hN⟩ := hq
  exact r_icmp_eq (tgt := 1645) dL_law_1209 (by decide) (fun _ => hN) (fun c => absurd rfl c)
theorem law_op25 (hi : i + 5 ≤ L) (hL : L ≤ 2560) (h : SmJ d mdX11_access mdX12_access m [.int (av xs i 1)] M (fun M2 => Wp d (mdL_law L xs) 1645 (LL m o i) [] M2 Q)) : Wp d (mdL_law L xs) 1214 (LL m o i) [] M Q := by
  obtain ⟨k13, e1, he1, hc1⟩ := h
  refine r_aload_n dL_law_1214 rfl 1 rfl ?_
  refine r_aload_n dL_law_1215 rfl 0 rfl ?_
  refine r_iload dL_law_1216 4 rfl ?_
  refine r_iconst (v := nI 1) dL_law_1218 rfl ?_
  refine r_iadd dL_law_1219 ?_
  refine r_sald rfl dL_law_1220 (by rw [nI_add]; exact z_in (by omega) (by omega)) ?_
  refine r_callV (ci := 9) (As := [.int (av xs i 1)]) (rest := []) moX11_access dL_law_1221 mlL_132 imX11_access seX11_access k13 rfl he1 (Nat.le_of_ble_eq_true rfl) (hc1.mono (fun r1 M1 hq => ?_))
  obtain ⟨⟨k14, e2, he2, hc2⟩, v, rfl⟩ := hq
  refine r_aload_n dL_law_1224 rfl 2 rfl ?_
  refine r_aload_n dL_law_1225 rfl 0 rfl ?_
  refine r_iload dL_law_1226 4 rfl ?_
  refine r_iconst (v := nI 1) dL_law_1228 rfl ?_
  refine r_iadd dL_law_1229 ?_
  refine r_sald rfl dL_law_1230 (by rw [nI_add]; exact z_in (by omega) (by omega)) ?_
  refine r_callV (ci := 10) (As := [.int (av xs i 1)]) (rest := [.long v]) moX12_access dL_law_1231 mlL_135 imX12_access seX12_access k14 rfl he2 (Nat.le_of_ble_eq_true rfl) (hc2.mono (fun r2 M2 hq => ?_))
  obtain ⟨rfl, hN⟩ := hq
  exact r_lif_eq (tgt := 1645) dL_law_1234 dL_law_1235 (by decide) (fun _ => hN) (fun c => absurd rfl c)
theorem law_op26 (hi : i + 5 ≤ L) (hL : L ≤ 2560) (h : SmI d mdX11_reads mdX12_reads m [.long (lv2 xs i 1 2)] M (fun M2 => Wp d (mdL_law L xs) 1645 (LL m o i) [] M2 Q)) : Wp d (mdL_law L xs) 1240 (LL m o i) [] M Q := by
  obtain ⟨k13, e1, he1, hc1⟩ := h
  refine r_aload_n dL_law_1240 rfl 1 rfl ?_
  refine r_aload_n dL_law_1241 rfl 0 rfl ?_
  refine r_iload dL_law_1242 4 rfl ?_
  refine r_iconst (v := nI 1) dL_law_1244 rfl ?_
  refine r_iadd dL_law_1245 ?_
  refine r_sald rfl dL_law_1246 (by rw [nI_add]; exact z_in (by omega) (by omega)) ?_
  refine r_i2l dL_law_1247 ?_
  refine r_bipush (v := nI 32) dL_law_1248 rfl ?_
  refine r_lshl dL_law_1250 ?_
  refine r_aload_n dL_law_1251 rfl 0 rfl ?_
  refine r_iload dL_law_1252 4 rfl ?_
  refine r_iconst (v := nI 2) dL_law_1254 rfl ?_
  refine r_iadd dL_law_1255 ?_
  refine r_sald rfl dL_law_1256 (by rw [nI_add]; exact z_in (by omega) (by omega)) ?_
  refine r_i2l dL_law_1257 ?_
  refine r_ldc2 dL_law_1258 kwL_44 ?_
  refine r_land dL_law_1261 ?_
  refine r_lor dL_law_1262 ?_
  refine r_callV (ci := 9) (As := [.long (lv2 xs i 1 2)]) (rest := []) moX11_reads dL_law_1263 mlL_136 imX11_reads seX11_reads k13 rfl he1 (Nat.le_of_ble_eq_true rfl) (hc1.mono (fun r1 M1 hq => ?_))
  obtain ⟨⟨k14, e2, he2, hc2⟩, v, rfl⟩ := hq
  refine r_aload_n dL_law_1266 rfl 2 rfl ?_
  refine r_aload_n dL_law_1267 rfl 0 rfl ?_
  refine r_iload dL_law_1268 4 rfl ?_
  refine r_iconst (v := nI 1) dL_law_1270 rfl ?_
  refine r_iadd dL_law_1271 ?_
  refine r_sald rfl dL_law_1272 (by rw [nI_add]; exact z_in (by omega) (by omega)) ?_
  refine r_i2l dL_law_1273 ?_
  refine r_bipush (v := nI 32) dL_law_1274 rfl ?_
  refine r_lshl dL_law_1276 ?_
  refine r_aload_n dL_law_1277 rfl 0 rfl ?_
  refine r_iload dL_law_1278 4 rfl ?_
  refine r_iconst (v := nI 2) dL_law_1280 rfl ?_
  refine r_iadd dL_law_1281 ?_
  refine r_sald rfl dL_law_1282 (by rw [nI_add]; exact z_in (by omega) (by omega)) ?_
  refine r_i2l dL_law_1283 ?_
  refine r_ldc2 dL_law_1284 kwL_44 ?_
  refine r_land dL_law_1287 ?_
  refine r_lor dL_law_1288 ?_
  refine r_callV (ci := 10) (As := [.long (lv2 xs i 1 2)]) (rest := [.int v]) moX12_reads dL_law_1289 mlL_139 imX12_reads seX12_reads k14 rfl he2 (Nat.le_of_ble_eq_true rfl) (hc2.mono (fun r2 M2 hq => ?_))
  obtain ⟨rfl, hN⟩ := hq
  exact r_icmp_eq (tgt := 1645) dL_law_1292 (by decide) (fun _ => hN) (fun c => absurd rfl c)
theorem law_op27 (hi : i + 5 ≤ L) (hL : L ≤ 2560) (h : SmJ d mdX11_errs mdX12_errs m [] M (fun M2 => Wp d (mdL_law L xs) 1645 (LL m o i) [] M2 Q)) : Wp d (mdL_law L xs) 1297 (LL m o i) [] M Q := by
  obtain ⟨k13, e1, he1, hc1⟩ := h
  refine r_aload_n dL_law_1297 rfl 1 rfl ?_
  refine r_callV (ci := 9) (As := []) (rest := []) moX11_errs dL_law_1298 mlL_140 imX11_errs seX11_errs k13 rfl he1 (Nat.le_of_ble_eq_true rfl) (hc1.mono (fun r1 M1 hq => ?_))
  obtain ⟨⟨k14, e2, he2, hc2⟩, v, rfl⟩ := hq
  refine r_aload_n dL_law_1301 rfl 2 rfl ?_
  refine r_callV (ci := 10) (As := []) (rest := [.long v]) moX12_errs dL_law_1302 mlL_144 imX12_errs seX12_errs k14 rfl he2 (Nat.le_of_ble_eq_true rfl) (hc2.mono (fun r2 M2 hq => ?_))
  obtain ⟨rfl, hN⟩ := hq
  exact r_lif_eq (tgt := 1645) dL_law_1305 dL_law_1306 (by decide) (fun _ => hN) (fun c => absurd rfl c)
theorem law_op28 (hi : i + 5 ≤ L) (hL : L ≤ 2560) (h : SmI d mdX11_wrong mdX12_wrong m [.int (av xs i 1)] M (fun M2 => Wp d (mdL_law L xs) 1645 (LL m o i) [] M2 Q)) : Wp d (mdL_law L xs) 1311 (LL m o i) [] M Q := by
  obtain ⟨k13, e1, he1, hc1⟩ := h
  refine r_aload_n dL_law_1311 rfl 1 rfl ?_
  refine r_aload_n dL_law_1312 rfl 0 rfl ?_
  refine r_iload dL_law_1313 4 rfl ?_
  refine r_iconst (v := nI 1) dL_law_1315 rfl ?_
  refine r_iadd dL_law_1316 ?_
  refine r_sald rfl dL_law_1317 (by rw [nI_add]; exact z_in (by omega) (by omega)) ?_
  refine r_callV (ci := 9) (As := [.int (av xs i 1)]) (rest := []) moX11_wrong dL_law_1318 mlL_145 imX11_wrong seX11_wrong k13 rfl he1 (Nat.le_of_ble_eq_true rfl) (hc1.mono (fun r1 M1 hq => ?_))
  obtain ⟨⟨k14, e2, he2, hc2⟩, v, rfl⟩ := hq
  refine r_aload_n dL_law_1321 rfl 2 rfl ?_
  refine r_aload_n dL_law_1322 rfl 0 rfl ?_
  refine r_iload dL_law_1323 4 rfl ?_
  refine r_iconst (v := nI 1) dL_law_1325 rfl ?_
  refine r_iadd dL_law_1326 ?_
  refine r_sald rfl dL_law_1327 (by rw [nI_add]; exact z_in (by omega) (by omega)) ?_
  refine r_callV (ci := 10) (As := [.int (av xs i 1)]) (rest := [.int v]) moX12_wrong dL_law_1328 mlL_148 imX12_wrong seX12_wrong k14 rfl he2 (Nat.le_of_ble_eq_true rfl) (hc2.mono (fun r2 M2 hq => ?_))
  obtain ⟨rfl, hN⟩ := hq
  exact r_icmp_eq (tgt := 1645) dL_law_1331 (by decide) (fun _ => hN) (fun c => absurd rfl c)
theorem law_op29 (hi : i + 5 ≤ L) (hL : L ≤ 2560) (h : SmI d mdX11_tests mdX12_tests_ m [.int (av xs i 1)] M (fun M2 => Wp d (mdL_law L xs) 1645 (LL m o i) [] M2 Q)) : Wp d (mdL_law L xs) 1336 (LL m o i) [] M Q := by
  obtain ⟨k13, e1, he1, hc1⟩ := h
  refine r_aload_n dL_law_1336 rfl 1 rfl ?_
  refine r_aload_n dL_law_1337 rfl 0 rfl ?_
  refine r_iload dL_law_1338 4 rfl ?_
  refine r_iconst (v := nI 1) dL_law_1340 rfl ?_
  refine r_iadd dL_law_1341 ?_
  refine r_sald rfl dL_law_1342 (by rw [nI_add]; exact z_in (by omega) (by omega)) ?_
  refine r_callV (ci := 9) (As := [.int (av xs i 1)]) (rest := []) moX11_tests dL_law_1343 mlL_149 imX11_tests seX11_tests k13 rfl he1 (Nat.le_of_ble_eq_true rfl) (hc1.mono (fun r1 M1 hq => ?_))
  obtain ⟨⟨k14, e2, he2, hc2⟩, v, rfl⟩ := hq
  refine r_aload_n dL_law_1346 rfl 2 rfl ?_
  refine r_aload_n dL_law_1347 rfl 0 rfl ?_
  refine r_iload dL_law_1348 4 rfl ?_
  refine r_iconst (v := nI 1) dL_law_1350 rfl ?_
  refine r_iadd dL_law_1351 ?_
  refine r_sald rfl dL_law_1352 (by rw [nI_add]; exact z_in (by omega) (by omega)) ?_
  refine r_callV (ci := 10) (As := [.int (av xs i 1)]) (rest := [.int v]) moX12_tests_ dL_law_1353 mlL_152 imX12_tests_ seX12_tests_ k14 rfl he2 (Nat.le_of_ble_eq_true rfl) (hc2.mono (fun r2 M2 hq => ?_))
  obtain ⟨rfl, hN⟩ := hq
  exact r_icmp_eq (tgt := 1645) dL_law_1356 (by decide) (fun _ => hN) (fun c => absurd rfl c)
theorem law_op30 (hi : i + 5 ≤ L) (hL : L ≤ 2560) (h : SmJ d mdX11_passes mdX12_passes m [.int (av xs i 1)] M (fun M2 => Wp d (mdL_law L xs) 1645 (LL m o i) [] M2 Q)) : Wp d (mdL_law L xs) 1361 (LL m o i) [] M Q := by
  obtain ⟨k13, e1, he1, hc1⟩ := h
  refine r_aload_n dL_law_1361 rfl 1 rfl ?_
  refine r_aload_n dL_law_1362 rfl 0 rfl ?_
  refine r_iload dL_law_1363 4 rfl ?_
  refine r_iconst (v := nI 1) dL_law_1365 rfl ?_
  refine r_iadd dL_law_1366 ?_
  refine r_sald rfl dL_law_1367 (by rw [nI_add]; exact z_in (by omega) (by omega)) ?_
  refine r_callV (ci := 9) (As := [.int (av xs i 1)]) (rest := []) moX11_passes dL_law_1368 mlL_153 imX11_passes seX11_passes k13 rfl he1 (Nat.le_of_ble_eq_true rfl) (hc1.mono (fun r1 M1 hq => ?_))
  obtain ⟨⟨k14, e2, he2, hc2⟩, v, rfl⟩ := hq
  refine r_aload_n dL_law_1371 rfl 2 rfl ?_
  refine r_aload_n dL_law_1372 rfl 0 rfl ?_
  refine r_iload dL_law_1373 4 rfl ?_
  refine r_iconst (v := nI 1) dL_law_1375 rfl ?_
  refine r_iadd dL_law_1376 ?_
  refine r_sald rfl dL_law_1377 (by rw [nI_add]; exact z_in (by omega) (by omega)) ?_
  refine r_callV (ci := 10) (As := [.int (av xs i 1)]) (rest := [.long v]) moX12_passes dL_law_1378 mlL_156 imX12_passes seX12_passes k14 rfl he2 (Nat.le_of_ble_eq_true rfl) (hc2.mono (fun r2 M2 hq => ?_))
  obtain ⟨rfl, hN⟩ := hq
  exact r_lif_eq (tgt := 1645) dL_law_1381 dL_law_1382 (by decide) (fun _ => hN) (fun c => absurd rfl c)
theorem law_op31 (hi : i + 5 ≤ L) (hL : L ≤ 2560) (h : SmJ d mdX11_parted mdX12_parted m [.int (av xs i 1), .int (av xs i 2)] M (fun M2 => Wp d (mdL_law L xs) 1645 (LL m o i) [] M2 Q)) : Wp d (mdL_law L xs) 1387 (LL m o i) [] M Q := by
  obtain ⟨k13, e1, he1, hc1⟩ := h
  refine r_aload_n dL_law_1387 rfl 1 rfl ?_
  refine r_aload_n dL_law_1388 rfl 0 rfl ?_
  refine r_iload dL_law_1389 4 rfl ?_
  refine r_iconst (v := nI 1) dL_law_1391 rfl ?_
  refine r_iadd dL_law_1392 ?_
  refine r_sald rfl dL_law_1393 (by rw [nI_add]; exact z_in (by omega) (by omega)) ?_
  refine r_aload_n dL_law_1394 rfl 0 rfl ?_
  refine r_iload dL_law_1395 4 rfl ?_
  refine r_iconst (v := nI 2) dL_law_1397 rfl ?_
  refine r_iadd dL_law_1398 ?_
  refine r_sald rfl dL_law_1399 (by rw [nI_add]; exact z_in (by omega) (by omega)) ?_
  refine r_callV (ci := 9) (As := [.int (av xs i 1), .int (av xs i 2)]) (rest := []) moX11_parted dL_law_1400 mlL_157 imX11_parted seX11_parted k13 rfl he1 (Nat.le_of_ble_eq_true rfl) (hc1.mono (fun r1 M1 hq => ?_))
  obtain ⟨⟨k14, e2, he2, hc2⟩, v, rfl⟩ := hq
  refine r_aload_n dL_law_1403 rfl 2 rfl ?_
  refine r_aload_n dL_law_1404 rfl 0 rfl ?_
  refine r_iload dL_law_1405 4 rfl ?_
  refine r_iconst (v := nI 1) dL_law_1407 rfl ?_
  refine r_iadd dL_law_1408 ?_
  refine r_sald rfl dL_law_1409 (by rw [nI_add]; exact z_in (by omega) (by omega)) ?_
  refine r_aload_n dL_law_1410 rfl 0 rfl ?_
  refine r_iload dL_law_1411 4 rfl ?_
  refine r_iconst (v := nI 2) dL_law_1413 rfl ?_
  refine r_iadd dL_law_1414 ?_
  refine r_sald rfl dL_law_1415 (by rw [nI_add]; exact z_in (by omega) (by omega)) ?_
  refine r_callV (ci := 10) (As := [.int (av xs i 1), .int (av xs i 2)]) (rest := [.long v]) moX12_parted dL_law_1416 mlL_161 imX12_parted seX12_parted k14 rfl he2 (Nat.le_of_ble_eq_true rfl) (hc2.mono (fun r2 M2 hq => ?_))
  obtain ⟨rfl, hN⟩ := hq
  exact r_lif_eq (tgt := 1645) dL_law_1419 dL_law_1420 (by decide) (fun _ => hN) (fun c => absurd rfl c)
theorem law_op32 (hi : i + 5 ≤ L) (hL : L ≤ 2560) (h : SmJ d mdX11_like mdX12_like m [.int (av xs i 1), .int (av xs i 2)] M (fun M2 => Wp d (mdL_law L xs) 1645 (LL m o i) [] M2 Q)) : Wp d (mdL_law L xs) 1425 (LL m o i) [] M Q := by
  obtain ⟨k13, e1, he1, hc1⟩ := h
  refine r_aload_n dL_law_1425 rfl 1 rfl ?_
  refine r_aload_n dL_law_1426 rfl 0 rfl ?_
  refine r_iload dL_law_1427 4 rfl ?_
  refine r_iconst (v := nI 1) dL_law_1429 rfl ?_
  refine r_iadd dL_law_1430 ?_
  refine r_sald rfl dL_law_1431 (by rw [nI_add]; exact z_in (by omega) (by omega)) ?_
  refine r_aload_n dL_law_1432 rfl 0 rfl ?_
  refine r_iload dL_law_1433 4 rfl ?_
  refine r_iconst (v := nI 2) dL_law_1435 rfl ?_
  refine r_iadd dL_law_1436 ?_
  refine r_sald rfl dL_law_1437 (by rw [nI_add]; exact z_in (by omega) (by omega)) ?_
  refine r_callV (ci := 9) (As := [.int (av xs i 1), .int (av xs i 2)]) (rest := []) moX11_like dL_law_1438 mlL_162 imX11_like seX11_like k13 rfl he1 (Nat.le_of_ble_eq_true rfl) (hc1.mono (fun r1 M1 hq => ?_))
  obtain ⟨⟨k14, e2, he2, hc2⟩, v, rfl⟩ := hq
  refine r_aload_n dL_law_1441 rfl 2 rfl ?_
  refine r_aload_n dL_law_1442 rfl 0 rfl ?_
  refine r_iload dL_law_1443 4 rfl ?_
  refine r_iconst (v := nI 1) dL_law_1445 rfl ?_
  refine r_iadd dL_law_1446 ?_
  refine r_sald rfl dL_law_1447 (by rw [nI_add]; exact z_in (by omega) (by omega)) ?_
  refine r_aload_n dL_law_1448 rfl 0 rfl ?_
  refine r_iload dL_law_1449 4 rfl ?_
  refine r_iconst (v := nI 2) dL_law_1451 rfl ?_
  refine r_iadd dL_law_1452 ?_
  refine r_sald rfl dL_law_1453 (by rw [nI_add]; exact z_in (by omega) (by omega)) ?_
  refine r_callV (ci := 10) (As := [.int (av xs i 1), .int (av xs i 2)]) (rest := [.long v]) moX12_like dL_law_1454 mlL_165 imX12_like seX12_like k14 rfl he2 (Nat.le_of_ble_eq_true rfl) (hc2.mono (fun r2 M2 hq => ?_))
  obtain ⟨rfl, hN⟩ := hq
  exact r_lif_eq (tgt := 1645) dL_law_1457 dL_law_1458 (by decide) (fun _ => hN) (fun c => absurd rfl c)
theorem law_op33 (hi : i + 5 ≤ L) (hL : L ≤ 2560) (h : SmI d mdX11_least mdX12_least m [] M (fun M2 => Wp d (mdL_law L xs) 1645 (LL m o i) [] M2 Q)) : Wp d (mdL_law L xs) 1463 (LL m o i) [] M Q := by
  obtain ⟨k13, e1, he1, hc1⟩ := h
  refine r_aload_n dL_law_1463 rfl 1 rfl ?_
  refine r_callV (ci := 9) (As := []) (rest := []) moX11_least dL_law_1464 mlL_166 imX11_least seX11_least k13 rfl he1 (Nat.le_of_ble_eq_true rfl) (hc1.mono (fun r1 M1 hq => ?_))
  obtain ⟨⟨k14, e2, he2, hc2⟩, v, rfl⟩ := hq
  refine r_aload_n dL_law_1467 rfl 2 rfl ?_
  refine r_callV (ci := 10) (As := []) (rest := [.int v]) moX12_least dL_law_1468 mlL_169 imX12_least seX12_least k14 rfl he2 (Nat.le_of_ble_eq_true rfl) (hc2.mono (fun r2 M2 hq => ?_))
  obtain ⟨rfl, hN⟩ := hq
  exact r_icmp_eq (tgt := 1645) dL_law_1471 (by decide) (fun _ => hN) (fun c => absurd rfl c)
theorem law_op34 (hi : i + 5 ≤ L) (hL : L ≤ 2560) (h : SmJ d mdX11_reach mdX12_reach m [.int (av xs i 1)] M (fun M2 => Wp d (mdL_law L xs) 1645 (LL m o i) [] M2 Q)) : Wp d (mdL_law L xs) 1476 (LL m o i) [] M Q := by
  obtain ⟨k13, e1, he1, hc1⟩ := h
  refine r_aload_n dL_law_1476 rfl 1 rfl ?_
  refine r_aload_n dL_law_1477 rfl 0 rfl ?_
  refine r_iload dL_law_1478 4 rfl ?_
  refine r_iconst (v := nI 1) dL_law_1480 rfl ?_
  refine r_iadd dL_law_1481 ?_
  refine r_sald rfl dL_law_1482 (by rw [nI_add]; exact z_in (by omega) (by omega)) ?_
  refine r_callV (ci := 9) (As := [.int (av xs i 1)]) (rest := []) moX11_reach dL_law_1483 mlL_170 imX11_reach seX11_reach k13 rfl he1 (Nat.le_of_ble_eq_true rfl) (hc1.mono (fun r1 M1 hq => ?_))
  obtain ⟨⟨k14, e2, he2, hc2⟩, v, rfl⟩ := hq
  refine r_aload_n dL_law_1486 rfl 2 rfl ?_
  refine r_aload_n dL_law_1487 rfl 0 rfl ?_
  refine r_iload dL_law_1488 4 rfl ?_
  refine r_iconst (v := nI 1) dL_law_1490 rfl ?_
  refine r_iadd dL_law_1491 ?_
  refine r_sald rfl dL_law_1492 (by rw [nI_add]; exact z_in (by omega) (by omega)) ?_
  refine r_callV (ci := 10) (As := [.int (av xs i 1)]) (rest := [.long v]) moX12_reach dL_law_1493 mlL_173 imX12_reach seX12_reach k14 rfl he2 (Nat.le_of_ble_eq_true rfl) (hc2.mono (fun r2 M2 hq => ?_))
  obtain ⟨rfl, hN⟩ := hq
  exact r_lif_eq (tgt := 1645) dL_law_1496 dL_law_1497 (by decide) (fun _ => hN) (fun c => absurd rfl c)
theorem law_op35 (hi : i + 5 ≤ L) (hL : L ≤ 2560) (h : SmI d mdX11_groups mdX12_groups m [.int (av xs i 1)] M (fun M2 => Wp d (mdL_law L xs) 1645 (LL m o i) [] M2 Q)) : Wp d (mdL_law L xs) 1502 (LL m o i) [] M Q := by
  obtain ⟨k13, e1, he1, hc1⟩ := h
  refine r_aload_n dL_law_1502 rfl 1 rfl ?_
  refine r_aload_n dL_law_1503 rfl 0 rfl ?_
  refine r_iload dL_law_1504 4 rfl ?_
  refine r_iconst (v := nI 1) dL_law_1506 rfl ?_
  refine r_iadd dL_law_1507 ?_
  refine r_sald rfl dL_law_1508 (by rw [nI_add]; exact z_in (by omega) (by omega)) ?_
  refine r_callV (ci := 9) (As := [.int (av xs i 1)]) (rest := []) moX11_groups dL_law_1509 mlL_174 imX11_groups seX11_groups k13 rfl he1 (Nat.le_of_ble_eq_true rfl) (hc1.mono (fun r1 M1 hq => ?_))
  obtain ⟨⟨k14, e2, he2, hc2⟩, v, rfl⟩ := hq
  refine r_aload_n dL_law_1512 rfl 2 rfl ?_
  refine r_aload_n dL_law_1513 rfl 0 rfl ?_
  refine r_iload dL_law_1514 4 rfl ?_
  refine r_iconst (v := nI 1) dL_law_1516 rfl ?_
  refine r_iadd dL_law_1517 ?_
  refine r_sald rfl dL_law_1518 (by rw [nI_add]; exact z_in (by omega) (by omega)) ?_
  refine r_callV (ci := 10) (As := [.int (av xs i 1)]) (rest := [.int v]) moX12_groups dL_law_1519 mlL_177 imX12_groups seX12_groups k14 rfl he2 (Nat.le_of_ble_eq_true rfl) (hc2.mono (fun r2 M2 hq => ?_))
  obtain ⟨rfl, hN⟩ := hq
  exact r_icmp_eq (tgt := 1645) dL_law_1522 (by decide) (fun _ => hN) (fun c => absurd rfl c)
theorem law_op36 (hi : i + 5 ≤ L) (hL : L ≤ 2560) (h : SmI d mdX11_costs mdX12_costs m [.int (av xs i 1)] M (fun M2 => Wp d (mdL_law L xs) 1645 (LL m o i) [] M2 Q)) : Wp d (mdL_law L xs) 1527 (LL m o i) [] M Q := by
  obtain ⟨k13, e1, he1, hc1⟩ := h
  refine r_aload_n dL_law_1527 rfl 1 rfl ?_
  refine r_aload_n dL_law_1528 rfl 0 rfl ?_
  refine r_iload dL_law_1529 4 rfl ?_
  refine r_iconst (v := nI 1) dL_law_1531 rfl ?_
  refine r_iadd dL_law_1532 ?_
  refine r_sald rfl dL_law_1533 (by rw [nI_add]; exact z_in (by omega) (by omega)) ?_
  refine r_callV (ci := 9) (As := [.int (av xs i 1)]) (rest := []) moX11_costs dL_law_1534 mlL_178 imX11_costs seX11_costs k13 rfl he1 (Nat.le_of_ble_eq_true rfl) (hc1.mono (fun r1 M1 hq => ?_))
  obtain ⟨⟨k14, e2, he2, hc2⟩, v, rfl⟩ := hq
  refine r_aload_n dL_law_1537 rfl 2 rfl ?_
  refine r_aload_n dL_law_1538 rfl 0 rfl ?_
  refine r_iload dL_law_1539 4 rfl ?_
  refine r_iconst (v := nI 1) dL_law_1541 rfl ?_
  refine r_iadd dL_law_1542 ?_
  refine r_sald rfl dL_law_1543 (by rw [nI_add]; exact z_in (by omega) (by omega)) ?_
  refine r_callV (ci := 10) (As := [.int (av xs i 1)]) (rest := [.int v]) moX12_costs dL_law_1544 mlL_181 imX12_costs seX12_costs k14 rfl he2 (Nat.le_of_ble_eq_true rfl) (hc2.mono (fun r2 M2 hq => ?_))
  obtain ⟨rfl, hN⟩ := hq
  exact r_icmp_eq (tgt := 1645) dL_law_1547 (by decide) (fun _ => hN) (fun c => absurd rfl c)
theorem law_op37 (hi : i + 5 ≤ L) (hL : L ≤ 2560) (h : SmI d mdX11_cheapest mdX12_cheapest m [] M (fun M2 => Wp d (mdL_law L xs) 1645 (LL m o i) [] M2 Q)) : Wp d (mdL_law L xs) 1552 (LL m o i) [] M Q := by
  obtain ⟨k13, e1, he1, hc1⟩ := h
  refine r_aload_n dL_law_1552 rfl 1 rfl ?_
  refine r_callV (ci := 9) (As := []) (rest := []) moX11_cheapest dL_law_1553 mlL_182 imX11_cheapest seX11_cheapest k13 rfl he1 (Nat.le_of_ble_eq_true rfl) (hc1.mono (fun r1 M1 hq => ?_))
  obtain ⟨⟨k14, e2, he2, hc2⟩, v, rfl⟩ := hq
  refine r_aload_n dL_law_1556 rfl 2 rfl ?_
  refine r_callV (ci := 10) (As := []) (rest := [.int v]) moX12_cheapest dL_law_1557 mlL_185 imX12_cheapest seX12_cheapest k14 rfl he2 (Nat.le_of_ble_eq_true rfl) (hc2.mono (fun r2 M2 hq => ?_))
  obtain ⟨rfl, hN⟩ := hq
  exact r_icmp_eq (tgt := 1645) dL_law_1560 (by decide) (fun _ => hN) (fun c => absurd rfl c)
theorem law_op38 (hi : i + 5 ≤ L) (hL : L ≤ 2560) (h : SmI d mdX11_count mdX12_count m [.int (av xs i 1)] M (fun M2 => Wp d (mdL_law L xs) 1645 (LL m o i) [] M2 Q)) : Wp d (mdL_law L xs) 1565 (LL m o i) [] M Q := by
  obtain ⟨k13, e1, he1, hc1⟩ := h
  refine r_aload_n dL_law_1565 rfl 1 rfl ?_
  refine r_aload_n dL_law_1566 rfl 0 rfl ?_
  refine r_iload dL_law_1567 4 rfl ?_
  refine r_iconst (v := nI 1) dL_law_1569 rfl ?_
  refine r_iadd dL_law_1570 ?_
  refine r_sald rfl dL_law_1571 (by rw [nI_add]; exact z_in (by omega) (by omega)) ?_
  refine r_callV (ci := 9) (As := [.int (av xs i 1)]) (rest := []) moX11_count dL_law_1572 mlL_186 imX11_count seX11_count k13 rfl he1 (Nat.le_of_ble_eq_true rfl) (hc1.mono (fun r1 M1 hq => ?_))
  obtain ⟨⟨k14, e2, he2, hc2⟩, v, rfl⟩ := hq
  refine r_aload_n dL_law_1575 rfl 2 rfl ?_
  refine r_aload_n dL_law_1576 rfl 0 rfl ?_
  refine r_iload dL_law_1577 4 rfl ?_
  refine r_iconst (v := nI 1) dL_law_1579 rfl ?_
  refine r_iadd dL_law_1580 ?_
  refine r_sald rfl dL_law_1581 (by rw [nI_add]; exact z_in (by omega) (by omega)) ?_
  refine r_callV (ci := 10) (As := [.int (av xs i 1)]) (rest := [.int v]) moX12_count dL_law_1582 mlL_189 imX12_count seX12_count k14 rfl he2 (Nat.le_of_ble_eq_true rfl) (hc2.mono (fun r2 M2 hq => ?_))
  obtain ⟨rfl, hN⟩ := hq
  exact r_icmp_eq (tgt := 1645) dL_law_1585 (by decide) (fun _ => hN) (fun c => absurd rfl c)
end LawOps
