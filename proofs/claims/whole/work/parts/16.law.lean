/-! ===== the law's calls, a lemma each ===== -/
theorem lgc_self (x : Int64) : lg_cmp x x = 0 := by
  unfold lg_cmp
  rw [if_neg (fun h => Int64.lt_irrefl h), if_pos rfl]
theorem k_0 : kd 0 = 6 := by decide +kernel
theorem k_119 : kd 119 = 7 := by decide +kernel
theorem k_178 : kd (119 + 59) = 7 := by decide +kernel
section LAWC
variable {p : Program} {l : Launch} {e : Env} {s : State} {m : MethodId} {below : List Frame} {meth : Method} {c : Code} {z : gZ} {b L N : Nat} {xs : Nat → Int32} {H : Heap} {locs : List Loc} {ls : Array Slot} {cells slots : Nat} {Q : State → Prop} {M M1 M2 : Mem} {i : Int32}
set_option maxRecDepth 20000 in
set_option maxHeartbeats 4000000 in
theorem lwc_0 (X : gX p m c cL_law 4 s #[.ref b] RL z) (hX : va_X b L xs s s.heap) (hbl : b < s.heap.size) (hbA : ¬ gA z b) (g1 : vp_in (i + 1) L) (g2 : vp_in (i + 2) L) (g3 : vp_in (i + 3) L) (n1 : 0 + 119 ≤ gn z) (n2 : 119 + 59 ≤ gn z) (hcs : cells ≤ room_1.cells ∧ slots ≤ room_1.slots) (hG : gW z M H) (hS : va_S (gA z) s.heap H locs) (hl : lv_has ls 4 [(0, .ref b), (1, .ref (gad z 0)), (2, .ref (gad z 119)), (3, .int i)]) {r : Int32} (h1 : fX6_row N M 0 (xs (i + 1).toNatClampNeg) (xs (i + 2).toNatClampNeg) (xs (i + 3).toNatClampNeg) = some (r, M1)) (h2 : fX7_row N M1 119 (xs (i + 1).toNatClampNeg) (xs (i + 2).toNatClampNeg) (xs (i + 3).toNatClampNeg) = some (r, M2)) (kk : ∀ (H : Heap) (locs : List Loc), gW z M2 H → va_S (gA z) s.heap H locs → W p l e room_1 s m #[.ref b] below meth c H locs cells slots Q (F0 m 2036 ls [])) : W p l e room_1 s m #[.ref b] below meth c H locs cells slots Q (F0 m 260 ls []) := by
  have hx := X.1
  have hb := X.2.1
  refine lv_aload_n hx hb dL_law_260 rfl (lv_at hl 1 rfl) ?_
  refine lv_aload_n hx hb dL_law_261 rfl (lv_at hl 0 rfl) ?_
  refine lv_iload_n hx hb dL_law_262 rfl (lv_at hl 3 rfl) ?_
  refine lv_iconst (v := 1) hx hb dL_law_263 (by decide) ?_
  refine lv_iadd hx hb dL_law_264 ?_
  refine va_sld hx hb hX hbl hbA hS g1 dL_law_265 ?_
  refine lv_aload_n hx hb dL_law_266 rfl (lv_at hl 0 rfl) ?_
  refine lv_iload_n hx hb dL_law_267 rfl (lv_at hl 3 rfl) ?_
  refine lv_iconst (v := 2) hx hb dL_law_268 (by decide) ?_
  refine lv_iadd hx hb dL_law_269 ?_
  refine va_sld hx hb hX hbl hbA hS g2 dL_law_270 ?_
  refine lv_aload_n hx hb dL_law_271 rfl (lv_at hl 0 rfl) ?_
  refine lv_iload_n hx hb dL_law_272 rfl (lv_at hl 3 rfl) ?_
  refine lv_iconst (v := 3) hx hb dL_law_273 (by decide) ?_
  refine lv_iadd hx hb dL_law_274 ?_
  refine va_sld hx hb hX hbl hbA hS g3 dL_law_275 ?_
  refine g_cVI (a := 0) (ci := 6) (T := TX6) (N := 8) (av := [.int (xs (i + 1).toNatClampNeg), .int (xs (i + 2).toNatClampNeg), .int (xs (i + 3).toNatClampNeg)]) (rest := []) X hG hS (ct_X6_row l z k_0 n1 h1) mt_X6_row ml_L_13 rfl ⟨rfl, rfl, Nat.le_of_ble_eq_true rfl, Nat.le_of_ble_eq_true rfl⟩ hcs (nx_0 n1) k_0 (by decide) rfl hl.1 (Nat.le_of_ble_eq_true rfl) rfl dL_law_276 (fun H locs hG hS => ?_)
  have hG : gW z M1 H := hG
  refine lv_aload_n hx hb dL_law_279 rfl (lv_at hl 2 rfl) ?_
  refine lv_aload_n hx hb dL_law_280 rfl (lv_at hl 0 rfl) ?_
  refine lv_iload_n hx hb dL_law_281 rfl (lv_at hl 3 rfl) ?_
  refine lv_iconst (v := 1) hx hb dL_law_282 (by decide) ?_
  refine lv_iadd hx hb dL_law_283 ?_
  refine va_sld hx hb hX hbl hbA hS g1 dL_law_284 ?_
  refine lv_aload_n hx hb dL_law_285 rfl (lv_at hl 0 rfl) ?_
  refine lv_iload_n hx hb dL_law_286 rfl (lv_at hl 3 rfl) ?_
  refine lv_iconst (v := 2) hx hb dL_law_287 (by decide) ?_
  refine lv_iadd hx hb dL_law_288 ?_
  refine va_sld hx hb hX hbl hbA hS g2 dL_law_289 ?_
  refine lv_aload_n hx hb dL_law_290 rfl (lv_at hl 0 rfl) ?_
  refine lv_iload_n hx hb dL_law_291 rfl (lv_at hl 3 rfl) ?_
  refine lv_iconst (v := 3) hx hb dL_law_292 (by decide) ?_
  refine lv_iadd hx hb dL_law_293 ?_
  refine va_sld hx hb hX hbl hbA hS g3 dL_law_294 ?_
  refine g_cVI (a := 119) (ci := 7) (T := TX7) (N := 37) (av := [.int (xs (i + 1).toNatClampNeg), .int (xs (i + 2).toNatClampNeg), .int (xs (i + 3).toNatClampNeg)]) (rest := [.int r]) X hG hS (ct_X7_row l z k_119 n2 h2) mt_X7_row ml_L_17 rfl ⟨rfl, rfl, Nat.le_of_ble_eq_true rfl, Nat.le_of_ble_eq_true rfl⟩ hcs (nx_0 n2) k_119 (by decide) rfl hl.1 (Nat.le_of_ble_eq_true rfl) rfl dL_law_295 (fun H locs hG hS => ?_)
  have hG : gW z M2 H := hG
  refine lv_icmp_eq (tgt := 2036) hx hb dL_law_298 (by decide) (fun _ => ?_) (fun q => absurd rfl q)
  exact kk H locs hG hS
set_option maxRecDepth 20000 in
set_option maxHeartbeats 4000000 in
theorem lwc_1 (X : gX p m c cL_law 4 s #[.ref b] RL z) (hX : va_X b L xs s s.heap) (hbl : b < s.heap.size) (hbA : ¬ gA z b) (g1 : vp_in (i + 1) L) (g2 : vp_in (i + 2) L) (g3 : vp_in (i + 3) L) (g4 : vp_in (i + 4) L) (n1 : 0 + 119 ≤ gn z) (n2 : 119 + 59 ≤ gn z) (hcs : cells ≤ room_1.cells ∧ slots ≤ room_1.slots) (hG : gW z M H) (hS : va_S (gA z) s.heap H locs) (hl : lv_has ls 4 [(0, .ref b), (1, .ref (gad z 0)), (2, .ref (gad z 119)), (3, .int i)]) {r : Int32} (h1 : fX6_set N M 0 (xs (i + 1).toNatClampNeg) (xs (i + 2).toNatClampNeg) ((((xs (i + 3).toNatClampNeg : Int32).toInt64) <<< ((32 : Int32).toInt64 &&& 63)) ||| (((xs (i + 4).toNatClampNeg : Int32).toInt64) &&& 4294967295)) = some (r, M1)) (h2 : fX7_set N M1 119 (xs (i + 1).toNatClampNeg) (xs (i + 2).toNatClampNeg) ((((xs (i + 3).toNatClampNeg : Int32).toInt64) <<< ((32 : Int32).toInt64 &&& 63)) ||| (((xs (i + 4).toNatClampNeg : Int32).toInt64) &&& 4294967295)) = some (r, M2)) (kk : ∀ (H : Heap) (locs : List Loc), gW z M2 H → va_S (gA z) s.heap H locs → W p l e room_1 s m #[.ref b] below meth c H locs cells slots Q (F0 m 2036 ls [])) : W p l e room_1 s m #[.ref b] below meth c H locs cells slots Q (F0 m 303 ls []) := by
  have hx := X.1
  have hb := X.2.1
  refine lv_aload_n hx hb dL_law_303 rfl (lv_at hl 1 rfl) ?_
  refine lv_aload_n hx hb dL_law_304 rfl (lv_at hl 0 rfl) ?_
  refine lv_iload_n hx hb dL_law_305 rfl (lv_at hl 3 rfl) ?_
  refine lv_iconst (v := 1) hx hb dL_law_306 (by decide) ?_
  refine lv_iadd hx hb dL_law_307 ?_
  refine va_sld hx hb hX hbl hbA hS g1 dL_law_308 ?_
  refine lv_aload_n hx hb dL_law_309 rfl (lv_at hl 0 rfl) ?_
  refine lv_iload_n hx hb dL_law_310 rfl (lv_at hl 3 rfl) ?_
  refine lv_iconst (v := 2) hx hb dL_law_311 (by decide) ?_
  refine lv_iadd hx hb dL_law_312 ?_
  refine va_sld hx hb hX hbl hbA hS g2 dL_law_313 ?_
  refine lv_aload_n hx hb dL_law_314 rfl (lv_at hl 0 rfl) ?_
  refine lv_iload_n hx hb dL_law_315 rfl (lv_at hl 3 rfl) ?_
  refine lv_iconst (v := 3) hx hb dL_law_316 (by decide) ?_
  refine lv_iadd hx hb dL_law_317 ?_
  refine va_sld hx hb hX hbl hbA hS g3 dL_law_318 ?_
  refine lv_i2l hx hb dL_law_319 rfl ?_
  refine lv_bipush (v := 32) hx hb dL_law_320 (by decide) ?_
  refine lv_lshl hx hb dL_law_322 rfl ?_
  refine lv_aload_n hx hb dL_law_323 rfl (lv_at hl 0 rfl) ?_
  refine lv_iload_n hx hb dL_law_324 rfl (lv_at hl 3 rfl) ?_
  refine lv_iconst (v := 4) hx hb dL_law_325 (by decide) ?_
  refine lv_iadd hx hb dL_law_326 ?_
  refine va_sld hx hb hX hbl hbA hS g4 dL_law_327 ?_
  refine lv_i2l hx hb dL_law_328 rfl ?_
  refine lv_ldc2 (v := 4294967295) hx hb X.2.2.2.1 (X.2.2.2.2.1 _ cn_L_18) dL_law_329 ?_
  refine lv_land hx hb dL_law_332 ?_
  refine lv_lor hx hb dL_law_333 ?_
  refine g_cVI (a := 0) (ci := 6) (T := TX6) (N := 8) (av := [.int (xs (i + 1).toNatClampNeg), .int (xs (i + 2).toNatClampNeg), .long ((((xs (i + 3).toNatClampNeg : Int32).toInt64) <<< ((32 : Int32).toInt64 &&& 63)) ||| (((xs (i + 4).toNatClampNeg : Int32).toInt64) &&& 4294967295))]) (rest := []) X hG hS (ct_X6_set l z k_0 n1 h1) mt_X6_set ml_L_20 rfl ⟨rfl, rfl, Nat.le_of_ble_eq_true rfl, Nat.le_of_ble_eq_true rfl⟩ hcs (nx_0 n1) k_0 (by decide) rfl hl.1 (Nat.le_of_ble_eq_true rfl) rfl dL_law_334 (fun H locs hG hS => ?_)
  have hG : gW z M1 H := hG
  refine lv_aload_n hx hb dL_law_337 rfl (lv_at hl 2 rfl) ?_
  refine lv_aload_n hx hb dL_law_338 rfl (lv_at hl 0 rfl) ?_
  refine lv_iload_n hx hb dL_law_339 rfl (lv_at hl 3 rfl) ?_
  refine lv_iconst (v := 1) hx hb dL_law_340 (by decide) ?_
  refine lv_iadd hx hb dL_law_341 ?_
  refine va_sld hx hb hX hbl hbA hS g1 dL_law_342 ?_
  refine lv_aload_n hx hb dL_law_343 rfl (lv_at hl 0 rfl) ?_
  refine lv_iload_n hx hb dL_law_344 rfl (lv_at hl 3 rfl) ?_
  refine lv_iconst (v := 2) hx hb dL_law_345 (by decide) ?_
  refine lv_iadd hx hb dL_law_346 ?_
  refine va_sld hx hb hX hbl hbA hS g2 dL_law_347 ?_
  refine lv_aload_n hx hb dL_law_348 rfl (lv_at hl 0 rfl) ?_
  refine lv_iload_n hx hb dL_law_349 rfl (lv_at hl 3 rfl) ?_
  refine lv_iconst (v := 3) hx hb dL_law_350 (by decide) ?_
  refine lv_iadd hx hb dL_law_351 ?_
  refine va_sld hx hb hX hbl hbA hS g3 dL_law_352 ?_
  refine lv_i2l hx hb dL_law_353 rfl ?_
  refine lv_bipush (v := 32) hx hb dL_law_354 (by decide) ?_
  refine lv_lshl hx hb dL_law_356 rfl ?_
  refine lv_aload_n hx hb dL_law_357 rfl (lv_at hl 0 rfl) ?_
  refine lv_iload_n hx hb dL_law_358 rfl (lv_at hl 3 rfl) ?_
  refine lv_iconst (v := 4) hx hb dL_law_359 (by decide) ?_
  refine lv_iadd hx hb dL_law_360 ?_
  refine va_sld hx hb hX hbl hbA hS g4 dL_law_361 ?_
  refine lv_i2l hx hb dL_law_362 rfl ?_
  refine lv_ldc2 (v := 4294967295) hx hb X.2.2.2.1 (X.2.2.2.2.1 _ cn_L_18) dL_law_363 ?_
  refine lv_land hx hb dL_law_366 ?_
  refine lv_lor hx hb dL_law_367 ?_
  refine g_cVI (a := 119) (ci := 7) (T := TX7) (N := 37) (av := [.int (xs (i + 1).toNatClampNeg), .int (xs (i + 2).toNatClampNeg), .long ((((xs (i + 3).toNatClampNeg : Int32).toInt64) <<< ((32 : Int32).toInt64 &&& 63)) ||| (((xs (i + 4).toNatClampNeg : Int32).toInt64) &&& 4294967295))]) (rest := [.int r]) X hG hS (ct_X7_set l z k_119 n2 h2) mt_X7_set ml_L_24 rfl ⟨rfl, rfl, Nat.le_of_ble_eq_true rfl, Nat.le_of_ble_eq_true rfl⟩ hcs (nx_0 n2) k_119 (by decide) rfl hl.1 (Nat.le_of_ble_eq_true rfl) rfl dL_law_368 (fun H locs hG hS => ?_)
  have hG : gW z M2 H := hG
  refine lv_icmp_eq (tgt := 2036) hx hb dL_law_371 (by decide) (fun _ => ?_) (fun q => absurd rfl q)
  exact kk H locs hG hS
set_option maxRecDepth 20000 in
set_option maxHeartbeats 4000000 in
theorem lwc_2 (X : gX p m c cL_law 4 s #[.ref b] RL z) (hX : va_X b L xs s s.heap) (hbl : b < s.heap.size) (hbA : ¬ gA z b) (g1 : vp_in (i + 1) L) (g2 : vp_in (i + 2) L) (g3 : vp_in (i + 3) L) (g4 : vp_in (i + 4) L) (g5 : vp_in (i + 5) L) (n1 : 0 + 119 ≤ gn z) (n2 : 119 + 59 ≤ gn z) (hcs : cells ≤ room_1.cells ∧ slots ≤ room_1.slots) (hG : gW z M H) (hS : va_S (gA z) s.heap H locs) (hl : lv_has ls 4 [(0, .ref b), (1, .ref (gad z 0)), (2, .ref (gad z 119)), (3, .int i)]) {r : Int32} (h1 : fX6_copy N M 0 (xs (i + 1).toNatClampNeg) (xs (i + 2).toNatClampNeg) (xs (i + 3).toNatClampNeg) (xs (i + 4).toNatClampNeg) (xs (i + 5).toNatClampNeg) = some (r, M1)) (h2 : fX7_copy N M1 119 (xs (i + 1).toNatClampNeg) (xs (i + 2).toNatClampNeg) (xs (i + 3).toNatClampNeg) (xs (i + 4).toNatClampNeg) (xs (i + 5).toNatClampNeg) = some (r, M2)) (kk : ∀ (H : Heap) (locs : List Loc), gW z M2 H → va_S (gA z) s.heap H locs → W p l e room_1 s m #[.ref b] below meth c H locs cells slots Q (F0 m 2036 ls [])) : W p l e room_1 s m #[.ref b] below meth c H locs cells slots Q (F0 m 376 ls []) := by
  have hx := X.1
  have hb := X.2.1
  refine lv_aload_n hx hb dL_law_376 rfl (lv_at hl 1 rfl) ?_
  refine lv_aload_n hx hb dL_law_377 rfl (lv_at hl 0 rfl) ?_
  refine lv_iload_n hx hb dL_law_378 rfl (lv_at hl 3 rfl) ?_
  refine lv_iconst (v := 1) hx hb dL_law_379 (by decide) ?_
  refine lv_iadd hx hb dL_law_380 ?_
  refine va_sld hx hb hX hbl hbA hS g1 dL_law_381 ?_
  refine lv_aload_n hx hb dL_law_382 rfl (lv_at hl 0 rfl) ?_
  refine lv_iload_n hx hb dL_law_383 rfl (lv_at hl 3 rfl) ?_
  refine lv_iconst (v := 2) hx hb dL_law_384 (by decide) ?_
  refine lv_iadd hx hb dL_law_385 ?_
  refine va_sld hx hb hX hbl hbA hS g2 dL_law_386 ?_
  refine lv_aload_n hx hb dL_law_387 rfl (lv_at hl 0 rfl) ?_
  refine lv_iload_n hx hb dL_law_388 rfl (lv_at hl 3 rfl) ?_
  refine lv_iconst (v := 3) hx hb dL_law_389 (by decide) ?_
  refine lv_iadd hx hb dL_law_390 ?_
  refine va_sld hx hb hX hbl hbA hS g3 dL_law_391 ?_
  refine lv_aload_n hx hb dL_law_392 rfl (lv_at hl 0 rfl) ?_
  refine lv_iload_n hx hb dL_law_393 rfl (lv_at hl 3 rfl) ?_
  refine lv_iconst (v := 4) hx hb dL_law_394 (by decide) ?_
  refine lv_iadd hx hb dL_law_395 ?_
  refine va_sld hx hb hX hbl hbA hS g4 dL_law_396 ?_
  refine lv_aload_n hx hb dL_law_397 rfl (lv_at hl 0 rfl) ?_
  refine lv_iload_n hx hb dL_law_398 rfl (lv_at hl 3 rfl) ?_
  refine lv_iconst (v := 5) hx hb dL_law_399 (by decide) ?_
  refine lv_iadd hx hb dL_law_400 ?_
  refine va_sld hx hb hX hbl hbA hS g5 dL_law_401 ?_
  refine g_cVI (a := 0) (ci := 6) (T := TX6) (N := 8) (av := [.int (xs (i + 1).toNatClampNeg), .int (xs (i + 2).toNatClampNeg), .int (xs (i + 3).toNatClampNeg), .int (xs (i + 4).toNatClampNeg), .int (xs (i + 5).toNatClampNeg)]) (rest := []) X hG hS (ct_X6_copy l z k_0 n1 h1) mt_X6_copy ml_L_25 rfl ⟨rfl, rfl, Nat.le_of_ble_eq_true rfl, Nat.le_of_ble_eq_true rfl⟩ hcs (nx_0 n1) k_0 (by decide) rfl hl.1 (Nat.le_of_ble_eq_true rfl) rfl dL_law_402 (fun H locs hG hS => ?_)
  have hG : gW z M1 H := hG
  refine lv_aload_n hx hb dL_law_405 rfl (lv_at hl 2 rfl) ?_
  refine lv_aload_n hx hb dL_law_406 rfl (lv_at hl 0 rfl) ?_
  refine lv_iload_n hx hb dL_law_407 rfl (lv_at hl 3 rfl) ?_
  refine lv_iconst (v := 1) hx hb dL_law_408 (by decide) ?_
  refine lv_iadd hx hb dL_law_409 ?_
  refine va_sld hx hb hX hbl hbA hS g1 dL_law_410 ?_
  refine lv_aload_n hx hb dL_law_411 rfl (lv_at hl 0 rfl) ?_
  refine lv_iload_n hx hb dL_law_412 rfl (lv_at hl 3 rfl) ?_
  refine lv_iconst (v := 2) hx hb dL_law_413 (by decide) ?_
  refine lv_iadd hx hb dL_law_414 ?_
  refine va_sld hx hb hX hbl hbA hS g2 dL_law_415 ?_
  refine lv_aload_n hx hb dL_law_416 rfl (lv_at hl 0 rfl) ?_
  refine lv_iload_n hx hb dL_law_417 rfl (lv_at hl 3 rfl) ?_
  refine lv_iconst (v := 3) hx hb dL_law_418 (by decide) ?_
  refine lv_iadd hx hb dL_law_419 ?_
  refine va_sld hx hb hX hbl hbA hS g3 dL_law_420 ?_
  refine lv_aload_n hx hb dL_law_421 rfl (lv_at hl 0 rfl) ?_
  refine lv_iload_n hx hb dL_law_422 rfl (lv_at hl 3 rfl) ?_
  refine lv_iconst (v := 4) hx hb dL_law_423 (by decide) ?_
  refine lv_iadd hx hb dL_law_424 ?_
  refine va_sld hx hb hX hbl hbA hS g4 dL_law_425 ?_
  refine lv_aload_n hx hb dL_law_426 rfl (lv_at hl 0 rfl) ?_
  refine lv_iload_n hx hb dL_law_427 rfl (lv_at hl 3 rfl) ?_
  refine lv_iconst (v := 5) hx hb dL_law_428 (by decide) ?_
  refine lv_iadd hx hb dL_law_429 ?_
  refine va_sld hx hb hX hbl hbA hS g5 dL_law_430 ?_
  refine g_cVI (a := 119) (ci := 7) (T := TX7) (N := 37) (av := [.int (xs (i + 1).toNatClampNeg), .int (xs (i + 2).toNatClampNeg), .int (xs (i + 3).toNatClampNeg), .int (xs (i + 4).toNatClampNeg), .int (xs (i + 5).toNatClampNeg)]) (rest := [.int r]) X hG hS (ct_X7_copy l z k_119 n2 h2) mt_X7_copy ml_L_29 rfl ⟨rfl, rfl, Nat.le_of_ble_eq_true rfl, Nat.le_of_ble_eq_true rfl⟩ hcs (nx_0 n2) k_119 (by decide) rfl hl.1 (Nat.le_of_ble_eq_true rfl) rfl dL_law_431 (fun H locs hG hS => ?_)
  have hG : gW z M2 H := hG
  refine lv_icmp_eq (tgt := 2036) hx hb dL_law_434 (by decide) (fun _ => ?_) (fun q => absurd rfl q)
  exact kk H locs hG hS
set_option maxRecDepth 20000 in
set_option maxHeartbeats 4000000 in
theorem lwc_3 (X : gX p m c cL_law 4 s #[.ref b] RL z) (hX : va_X b L xs s s.heap) (hbl : b < s.heap.size) (hbA : ¬ gA z b) (g1 : vp_in (i + 1) L) (g2 : vp_in (i + 2) L) (n1 : 0 + 119 ≤ gn z) (n2 : 119 + 59 ≤ gn z) (hcs : cells ≤ room_1.cells ∧ slots ≤ room_1.slots) (hG : gW z M H) (hS : va_S (gA z) s.heap H locs) (hl : lv_has ls 4 [(0, .ref b), (1, .ref (gad z 0)), (2, .ref (gad z 119)), (3, .int i)]) {r : Int64} (h1 : fX6_element N M 0 (xs (i + 1).toNatClampNeg) (xs (i + 2).toNatClampNeg) = some r) (h2 : fX7_element N M 119 (xs (i + 1).toNatClampNeg) (xs (i + 2).toNatClampNeg) = some r) (kk : ∀ (H : Heap) (locs : List Loc), gW z M H → va_S (gA z) s.heap H locs → W p l e room_1 s m #[.ref b] below meth c H locs cells slots Q (F0 m 2036 ls [])) : W p l e room_1 s m #[.ref b] below meth c H locs cells slots Q (F0 m 439 ls []) := by
  have hx := X.1
  have hb := X.2.1
  refine lv_aload_n hx hb dL_law_439 rfl (lv_at hl 1 rfl) ?_
  refine lv_aload_n hx hb dL_law_440 rfl (lv_at hl 0 rfl) ?_
  refine lv_iload_n hx hb dL_law_441 rfl (lv_at hl 3 rfl) ?_
  refine lv_iconst (v := 1) hx hb dL_law_442 (by decide) ?_
  refine lv_iadd hx hb dL_law_443 ?_
  refine va_sld hx hb hX hbl hbA hS g1 dL_law_444 ?_
  refine lv_aload_n hx hb dL_law_445 rfl (lv_at hl 0 rfl) ?_
  refine lv_iload_n hx hb dL_law_446 rfl (lv_at hl 3 rfl) ?_
  refine lv_iconst (v := 2) hx hb dL_law_447 (by decide) ?_
  refine lv_iadd hx hb dL_law_448 ?_
  refine va_sld hx hb hX hbl hbA hS g2 dL_law_449 ?_
  refine g_cVL (a := 0) (ci := 6) (T := TX6) (N := 8) (av := [.int (xs (i + 1).toNatClampNeg), .int (xs (i + 2).toNatClampNeg)]) (rest := []) X hG hS (ct_X6_element l z k_0 n1 h1) mt_X6_element ml_L_30 rfl ⟨rfl, rfl, Nat.le_of_ble_eq_true rfl, Nat.le_of_ble_eq_true rfl⟩ hcs (nx_0 n1) k_0 (by decide) rfl hl.1 (Nat.le_of_ble_eq_true rfl) rfl dL_law_450 (fun H locs hG hS => ?_)
  have hG : gW z M H := hG
  refine lv_aload_n hx hb dL_law_453 rfl (lv_at hl 2 rfl) ?_
  refine lv_aload_n hx hb dL_law_454 rfl (lv_at hl 0 rfl) ?_
  refine lv_iload_n hx hb dL_law_455 rfl (lv_at hl 3 rfl) ?_
  refine lv_iconst (v := 1) hx hb dL_law_456 (by decide) ?_
  refine lv_iadd hx hb dL_law_457 ?_
  refine va_sld hx hb hX hbl hbA hS g1 dL_law_458 ?_
  refine lv_aload_n hx hb dL_law_459 rfl (lv_at hl 0 rfl) ?_
  refine lv_iload_n hx hb dL_law_460 rfl (lv_at hl 3 rfl) ?_
  refine lv_iconst (v := 2) hx hb dL_law_461 (by decide) ?_
  refine lv_iadd hx hb dL_law_462 ?_
  refine va_sld hx hb hX hbl hbA hS g2 dL_law_463 ?_
  refine g_cVL (a := 119) (ci := 7) (T := TX7) (N := 37) (av := [.int (xs (i + 1).toNatClampNeg), .int (xs (i + 2).toNatClampNeg)]) (rest := [.long r]) X hG hS (ct_X7_element l z k_119 n2 h2) mt_X7_element ml_L_34 rfl ⟨rfl, rfl, Nat.le_of_ble_eq_true rfl, Nat.le_of_ble_eq_true rfl⟩ hcs (nx_0 n2) k_119 (by decide) rfl hl.1 (Nat.le_of_ble_eq_true rfl) rfl dL_law_464 (fun H locs hG hS => ?_)
  have hG : gW z M H := hG
  refine W.lcmp hx hb dL_law_467 ?_
  refine lv_if_eq (tgt := 2036) hx hb dL_law_468 (by decide) (fun _ => ?_) (fun q => absurd (lgc_self _) q)
  exact kk H locs hG hS
set_option maxRecDepth 20000 in
set_option maxHeartbeats 4000000 in
theorem lwc_4 (X : gX p m c cL_law 4 s #[.ref b] RL z) (hX : va_X b L xs s s.heap) (hbl : b < s.heap.size) (hbA : ¬ gA z b) (g1 : vp_in (i + 1) L) (n1 : 0 + 119 ≤ gn z) (n2 : 119 + 59 ≤ gn z) (hcs : cells ≤ room_1.cells ∧ slots ≤ room_1.slots) (hG : gW z M H) (hS : va_S (gA z) s.heap H locs) (hl : lv_has ls 4 [(0, .ref b), (1, .ref (gad z 0)), (2, .ref (gad z 119)), (3, .int i)]) {r : Int32} (h1 : fX6_holds N M 0 (xs (i + 1).toNatClampNeg) = some r) (h2 : fX7_holds N M 119 (xs (i + 1).toNatClampNeg) = some r) (kk : ∀ (H : Heap) (locs : List Loc), gW z M H → va_S (gA z) s.heap H locs → W p l e room_1 s m #[.ref b] below meth c H locs cells slots Q (F0 m 2036 ls [])) : W p l e room_1 s m #[.ref b] below meth c H locs cells slots Q (F0 m 473 ls []) := by
  have hx := X.1
  have hb := X.2.1
  refine lv_aload_n hx hb dL_law_473 rfl (lv_at hl 1 rfl) ?_
  refine lv_aload_n hx hb dL_law_474 rfl (lv_at hl 0 rfl) ?_
  refine lv_iload_n hx hb dL_law_475 rfl (lv_at hl 3 rfl) ?_
  refine lv_iconst (v := 1) hx hb dL_law_476 (by decide) ?_
  refine lv_iadd hx hb dL_law_477 ?_
  refine va_sld hx hb hX hbl hbA hS g1 dL_law_478 ?_
  refine g_cVI (a := 0) (ci := 6) (T := TX6) (N := 8) (av := [.int (xs (i + 1).toNatClampNeg)]) (rest := []) X hG hS (ct_X6_holds l z k_0 n1 h1) mt_X6_holds ml_L_35 rfl ⟨rfl, rfl, Nat.le_of_ble_eq_true rfl, Nat.le_of_ble_eq_true rfl⟩ hcs (nx_0 n1) k_0 (by decide) rfl hl.1 (Nat.le_of_ble_eq_true rfl) rfl dL_law_479 (fun H locs hG hS => ?_)
  have hG : gW z M H := hG
  refine lv_aload_n hx hb dL_law_482 rfl (lv_at hl 2 rfl) ?_
  refine lv_aload_n hx hb dL_law_483 rfl (lv_at hl 0 rfl) ?_
  refine lv_iload_n hx hb dL_law_484 rfl (lv_at hl 3 rfl) ?_
  refine lv_iconst (v := 1) hx hb dL_law_485 (by decide) ?_
  refine lv_iadd hx hb dL_law_486 ?_
  refine va_sld hx hb hX hbl hbA hS g1 dL_law_487 ?_
  refine g_cVI (a := 119) (ci := 7) (T := TX7) (N := 37) (av := [.int (xs (i + 1).toNatClampNeg)]) (rest := [.int r]) X hG hS (ct_X7_holds l z k_119 n2 h2) mt_X7_holds ml_L_39 rfl ⟨rfl, rfl, Nat.le_of_ble_eq_true rfl, Nat.le_of_ble_eq_true rfl⟩ hcs (nx_0 n2) k_119 (by decide) rfl hl.1 (Nat.le_of_ble_eq_true rfl) rfl dL_law_488 (fun H locs hG hS => ?_)
  have hG : gW z M H := hG
  refine lv_icmp_eq (tgt := 2036) hx hb dL_law_491 (by decide) (fun _ => ?_) (fun q => absurd rfl q)
  exact kk H locs hG hS
set_option maxRecDepth 20000 in
set_option maxHeartbeats 4000000 in
theorem lwc_5 (X : gX p m c cL_law 4 s #[.ref b] RL z) (hX : va_X b L xs s s.heap) (hbl : b < s.heap.size) (hbA : ¬ gA z b) (g1 : vp_in (i + 1) L) (g2 : vp_in (i + 2) L) (g3 : vp_in (i + 3) L) (n1 : 0 + 119 ≤ gn z) (n2 : 119 + 59 ≤ gn z) (hcs : cells ≤ room_1.cells ∧ slots ≤ room_1.slots) (hG : gW z M H) (hS : va_S (gA z) s.heap H locs) (hl : lv_has ls 4 [(0, .ref b), (1, .ref (gad z 0)), (2, .ref (gad z 119)), (3, .int i)]) {r : Int32} (h1 : fX6_way N M 0 (xs (i + 1).toNatClampNeg) (xs (i + 2).toNatClampNeg) (xs (i + 3).toNatClampNeg) = some (r, M1)) (h2 : fX7_way N M1 119 (xs (i + 1).toNatClampNeg) (xs (i + 2).toNatClampNeg) (xs (i + 3).toNatClampNeg) = some (r, M2)) (kk : ∀ (H : Heap) (locs : List Loc), gW z M2 H → va_S (gA z) s.heap H locs → W p l e room_1 s m #[.ref b] below meth c H locs cells slots Q (F0 m 2036 ls [])) : W p l e room_1 s m #[.ref b] below meth c H locs cells slots Q (F0 m 496 ls []) := by
  have hx := X.1
  have hb := X.2.1
  refine lv_aload_n hx hb dL_law_496 rfl (lv_at hl 1 rfl) ?_
  refine lv_aload_n hx hb dL_law_497 rfl (lv_at hl 0 rfl) ?_
  refine lv_iload_n hx hb dL_law_498 rfl (lv_at hl 3 rfl) ?_
  refine lv_iconst (v := 1) hx hb dL_law_499 (by decide) ?_
  refine lv_iadd hx hb dL_law_500 ?_
  refine va_sld hx hb hX hbl hbA hS g1 dL_law_501 ?_
  refine lv_aload_n hx hb dL_law_502 rfl (lv_at hl 0 rfl) ?_
  refine lv_iload_n hx hb dL_law_503 rfl (lv_at hl 3 rfl) ?_
  refine lv_iconst (v := 2) hx hb dL_law_504 (by decide) ?_
  refine lv_iadd hx hb dL_law_505 ?_
  refine va_sld hx hb hX hbl hbA hS g2 dL_law_506 ?_
  refine lv_aload_n hx hb dL_law_507 rfl (lv_at hl 0 rfl) ?_
  refine lv_iload_n hx hb dL_law_508 rfl (lv_at hl 3 rfl) ?_
  refine lv_iconst (v := 3) hx hb dL_law_509 (by decide) ?_
  refine lv_iadd hx hb dL_law_510 ?_
  refine va_sld hx hb hX hbl hbA hS g3 dL_law_511 ?_
  refine g_cVI (a := 0) (ci := 6) (T := TX6) (N := 8) (av := [.int (xs (i + 1).toNatClampNeg), .int (xs (i + 2).toNatClampNeg), .int (xs (i + 3).toNatClampNeg)]) (rest := []) X hG hS (ct_X6_way l z k_0 n1 h1) mt_X6_way ml_L_40 rfl ⟨rfl, rfl, Nat.le_of_ble_eq_true rfl, Nat.le_of_ble_eq_true rfl⟩ hcs (nx_0 n1) k_0 (by decide) rfl hl.1 (Nat.le_of_ble_eq_true rfl) rfl dL_law_512 (fun H locs hG hS => ?_)
  have hG : gW z M1 H := hG
  refine lv_aload_n hx hb dL_law_515 rfl (lv_at hl 2 rfl) ?_
  refine lv_aload_n hx hb dL_law_516 rfl (lv_at hl 0 rfl) ?_
  refine lv_iload_n hx hb dL_law_517 rfl (lv_at hl 3 rfl) ?_
  refine lv_iconst (v := 1) hx hb dL_law_518 (by decide) ?_
  refine lv_iadd hx hb dL_law_519 ?_
  refine va_sld hx hb hX hbl hbA hS g1 dL_law_520 ?_
  refine lv_aload_n hx hb dL_law_521 rfl (lv_at hl 0 rfl) ?_
  refine lv_iload_n hx hb dL_law_522 rfl (lv_at hl 3 rfl) ?_
  refine lv_iconst (v := 2) hx hb dL_law_523 (by decide) ?_
  refine lv_iadd hx hb dL_law_524 ?_
  refine va_sld hx hb hX hbl hbA hS g2 dL_law_525 ?_
  refine lv_aload_n hx hb dL_law_526 rfl (lv_at hl 0 rfl) ?_
  refine lv_iload_n hx hb dL_law_527 rfl (lv_at hl 3 rfl) ?_
  refine lv_iconst (v := 3) hx hb dL_law_528 (by decide) ?_
  refine lv_iadd hx hb dL_law_529 ?_
  refine va_sld hx hb hX hbl hbA hS g3 dL_law_530 ?_
  refine g_cVI (a := 119) (ci := 7) (T := TX7) (N := 37) (av := [.int (xs (i + 1).toNatClampNeg), .int (xs (i + 2).toNatClampNeg), .int (xs (i + 3).toNatClampNeg)]) (rest := [.int r]) X hG hS (ct_X7_way l z k_119 n2 h2) mt_X7_way ml_L_43 rfl ⟨rfl, rfl, Nat.le_of_ble_eq_true rfl, Nat.le_of_ble_eq_true rfl⟩ hcs (nx_0 n2) k_119 (by decide) rfl hl.1 (Nat.le_of_ble_eq_true rfl) rfl dL_law_531 (fun H locs hG hS => ?_)
  have hG : gW z M2 H := hG
  refine lv_icmp_eq (tgt := 2036) hx hb dL_law_534 (by decide) (fun _ => ?_) (fun q => absurd rfl q)
  exact kk H locs hG hS
set_option maxRecDepth 20000 in
set_option maxHeartbeats 4000000 in
theorem lwc_6 (X : gX p m c cL_law 4 s #[.ref b] RL z) (hX : va_X b L xs s s.heap) (hbl : b < s.heap.size) (hbA : ¬ gA z b) (g1 : vp_in (i + 1) L) (g2 : vp_in (i + 2) L) (n1 : 0 + 119 ≤ gn z) (n2 : 119 + 59 ≤ gn z) (hcs : cells ≤ room_1.cells ∧ slots ≤ room_1.slots) (hG : gW z M H) (hS : va_S (gA z) s.heap H locs) (hl : lv_has ls 4 [(0, .ref b), (1, .ref (gad z 0)), (2, .ref (gad z 119)), (3, .int i)]) {r : Int32} (h1 : fX6_says N M 0 (xs (i + 1).toNatClampNeg) (xs (i + 2).toNatClampNeg) = some (r, M1)) (h2 : fX7_says N M1 119 (xs (i + 1).toNatClampNeg) (xs (i + 2).toNatClampNeg) = some (r, M2)) (kk : ∀ (H : Heap) (locs : List Loc), gW z M2 H → va_S (gA z) s.heap H locs → W p l e room_1 s m #[.ref b] below meth c H locs cells slots Q (F0 m 2036 ls [])) : W p l e room_1 s m #[.ref b] below meth c H locs cells slots Q (F0 m 539 ls []) := by
  have hx := X.1
  have hb := X.2.1
  refine lv_aload_n hx hb dL_law_539 rfl (lv_at hl 1 rfl) ?_
  refine lv_aload_n hx hb dL_law_540 rfl (lv_at hl 0 rfl) ?_
  refine lv_iload_n hx hb dL_law_541 rfl (lv_at hl 3 rfl) ?_
  refine lv_iconst (v := 1) hx hb dL_law_542 (by decide) ?_
  refine lv_iadd hx hb dL_law_543 ?_
  refine va_sld hx hb hX hbl hbA hS g1 dL_law_544 ?_
  refine lv_aload_n hx hb dL_law_545 rfl (lv_at hl 0 rfl) ?_
  refine lv_iload_n hx hb dL_law_546 rfl (lv_at hl 3 rfl) ?_
  refine lv_iconst (v := 2) hx hb dL_law_547 (by decide) ?_
  refine lv_iadd hx hb dL_law_548 ?_
  refine va_sld hx hb hX hbl hbA hS g2 dL_law_549 ?_
  refine g_cVI (a := 0) (ci := 6) (T := TX6) (N := 8) (av := [.int (xs (i + 1).toNatClampNeg), .int (xs (i + 2).toNatClampNeg)]) (rest := []) X hG hS (ct_X6_says l z k_0 n1 h1) mt_X6_says ml_L_44 rfl ⟨rfl, rfl, Nat.le_of_ble_eq_true rfl, Nat.le_of_ble_eq_true rfl⟩ hcs (nx_0 n1) k_0 (by decide) rfl hl.1 (Nat.le_of_ble_eq_true rfl) rfl dL_law_550 (fun H locs hG hS => ?_)
  have hG : gW z M1 H := hG
  refine lv_aload_n hx hb dL_law_553 rfl (lv_at hl 2 rfl) ?_
  refine lv_aload_n hx hb dL_law_554 rfl (lv_at hl 0 rfl) ?_
  refine lv_iload_n hx hb dL_law_555 rfl (lv_at hl 3 rfl) ?_
  refine lv_iconst (v := 1) hx hb dL_law_556 (by decide) ?_
  refine lv_iadd hx hb dL_law_557 ?_
  refine va_sld hx hb hX hbl hbA hS g1 dL_law_558 ?_
  refine lv_aload_n hx hb dL_law_559 rfl (lv_at hl 0 rfl) ?_
  refine lv_iload_n hx hb dL_law_560 rfl (lv_at hl 3 rfl) ?_
  refine lv_iconst (v := 2) hx hb dL_law_561 (by decide) ?_
  refine lv_iadd hx hb dL_law_562 ?_
  refine va_sld hx hb hX hbl hbA hS g2 dL_law_563 ?_
  refine g_cVI (a := 119) (ci := 7) (T := TX7) (N := 37) (av := [.int (xs (i + 1).toNatClampNeg), .int (xs (i + 2).toNatClampNeg)]) (rest := [.int r]) X hG hS (ct_X7_says l z k_119 n2 h2) mt_X7_says ml_L_48 rfl ⟨rfl, rfl, Nat.le_of_ble_eq_true rfl, Nat.le_of_ble_eq_true rfl⟩ hcs (nx_0 n2) k_119 (by decide) rfl hl.1 (Nat.le_of_ble_eq_true rfl) rfl dL_law_564 (fun H locs hG hS => ?_)
  have hG : gW z M2 H := hG
  refine lv_icmp_eq (tgt := 2036) hx hb dL_law_567 (by decide) (fun _ => ?_) (fun q => absurd rfl q)
  exact kk H locs hG hS
set_option maxRecDepth 20000 in
set_option maxHeartbeats 4000000 in
theorem lwc_7 (X : gX p m c cL_law 4 s #[.ref b] RL z) (hX : va_X b L xs s s.heap) (hbl : b < s.heap.size) (hbA : ¬ gA z b) (g1 : vp_in (i + 1) L) (g2 : vp_in (i + 2) L) (n1 : 0 + 119 ≤ gn z) (n2 : 119 + 59 ≤ gn z) (hcs : cells ≤ room_1.cells ∧ slots ≤ room_1.slots) (hG : gW z M H) (hS : va_S (gA z) s.heap H locs) (hl : lv_has ls 4 [(0, .ref b), (1, .ref (gad z 0)), (2, .ref (gad z 119)), (3, .int i)]) {r : Int32} (h1 : fX6_feed N M 0 (xs (i + 1).toNatClampNeg) (xs (i + 2).toNatClampNeg) = some (r, M1)) (h2 : fX7_feed N M1 119 (xs (i + 1).toNatClampNeg) (xs (i + 2).toNatClampNeg) = some (r, M2)) (kk : ∀ (H : Heap) (locs : List Loc), gW z M2 H → va_S (gA z) s.heap H locs → W p l e room_1 s m #[.ref b] below meth c H locs cells slots Q (F0 m 2036 ls [])) : W p l e room_1 s m #[.ref b] below meth c H locs cells slots Q (F0 m 572 ls []) := by
  have hx := X.1
  have hb := X.2.1
  refine lv_aload_n hx hb dL_law_572 rfl (lv_at hl 1 rfl) ?_
  refine lv_aload_n hx hb dL_law_573 rfl (lv_at hl 0 rfl) ?_
  refine lv_iload_n hx hb dL_law_574 rfl (lv_at hl 3 rfl) ?_
  refine lv_iconst (v := 1) hx hb dL_law_575 (by decide) ?_
  refine lv_iadd hx hb dL_law_576 ?_
  refine va_sld hx hb hX hbl hbA hS g1 dL_law_577 ?_
  refine lv_aload_n hx hb dL_law_578 rfl (lv_at hl 0 rfl) ?_
  refine lv_iload_n hx hb dL_law_579 rfl (lv_at hl 3 rfl) ?_
  refine lv_iconst (v := 2) hx hb dL_law_580 (by decide) ?_
  refine lv_iadd hx hb dL_law_581 ?_
  refine va_sld hx hb hX hbl hbA hS g2 dL_law_582 ?_
  refine g_cVI (a := 0) (ci := 6) (T := TX6) (N := 8) (av := [.int (xs (i + 1).toNatClampNeg), .int (xs (i + 2).toNatClampNeg)]) (rest := []) X hG hS (ct_X6_feed l z k_0 n1 h1) mt_X6_feed ml_L_49 rfl ⟨rfl, rfl, Nat.le_of_ble_eq_true rfl, Nat.le_of_ble_eq_true rfl⟩ hcs (nx_0 n1) k_0 (by decide) rfl hl.1 (Nat.le_of_ble_eq_true rfl) rfl dL_law_583 (fun H locs hG hS => ?_)
  have hG : gW z M1 H := hG
  refine lv_aload_n hx hb dL_law_586 rfl (lv_at hl 2 rfl) ?_
  refine lv_aload_n hx hb dL_law_587 rfl (lv_at hl 0 rfl) ?_
  refine lv_iload_n hx hb dL_law_588 rfl (lv_at hl 3 rfl) ?_
  refine lv_iconst (v := 1) hx hb dL_law_589 (by decide) ?_
  refine lv_iadd hx hb dL_law_590 ?_
  refine va_sld hx hb hX hbl hbA hS g1 dL_law_591 ?_
  refine lv_aload_n hx hb dL_law_592 rfl (lv_at hl 0 rfl) ?_
  refine lv_iload_n hx hb dL_law_593 rfl (lv_at hl 3 rfl) ?_
  refine lv_iconst (v := 2) hx hb dL_law_594 (by decide) ?_
  refine lv_iadd hx hb dL_law_595 ?_
  refine va_sld hx hb hX hbl hbA hS g2 dL_law_596 ?_
  refine g_cVI (a := 119) (ci := 7) (T := TX7) (N := 37) (av := [.int (xs (i + 1).toNatClampNeg), .int (xs (i + 2).toNatClampNeg)]) (rest := [.int r]) X hG hS (ct_X7_feed l z k_119 n2 h2) mt_X7_feed ml_L_52 rfl ⟨rfl, rfl, Nat.le_of_ble_eq_true rfl, Nat.le_of_ble_eq_true rfl⟩ hcs (nx_0 n2) k_119 (by decide) rfl hl.1 (Nat.le_of_ble_eq_true rfl) rfl dL_law_597 (fun H locs hG hS => ?_)
  have hG : gW z M2 H := hG
  refine lv_icmp_eq (tgt := 2036) hx hb dL_law_600 (by decide) (fun _ => ?_) (fun q => absurd rfl q)
  exact kk H locs hG hS
set_option maxRecDepth 20000 in
set_option maxHeartbeats 4000000 in
theorem lwc_8 (X : gX p m c cL_law 4 s #[.ref b] RL z) (hX : va_X b L xs s s.heap) (hbl : b < s.heap.size) (hbA : ¬ gA z b)  (n1 : 0 + 119 ≤ gn z) (n2 : 119 + 59 ≤ gn z) (hcs : cells ≤ room_1.cells ∧ slots ≤ room_1.slots) (hG : gW z M H) (hS : va_S (gA z) s.heap H locs) (hl : lv_has ls 4 [(0, .ref b), (1, .ref (gad z 0)), (2, .ref (gad z 119)), (3, .int i)]) {r : Int32} (h1 : fX6_wipe N M 0 = some (r, M1)) (h2 : fX7_wipe N M1 119 = some (r, M2)) (kk : ∀ (H : Heap) (locs : List Loc), gW z M2 H → va_S (gA z) s.heap H locs → W p l e room_1 s m #[.ref b] below meth c H locs cells slots Q (F0 m 2036 ls [])) : W p l e room_1 s m #[.ref b] below meth c H locs cells slots Q (F0 m 605 ls []) := by
  have hx := X.1
  have hb := X.2.1
  refine lv_aload_n hx hb dL_law_605 rfl (lv_at hl 1 rfl) ?_
  refine g_cVI (a := 0) (ci := 6) (T := TX6) (N := 8) (av := []) (rest := []) X hG hS (ct_X6_wipe l z k_0 n1 h1) mt_X6_wipe ml_L_53 rfl ⟨rfl, rfl, Nat.le_of_ble_eq_true rfl, Nat.le_of_ble_eq_true rfl⟩ hcs (nx_0 n1) k_0 (by decide) rfl hl.1 (Nat.le_of_ble_eq_true rfl) rfl dL_law_606 (fun H locs hG hS => ?_)
  have hG : gW z M1 H := hG
  refine lv_aload_n hx hb dL_law_609 rfl (lv_at hl 2 rfl) ?_
  refine g_cVI (a := 119) (ci := 7) (T := TX7) (N := 37) (av := []) (rest := [.int r]) X hG hS (ct_X7_wipe l z k_119 n2 h2) mt_X7_wipe ml_L_57 rfl ⟨rfl, rfl, Nat.le_of_ble_eq_true rfl, Nat.le_of_ble_eq_true rfl⟩ hcs (nx_0 n2) k_119 (by decide) rfl hl.1 (Nat.le_of_ble_eq_true rfl) rfl dL_law_610 (fun H locs hG hS => ?_)
  have hG : gW z M2 H := hG
  refine lv_icmp_eq (tgt := 2036) hx hb dL_law_613 (by decide) (fun _ => ?_) (fun q => absurd rfl q)
  exact kk H locs hG hS
set_option maxRecDepth 20000 in
set_option maxHeartbeats 4000000 in
theorem lwc_9 (X : gX p m c cL_law 4 s #[.ref b] RL z) (hX : va_X b L xs s s.heap) (hbl : b < s.heap.size) (hbA : ¬ gA z b)  (n1 : 0 + 119 ≤ gn z) (n2 : 119 + 59 ≤ gn z) (hcs : cells ≤ room_1.cells ∧ slots ≤ room_1.slots) (hG : gW z M H) (hS : va_S (gA z) s.heap H locs) (hl : lv_has ls 4 [(0, .ref b), (1, .ref (gad z 0)), (2, .ref (gad z 119)), (3, .int i)]) {r : Int32} (h1 : fX6_street N M 0 = some (r, M1)) (h2 : fX7_street N M1 119 = some (r, M2)) (kk : ∀ (H : Heap) (locs : List Loc), gW z M2 H → va_S (gA z) s.heap H locs → W p l e room_1 s m #[.ref b] below meth c H locs cells slots Q (F0 m 2036 ls [])) : W p l e room_1 s m #[.ref b] below meth c H locs cells slots Q (F0 m 618 ls []) := by
  have hx := X.1
  have hb := X.2.1
  refine lv_aload_n hx hb dL_law_618 rfl (lv_at hl 1 rfl) ?_
  refine g_cVI (a := 0) (ci := 6) (T := TX6) (N := 8) (av := []) (rest := []) X hG hS (ct_X6_street l z k_0 n1 h1) mt_X6_street ml_L_58 rfl ⟨rfl, rfl, Nat.le_of_ble_eq_true rfl, Nat.le_of_ble_eq_true rfl⟩ hcs (nx_0 n1) k_0 (by decide) rfl hl.1 (Nat.le_of_ble_eq_true rfl) rfl dL_law_619 (fun H locs hG hS => ?_)
  have hG : gW z M1 H := hG
  refine lv_aload_n hx hb dL_law_622 rfl (lv_at hl 2 rfl) ?_
  refine g_cVI (a := 119) (ci := 7) (T := TX7) (N := 37) (av := []) (rest := [.int r]) X hG hS (ct_X7_street l z k_119 n2 h2) mt_X7_street ml_L_61 rfl ⟨rfl, rfl, Nat.le_of_ble_eq_true rfl, Nat.le_of_ble_eq_true rfl⟩ hcs (nx_0 n2) k_119 (by decide) rfl hl.1 (Nat.le_of_ble_eq_true rfl) rfl dL_law_623 (fun H locs hG hS => ?_)
  have hG : gW z M2 H := hG
  refine lv_icmp_eq (tgt := 2036) hx hb dL_law_626 (by decide) (fun _ => ?_) (fun q => absurd rfl q)
  exact kk H locs hG hS
set_option maxRecDepth 20000 in
set_option maxHeartbeats 4000000 in
theorem lwc_10 (X : gX p m c cL_law 4 s #[.ref b] RL z) (hX : va_X b L xs s s.heap) (hbl : b < s.heap.size) (hbA : ¬ gA z b) (g1 : vp_in (i + 1) L) (g2 : vp_in (i + 2) L) (n1 : 0 + 119 ≤ gn z) (n2 : 119 + 59 ≤ gn z) (hcs : cells ≤ room_1.cells ∧ slots ≤ room_1.slots) (hG : gW z M H) (hS : va_S (gA z) s.heap H locs) (hl : lv_has ls 4 [(0, .ref b), (1, .ref (gad z 0)), (2, .ref (gad z 119)), (3, .int i)]) {r : Int32} (h1 : fX6_streetOf N M 0 (xs (i + 1).toNatClampNeg) (xs (i + 2).toNatClampNeg) = some (r, M1)) (h2 : fX7_streetOf N M1 119 (xs (i + 1).toNatClampNeg) (xs (i + 2).toNatClampNeg) = some (r, M2)) (kk : ∀ (H : Heap) (locs : List Loc), gW z M2 H → va_S (gA z) s.heap H locs → W p l e room_1 s m #[.ref b] below meth c H locs cells slots Q (F0 m 2036 ls [])) : W p l e room_1 s m #[.ref b] below meth c H locs cells slots Q (F0 m 631 ls []) := by
  have hx := X.1
  have hb := X.2.1
  refine lv_aload_n hx hb dL_law_631 rfl (lv_at hl 1 rfl) ?_
  refine lv_aload_n hx hb dL_law_632 rfl (lv_at hl 0 rfl) ?_
  refine lv_iload_n hx hb dL_law_633 rfl (lv_at hl 3 rfl) ?_
  refine lv_iconst (v := 1) hx hb dL_law_634 (by decide) ?_
  refine lv_iadd hx hb dL_law_635 ?_
  refine va_sld hx hb hX hbl hbA hS g1 dL_law_636 ?_
  refine lv_aload_n hx hb dL_law_637 rfl (lv_at hl 0 rfl) ?_
  refine lv_iload_n hx hb dL_law_638 rfl (lv_at hl 3 rfl) ?_
  refine lv_iconst (v := 2) hx hb dL_law_639 (by decide) ?_
  refine lv_iadd hx hb dL_law_640 ?_
  refine va_sld hx hb hX hbl hbA hS g2 dL_law_641 ?_
  refine g_cVI (a := 0) (ci := 6) (T := TX6) (N := 8) (av := [.int (xs (i + 1).toNatClampNeg), .int (xs (i + 2).toNatClampNeg)]) (rest := []) X hG hS (ct_X6_streetOf l z k_0 n1 h1) mt_X6_streetOf ml_L_62 rfl ⟨rfl, rfl, Nat.le_of_ble_eq_true rfl, Nat.le_of_ble_eq_true rfl⟩ hcs (nx_0 n1) k_0 (by decide) rfl hl.1 (Nat.le_of_ble_eq_true rfl) rfl dL_law_642 (fun H locs hG hS => ?_)
  have hG : gW z M1 H := hG
  refine lv_aload_n hx hb dL_law_645 rfl (lv_at hl 2 rfl) ?_
  refine lv_aload_n hx hb dL_law_646 rfl (lv_at hl 0 rfl) ?_
  refine lv_iload_n hx hb dL_law_647 rfl (lv_at hl 3 rfl) ?_
  refine lv_iconst (v := 1) hx hb dL_law_648 (by decide) ?_
  refine lv_iadd hx hb dL_law_649 ?_
  refine va_sld hx hb hX hbl hbA hS g1 dL_law_650 ?_
  refine lv_aload_n hx hb dL_law_651 rfl (lv_at hl 0 rfl) ?_
  refine lv_iload_n hx hb dL_law_652 rfl (lv_at hl 3 rfl) ?_
  refine lv_iconst (v := 2) hx hb dL_law_653 (by decide) ?_
  refine lv_iadd hx hb dL_law_654 ?_
  refine va_sld hx hb hX hbl hbA hS g2 dL_law_655 ?_
  refine g_cVI (a := 119) (ci := 7) (T := TX7) (N := 37) (av := [.int (xs (i + 1).toNatClampNeg), .int (xs (i + 2).toNatClampNeg)]) (rest := [.int r]) X hG hS (ct_X7_streetOf l z k_119 n2 h2) mt_X7_streetOf ml_L_65 rfl ⟨rfl, rfl, Nat.le_of_ble_eq_true rfl, Nat.le_of_ble_eq_true rfl⟩ hcs (nx_0 n2) k_119 (by decide) rfl hl.1 (Nat.le_of_ble_eq_true rfl) rfl dL_law_656 (fun H locs hG hS => ?_)
  have hG : gW z M2 H := hG
  refine lv_icmp_eq (tgt := 2036) hx hb dL_law_659 (by decide) (fun _ => ?_) (fun q => absurd rfl q)
  exact kk H locs hG hS
set_option maxRecDepth 20000 in
set_option maxHeartbeats 4000000 in
theorem lwc_11 (X : gX p m c cL_law 4 s #[.ref b] RL z) (hX : va_X b L xs s s.heap) (hbl : b < s.heap.size) (hbA : ¬ gA z b) (g1 : vp_in (i + 1) L) (g2 : vp_in (i + 2) L) (g3 : vp_in (i + 3) L) (n1 : 0 + 119 ≤ gn z) (n2 : 119 + 59 ≤ gn z) (hcs : cells ≤ room_1.cells ∧ slots ≤ room_1.slots) (hG : gW z M H) (hS : va_S (gA z) s.heap H locs) (hl : lv_has ls 4 [(0, .ref b), (1, .ref (gad z 0)), (2, .ref (gad z 119)), (3, .int i)]) {r : Int32} (h1 : fX6_personOf N M 0 (xs (i + 1).toNatClampNeg) (xs (i + 2).toNatClampNeg) (xs (i + 3).toNatClampNeg) = some (r, M1)) (h2 : fX7_personOf N M1 119 (xs (i + 1).toNatClampNeg) (xs (i + 2).toNatClampNeg) (xs (i + 3).toNatClampNeg) = some (r, M2)) (kk : ∀ (H : Heap) (locs : List Loc), gW z M2 H → va_S (gA z) s.heap H locs → W p l e room_1 s m #[.ref b] below meth c H locs cells slots Q (F0 m 2036 ls [])) : W p l e room_1 s m #[.ref b] below meth c H locs cells slots Q (F0 m 664 ls []) := by
  have hx := X.1
  have hb := X.2.1
  refine lv_aload_n hx hb dL_law_664 rfl (lv_at hl 1 rfl) ?_
  refine lv_aload_n hx hb dL_law_665 rfl (lv_at hl 0 rfl) ?_
  refine lv_iload_n hx hb dL_law_666 rfl (lv_at hl 3 rfl) ?_
  refine lv_iconst (v := 1) hx hb dL_law_667 (by decide) ?_
  refine lv_iadd hx hb dL_law_668 ?_
  refine va_sld hx hb hX hbl hbA hS g1 dL_law_669 ?_
  refine lv_aload_n hx hb dL_law_670 rfl (lv_at hl 0 rfl) ?_
  refine lv_iload_n hx hb dL_law_671 rfl (lv_at hl 3 rfl) ?_
  refine lv_iconst (v := 2) hx hb dL_law_672 (by decide) ?_
  refine lv_iadd hx hb dL_law_673 ?_
  refine va_sld hx hb hX hbl hbA hS g2 dL_law_674 ?_
  refine lv_aload_n hx hb dL_law_675 rfl (lv_at hl 0 rfl) ?_
  refine lv_iload_n hx hb dL_law_676 rfl (lv_at hl 3 rfl) ?_
  refine lv_iconst (v := 3) hx hb dL_law_677 (by decide) ?_
  refine lv_iadd hx hb dL_law_678 ?_
  refine va_sld hx hb hX hbl hbA hS g3 dL_law_679 ?_
  refine g_cVI (a := 0) (ci := 6) (T := TX6) (N := 8) (av := [.int (xs (i + 1).toNatClampNeg), .int (xs (i + 2).toNatClampNeg), .int (xs (i + 3).toNatClampNeg)]) (rest := []) X hG hS (ct_X6_personOf l z k_0 n1 h1) mt_X6_personOf ml_L_66 rfl ⟨rfl, rfl, Nat.le_of_ble_eq_true rfl, Nat.le_of_ble_eq_true rfl⟩ hcs (nx_0 n1) k_0 (by decide) rfl hl.1 (Nat.le_of_ble_eq_true rfl) rfl dL_law_680 (fun H locs hG hS => ?_)
  have hG : gW z M1 H := hG
  refine lv_aload_n hx hb dL_law_683 rfl (lv_at hl 2 rfl) ?_
  refine lv_aload_n hx hb dL_law_684 rfl (lv_at hl 0 rfl) ?_
  refine lv_iload_n hx hb dL_law_685 rfl (lv_at hl 3 rfl) ?_
  refine lv_iconst (v := 1) hx hb dL_law_686 (by decide) ?_
  refine lv_iadd hx hb dL_law_687 ?_
  refine va_sld hx hb hX hbl hbA hS g1 dL_law_688 ?_
  refine lv_aload_n hx hb dL_law_689 rfl (lv_at hl 0 rfl) ?_
  refine lv_iload_n hx hb dL_law_690 rfl (lv_at hl 3 rfl) ?_
  refine lv_iconst (v := 2) hx hb dL_law_691 (by decide) ?_
  refine lv_iadd hx hb dL_law_692 ?_
  refine va_sld hx hb hX hbl hbA hS g2 dL_law_693 ?_
  refine lv_aload_n hx hb dL_law_694 rfl (lv_at hl 0 rfl) ?_
  refine lv_iload_n hx hb dL_law_695 rfl (lv_at hl 3 rfl) ?_
  refine lv_iconst (v := 3) hx hb dL_law_696 (by decide) ?_
  refine lv_iadd hx hb dL_law_697 ?_
  refine va_sld hx hb hX hbl hbA hS g3 dL_law_698 ?_
  refine g_cVI (a := 119) (ci := 7) (T := TX7) (N := 37) (av := [.int (xs (i + 1).toNatClampNeg), .int (xs (i + 2).toNatClampNeg), .int (xs (i + 3).toNatClampNeg)]) (rest := [.int r]) X hG hS (ct_X7_personOf l z k_119 n2 h2) mt_X7_personOf ml_L_69 rfl ⟨rfl, rfl, Nat.le_of_ble_eq_true rfl, Nat.le_of_ble_eq_true rfl⟩ hcs (nx_0 n2) k_119 (by decide) rfl hl.1 (Nat.le_of_ble_eq_true rfl) rfl dL_law_699 (fun H locs hG hS => ?_)
  have hG : gW z M2 H := hG
  refine lv_icmp_eq (tgt := 2036) hx hb dL_law_702 (by decide) (fun _ => ?_) (fun q => absurd rfl q)
  exact kk H locs hG hS
set_option maxRecDepth 20000 in
set_option maxHeartbeats 4000000 in
theorem lwc_12 (X : gX p m c cL_law 4 s #[.ref b] RL z) (hX : va_X b L xs s s.heap) (hbl : b < s.heap.size) (hbA : ¬ gA z b) (g1 : vp_in (i + 1) L) (g2 : vp_in (i + 2) L) (g3 : vp_in (i + 3) L) (g4 : vp_in (i + 4) L) (n1 : 0 + 119 ≤ gn z) (n2 : 119 + 59 ≤ gn z) (hcs : cells ≤ room_1.cells ∧ slots ≤ room_1.slots) (hG : gW z M H) (hS : va_S (gA z) s.heap H locs) (hl : lv_has ls 4 [(0, .ref b), (1, .ref (gad z 0)), (2, .ref (gad z 119)), (3, .int i)]) {r : Int32} (h1 : fX6_alter N M 0 (xs (i + 1).toNatClampNeg) (xs (i + 2).toNatClampNeg) (xs (i + 3).toNatClampNeg) (xs (i + 4).toNatClampNeg) = some (r, M1)) (h2 : fX7_alter N M1 119 (xs (i + 1).toNatClampNeg) (xs (i + 2).toNatClampNeg) (xs (i + 3).toNatClampNeg) (xs (i + 4).toNatClampNeg) = some (r, M2)) (kk : ∀ (H : Heap) (locs : List Loc), gW z M2 H → va_S (gA z) s.heap H locs → W p l e room_1 s m #[.ref b] below meth c H locs cells slots Q (F0 m 2036 ls [])) : W p l e room_1 s m #[.ref b] below meth c H locs cells slots Q (F0 m 707 ls []) := by
  have hx := X.1
  have hb := X.2.1
  refine lv_aload_n hx hb dL_law_707 rfl (lv_at hl 1 rfl) ?_
  refine lv_aload_n hx hb dL_law_708 rfl (lv_at hl 0 rfl) ?_
  refine lv_iload_n hx hb dL_law_709 rfl (lv_at hl 3 rfl) ?_
  refine lv_iconst (v := 1) hx hb dL_law_710 (by decide) ?_
  refine lv_iadd hx hb dL_law_711 ?_
  refine va_sld hx hb hX hbl hbA hS g1 dL_law_712 ?_
  refine lv_aload_n hx hb dL_law_713 rfl (lv_at hl 0 rfl) ?_
  refine lv_iload_n hx hb dL_law_714 rfl (lv_at hl 3 rfl) ?_
  refine lv_iconst (v := 2) hx hb dL_law_715 (by decide) ?_
  refine lv_iadd hx hb dL_law_716 ?_
  refine va_sld hx hb hX hbl hbA hS g2 dL_law_717 ?_
  refine lv_aload_n hx hb dL_law_718 rfl (lv_at hl 0 rfl) ?_
  refine lv_iload_n hx hb dL_law_719 rfl (lv_at hl 3 rfl) ?_
  refine lv_iconst (v := 3) hx hb dL_law_720 (by decide) ?_
  refine lv_iadd hx hb dL_law_721 ?_
  refine va_sld hx hb hX hbl hbA hS g3 dL_law_722 ?_
  refine lv_aload_n hx hb dL_law_723 rfl (lv_at hl 0 rfl) ?_
  refine lv_iload_n hx hb dL_law_724 rfl (lv_at hl 3 rfl) ?_
  refine lv_iconst (v := 4) hx hb dL_law_725 (by decide) ?_
  refine lv_iadd hx hb dL_law_726 ?_
  refine va_sld hx hb hX hbl hbA hS g4 dL_law_727 ?_
  refine g_cVI (a := 0) (ci := 6) (T := TX6) (N := 8) (av := [.int (xs (i + 1).toNatClampNeg), .int (xs (i + 2).toNatClampNeg), .int (xs (i + 3).toNatClampNeg), .int (xs (i + 4).toNatClampNeg)]) (rest := []) X hG hS (ct_X6_alter l z k_0 n1 h1) mt_X6_alter ml_L_70 rfl ⟨rfl, rfl, Nat.le_of_ble_eq_true rfl, Nat.le_of_ble_eq_true rfl⟩ hcs (nx_0 n1) k_0 (by decide) rfl hl.1 (Nat.le_of_ble_eq_true rfl) rfl dL_law_728 (fun H locs hG hS => ?_)
  have hG : gW z M1 H := hG
  refine lv_aload_n hx hb dL_law_731 rfl (lv_at hl 2 rfl) ?_
  refine lv_aload_n hx hb dL_law_732 rfl (lv_at hl 0 rfl) ?_
  refine lv_iload_n hx hb dL_law_733 rfl (lv_at hl 3 rfl) ?_
  refine lv_iconst (v := 1) hx hb dL_law_734 (by decide) ?_
  refine lv_iadd hx hb dL_law_735 ?_
  refine va_sld hx hb hX hbl hbA hS g1 dL_law_736 ?_
  refine lv_aload_n hx hb dL_law_737 rfl (lv_at hl 0 rfl) ?_
  refine lv_iload_n hx hb dL_law_738 rfl (lv_at hl 3 rfl) ?_
  refine lv_iconst (v := 2) hx hb dL_law_739 (by decide) ?_
  refine lv_iadd hx hb dL_law_740 ?_
  refine va_sld hx hb hX hbl hbA hS g2 dL_law_741 ?_
  refine lv_aload_n hx hb dL_law_742 rfl (lv_at hl 0 rfl) ?_
  refine lv_iload_n hx hb dL_law_743 rfl (lv_at hl 3 rfl) ?_
  refine lv_iconst (v := 3) hx hb dL_law_744 (by decide) ?_
  refine lv_iadd hx hb dL_law_745 ?_
  refine va_sld hx hb hX hbl hbA hS g3 dL_law_746 ?_
  refine lv_aload_n hx hb dL_law_747 rfl (lv_at hl 0 rfl) ?_
  refine lv_iload_n hx hb dL_law_748 rfl (lv_at hl 3 rfl) ?_
  refine lv_iconst (v := 4) hx hb dL_law_749 (by decide) ?_
  refine lv_iadd hx hb dL_law_750 ?_
  refine va_sld hx hb hX hbl hbA hS g4 dL_law_751 ?_
  refine g_cVI (a := 119) (ci := 7) (T := TX7) (N := 37) (av := [.int (xs (i + 1).toNatClampNeg), .int (xs (i + 2).toNatClampNeg), .int (xs (i + 3).toNatClampNeg), .int (xs (i + 4).toNatClampNeg)]) (rest := [.int r]) X hG hS (ct_X7_alter l z k_119 n2 h2) mt_X7_alter ml_L_74 rfl ⟨rfl, rfl, Nat.le_of_ble_eq_true rfl, Nat.le_of_ble_eq_true rfl⟩ hcs (nx_0 n2) k_119 (by decide) rfl hl.1 (Nat.le_of_ble_eq_true rfl) rfl dL_law_752 (fun H locs hG hS => ?_)
  have hG : gW z M2 H := hG
  refine lv_icmp_eq (tgt := 2036) hx hb dL_law_755 (by decide) (fun _ => ?_) (fun q => absurd rfl q)
  exact kk H locs hG hS
set_option maxRecDepth 20000 in
set_option maxHeartbeats 4000000 in
theorem lwc_13 (X : gX p m c cL_law 4 s #[.ref b] RL z) (hX : va_X b L xs s s.heap) (hbl : b < s.heap.size) (hbA : ¬ gA z b) (g1 : vp_in (i + 1) L) (g2 : vp_in (i + 2) L) (g3 : vp_in (i + 3) L) (g4 : vp_in (i + 4) L) (n1 : 0 + 119 ≤ gn z) (n2 : 119 + 59 ≤ gn z) (hcs : cells ≤ room_1.cells ∧ slots ≤ room_1.slots) (hG : gW z M H) (hS : va_S (gA z) s.heap H locs) (hl : lv_has ls 4 [(0, .ref b), (1, .ref (gad z 0)), (2, .ref (gad z 119)), (3, .int i)]) {r : Int32} (h1 : fX6_tie N M 0 (xs (i + 1).toNatClampNeg) (xs (i + 2).toNatClampNeg) (xs (i + 3).toNatClampNeg) (xs (i + 4).toNatClampNeg) = some (r, M1)) (h2 : fX7_tie N M1 119 (xs (i + 1).toNatClampNeg) (xs (i + 2).toNatClampNeg) (xs (i + 3).toNatClampNeg) (xs (i + 4).toNatClampNeg) = some (r, M2)) (kk : ∀ (H : Heap) (locs : List Loc), gW z M2 H → va_S (gA z) s.heap H locs → W p l e room_1 s m #[.ref b] below meth c H locs cells slots Q (F0 m 2036 ls [])) : W p l e room_1 s m #[.ref b] below meth c H locs cells slots Q (F0 m 760 ls []) := by
  have hx := X.1
  have hb := X.2.1
  refine lv_aload_n hx hb dL_law_760 rfl (lv_at hl 1 rfl) ?_
  refine lv_aload_n hx hb dL_law_761 rfl (lv_at hl 0 rfl) ?_
  refine lv_iload_n hx hb dL_law_762 rfl (lv_at hl 3 rfl) ?_
  refine lv_iconst (v := 1) hx hb dL_law_763 (by decide) ?_
  refine lv_iadd hx hb dL_law_764 ?_
  refine va_sld hx hb hX hbl hbA hS g1 dL_law_765 ?_
  refine lv_aload_n hx hb dL_law_766 rfl (lv_at hl 0 rfl) ?_
  refine lv_iload_n hx hb dL_law_767 rfl (lv_at hl 3 rfl) ?_
  refine lv_iconst (v := 2) hx hb dL_law_768 (by decide) ?_
  refine lv_iadd hx hb dL_law_769 ?_
  refine va_sld hx hb hX hbl hbA hS g2 dL_law_770 ?_
  refine lv_aload_n hx hb dL_law_771 rfl (lv_at hl 0 rfl) ?_
  refine lv_iload_n hx hb dL_law_772 rfl (lv_at hl 3 rfl) ?_
  refine lv_iconst (v := 3) hx hb dL_law_773 (by decide) ?_
  refine lv_iadd hx hb dL_law_774 ?_
  refine va_sld hx hb hX hbl hbA hS g3 dL_law_775 ?_
  refine lv_aload_n hx hb dL_law_776 rfl (lv_at hl 0 rfl) ?_
  refine lv_iload_n hx hb dL_law_777 rfl (lv_at hl 3 rfl) ?_
  refine lv_iconst (v := 4) hx hb dL_law_778 (by decide) ?_
  refine lv_iadd hx hb dL_law_779 ?_
  refine va_sld hx hb hX hbl hbA hS g4 dL_law_780 ?_
  refine g_cVI (a := 0) (ci := 6) (T := TX6) (N := 8) (av := [.int (xs (i + 1).toNatClampNeg), .int (xs (i + 2).toNatClampNeg), .int (xs (i + 3).toNatClampNeg), .int (xs (i + 4).toNatClampNeg)]) (rest := []) X hG hS (ct_X6_tie l z k_0 n1 h1) mt_X6_tie ml_L_75 rfl ⟨rfl, rfl, Nat.le_of_ble_eq_true rfl, Nat.le_of_ble_eq_true rfl⟩ hcs (nx_0 n1) k_0 (by decide) rfl hl.1 (Nat.le_of_ble_eq_true rfl) rfl dL_law_781 (fun H locs hG hS => ?_)
  have hG : gW z M1 H := hG
  refine lv_aload_n hx hb dL_law_784 rfl (lv_at hl 2 rfl) ?_
  refine lv_aload_n hx hb dL_law_785 rfl (lv_at hl 0 rfl) ?_
  refine lv_iload_n hx hb dL_law_786 rfl (lv_at hl 3 rfl) ?_
  refine lv_iconst (v := 1) hx hb dL_law_787 (by decide) ?_
  refine lv_iadd hx hb dL_law_788 ?_
  refine va_sld hx hb hX hbl hbA hS g1 dL_law_789 ?_
  refine lv_aload_n hx hb dL_law_790 rfl (lv_at hl 0 rfl) ?_
  refine lv_iload_n hx hb dL_law_791 rfl (lv_at hl 3 rfl) ?_
  refine lv_iconst (v := 2) hx hb dL_law_792 (by decide) ?_
  refine lv_iadd hx hb dL_law_793 ?_
  refine va_sld hx hb hX hbl hbA hS g2 dL_law_794 ?_
  refine lv_aload_n hx hb dL_law_795 rfl (lv_at hl 0 rfl) ?_
  refine lv_iload_n hx hb dL_law_796 rfl (lv_at hl 3 rfl) ?_
  refine lv_iconst (v := 3) hx hb dL_law_797 (by decide) ?_
  refine lv_iadd hx hb dL_law_798 ?_
  refine va_sld hx hb hX hbl hbA hS g3 dL_law_799 ?_
  refine lv_aload_n hx hb dL_law_800 rfl (lv_at hl 0 rfl) ?_
  refine lv_iload_n hx hb dL_law_801 rfl (lv_at hl 3 rfl) ?_
  refine lv_iconst (v := 4) hx hb dL_law_802 (by decide) ?_
  refine lv_iadd hx hb dL_law_803 ?_
  refine va_sld hx hb hX hbl hbA hS g4 dL_law_804 ?_
  refine g_cVI (a := 119) (ci := 7) (T := TX7) (N := 37) (av := [.int (xs (i + 1).toNatClampNeg), .int (xs (i + 2).toNatClampNeg), .int (xs (i + 3).toNatClampNeg), .int (xs (i + 4).toNatClampNeg)]) (rest := [.int r]) X hG hS (ct_X7_tie l z k_119 n2 h2) mt_X7_tie ml_L_78 rfl ⟨rfl, rfl, Nat.le_of_ble_eq_true rfl, Nat.le_of_ble_eq_true rfl⟩ hcs (nx_0 n2) k_119 (by decide) rfl hl.1 (Nat.le_of_ble_eq_true rfl) rfl dL_law_805 (fun H locs hG hS => ?_)
  have hG : gW z M2 H := hG
  refine lv_icmp_eq (tgt := 2036) hx hb dL_law_808 (by decide) (fun _ => ?_) (fun q => absurd rfl q)
  exact kk H locs hG hS
set_option maxRecDepth 20000 in
set_option maxHeartbeats 4000000 in
theorem lwc_14 (X : gX p m c cL_law 4 s #[.ref b] RL z) (hX : va_X b L xs s s.heap) (hbl : b < s.heap.size) (hbA : ¬ gA z b) (g1 : vp_in (i + 1) L) (g2 : vp_in (i + 2) L) (g3 : vp_in (i + 3) L) (n1 : 0 + 119 ≤ gn z) (n2 : 119 + 59 ≤ gn z) (hcs : cells ≤ room_1.cells ∧ slots ≤ room_1.slots) (hG : gW z M H) (hS : va_S (gA z) s.heap H locs) (hl : lv_has ls 4 [(0, .ref b), (1, .ref (gad z 0)), (2, .ref (gad z 119)), (3, .int i)]) {r : Int32} (h1 : fX6_must N M 0 (xs (i + 1).toNatClampNeg) (xs (i + 2).toNatClampNeg) (if xs (i + 3).toNatClampNeg = 0 then 0 else 1) = some (r, M1)) (h2 : fX7_must N M1 119 (xs (i + 1).toNatClampNeg) (xs (i + 2).toNatClampNeg) (if xs (i + 3).toNatClampNeg = 0 then 0 else 1) = some (r, M2)) (kk : ∀ (H : Heap) (locs : List Loc), gW z M2 H → va_S (gA z) s.heap H locs → W p l e room_1 s m #[.ref b] below meth c H locs cells slots Q (F0 m 2036 ls [])) : W p l e room_1 s m #[.ref b] below meth c H locs cells slots Q (F0 m 813 ls []) := by
  have hx := X.1
  have hb := X.2.1
  by_cases q0 : xs (i + 3).toNatClampNeg = 0
  · rw [if_pos q0] at h1 h2
    refine lv_aload_n hx hb dL_law_813 rfl (lv_at hl 1 rfl) ?_
    refine lv_aload_n hx hb dL_law_814 rfl (lv_at hl 0 rfl) ?_
    refine lv_iload_n hx hb dL_law_815 rfl (lv_at hl 3 rfl) ?_
    refine lv_iconst (v := 1) hx hb dL_law_816 (by decide) ?_
    refine lv_iadd hx hb dL_law_817 ?_
    refine va_sld hx hb hX hbl hbA hS g1 dL_law_818 ?_
    refine lv_aload_n hx hb dL_law_819 rfl (lv_at hl 0 rfl) ?_
    refine lv_iload_n hx hb dL_law_820 rfl (lv_at hl 3 rfl) ?_
    refine lv_iconst (v := 2) hx hb dL_law_821 (by decide) ?_
    refine lv_iadd hx hb dL_law_822 ?_
    refine va_sld hx hb hX hbl hbA hS g2 dL_law_823 ?_
    refine lv_aload_n hx hb dL_law_824 rfl (lv_at hl 0 rfl) ?_
    refine lv_iload_n hx hb dL_law_825 rfl (lv_at hl 3 rfl) ?_
    refine lv_iconst (v := 3) hx hb dL_law_826 (by decide) ?_
    refine lv_iadd hx hb dL_law_827 ?_
    refine va_sld hx hb hX hbl hbA hS g3 dL_law_828 ?_
    refine lv_if_eq (tgt := 836) hx hb dL_law_829 (by decide) (fun q => ?_) (fun q => absurd q0 q)
    refine lv_iconst (v := 0) hx hb dL_law_836 (by decide) ?_
    refine g_cVI (a := 0) (ci := 6) (T := TX6) (N := 8) (av := [.int (xs (i + 1).toNatClampNeg), .int (xs (i + 2).toNatClampNeg), .int 0]) (rest := []) X hG hS (ct_X6_must l z k_0 n1 h1) mt_X6_must ml_L_79 rfl ⟨rfl, rfl, Nat.le_of_ble_eq_true rfl, Nat.le_of_ble_eq_true rfl⟩ hcs (nx_0 n1) k_0 (by decide) rfl hl.1 (Nat.le_of_ble_eq_true rfl) rfl dL_law_837 (fun H locs hG hS => ?_)
    have hG : gW z M1 H := hG
    refine lv_aload_n hx hb dL_law_840 rfl (lv_at hl 2 rfl) ?_
    refine lv_aload_n hx hb dL_law_841 rfl (lv_at hl 0 rfl) ?_
    refine lv_iload_n hx hb dL_law_842 rfl (lv_at hl 3 rfl) ?_
    refine lv_iconst (v := 1) hx hb dL_law_843 (by decide) ?_
    refine lv_iadd hx hb dL_law_844 ?_
    refine va_sld hx hb hX hbl hbA hS g1 dL_law_845 ?_
    refine lv_aload_n hx hb dL_law_846 rfl (lv_at hl 0 rfl) ?_
    refine lv_iload_n hx hb dL_law_847 rfl (lv_at hl 3 rfl) ?_
    refine lv_iconst (v := 2) hx hb dL_law_848 (by decide) ?_
    refine lv_iadd hx hb dL_law_849 ?_
    refine va_sld hx hb hX hbl hbA hS g2 dL_law_850 ?_
    refine lv_aload_n hx hb dL_law_851 rfl (lv_at hl 0 rfl) ?_
    refine lv_iload_n hx hb dL_law_852 rfl (lv_at hl 3 rfl) ?_
    refine lv_iconst (v := 3) hx hb dL_law_853 (by decide) ?_
    refine lv_iadd hx hb dL_law_854 ?_
    refine va_sld hx hb hX hbl hbA hS g3 dL_law_855 ?_
    refine lv_if_eq (tgt := 863) hx hb dL_law_856 (by decide) (fun q => ?_) (fun q => absurd q0 q)
    refine lv_iconst (v := 0) hx hb dL_law_863 (by decide) ?_
    refine g_cVI (a := 119) (ci := 7) (T := TX7) (N := 37) (av := [.int (xs (i + 1).toNatClampNeg), .int (xs (i + 2).toNatClampNeg), .int 0]) (rest := [.int r]) X hG hS (ct_X7_must l z k_119 n2 h2) mt_X7_must ml_L_83 rfl ⟨rfl, rfl, Nat.le_of_ble_eq_true rfl, Nat.le_of_ble_eq_true rfl⟩ hcs (nx_0 n2) k_119 (by decide) rfl hl.1 (Nat.le_of_ble_eq_true rfl) rfl dL_law_864 (fun H locs hG hS => ?_)
    have hG : gW z M2 H := hG
    refine lv_icmp_eq (tgt := 2036) hx hb dL_law_867 (by decide) (fun _ => ?_) (fun q => absurd rfl q)
    exact kk H locs hG hS
  · rw [if_neg q0] at h1 h2
    refine lv_aload_n hx hb dL_law_813 rfl (lv_at hl 1 rfl) ?_
    refine lv_aload_n hx hb dL_law_814 rfl (lv_at hl 0 rfl) ?_
    refine lv_iload_n hx hb dL_law_815 rfl (lv_at hl 3 rfl) ?_
    refine lv_iconst (v := 1) hx hb dL_law_816 (by decide) ?_
    refine lv_iadd hx hb dL_law_817 ?_
    refine va_sld hx hb hX hbl hbA hS g1 dL_law_818 ?_
    refine lv_aload_n hx hb dL_law_819 rfl (lv_at hl 0 rfl) ?_
    refine lv_iload_n hx hb dL_law_820 rfl (lv_at hl 3 rfl) ?_
    refine lv_iconst (v := 2) hx hb dL_law_821 (by decide) ?_
    refine lv_iadd hx hb dL_law_822 ?_
    refine va_sld hx hb hX hbl hbA hS g2 dL_law_823 ?_
    refine lv_aload_n hx hb dL_law_824 rfl (lv_at hl 0 rfl) ?_
    refine lv_iload_n hx hb dL_law_825 rfl (lv_at hl 3 rfl) ?_
    refine lv_iconst (v := 3) hx hb dL_law_826 (by decide) ?_
    refine lv_iadd hx hb dL_law_827 ?_
    refine va_sld hx hb hX hbl hbA hS g3 dL_law_828 ?_
    refine lv_if_eq (tgt := 836) hx hb dL_law_829 (by decide) (fun q => absurd q q0) (fun q => ?_)
    refine lv_iconst (v := 1) hx hb dL_law_832 (by decide) ?_
    refine lv_goto (tgt := 837) hx hb dL_law_833 (by decide) ?_
    refine g_cVI (a := 0) (ci := 6) (T := TX6) (N := 8) (av := [.int (xs (i + 1).toNatClampNeg), .int (xs (i + 2).toNatClampNeg), .int 1]) (rest := []) X hG hS (ct_X6_must l z k_0 n1 h1) mt_X6_must ml_L_79 rfl ⟨rfl, rfl, Nat.le_of_ble_eq_true rfl, Nat.le_of_ble_eq_true rfl⟩ hcs (nx_0 n1) k_0 (by decide) rfl hl.1 (Nat.le_of_ble_eq_true rfl) rfl dL_law_837 (fun H locs hG hS => ?_)
    have hG : gW z M1 H := hG
    refine lv_aload_n hx hb dL_law_840 rfl (lv_at hl 2 rfl) ?_
    refine lv_aload_n hx hb dL_law_841 rfl (lv_at hl 0 rfl) ?_
    refine lv_iload_n hx hb dL_law_842 rfl (lv_at hl 3 rfl) ?_
    refine lv_iconst (v := 1) hx hb dL_law_843 (by decide) ?_
    refine lv_iadd hx hb dL_law_844 ?_
    refine va_sld hx hb hX hbl hbA hS g1 dL_law_845 ?_
    refine lv_aload_n hx hb dL_law_846 rfl (lv_at hl 0 rfl) ?_
    refine lv_iload_n hx hb dL_law_847 rfl (lv_at hl 3 rfl) ?_
    refine lv_iconst (v := 2) hx hb dL_law_848 (by decide) ?_
    refine lv_iadd hx hb dL_law_849 ?_
    refine va_sld hx hb hX hbl hbA hS g2 dL_law_850 ?_
    refine lv_aload_n hx hb dL_law_851 rfl (lv_at hl 0 rfl) ?_
    refine lv_iload_n hx hb dL_law_852 rfl (lv_at hl 3 rfl) ?_
    refine lv_iconst (v := 3) hx hb dL_law_853 (by decide) ?_
    refine lv_iadd hx hb dL_law_854 ?_
    refine va_sld hx hb hX hbl hbA hS g3 dL_law_855 ?_
    refine lv_if_eq (tgt := 863) hx hb dL_law_856 (by decide) (fun q => absurd q q0) (fun q => ?_)
    refine lv_iconst (v := 1) hx hb dL_law_859 (by decide) ?_
    refine lv_goto (tgt := 864) hx hb dL_law_860 (by decide) ?_
    refine g_cVI (a := 119) (ci := 7) (T := TX7) (N := 37) (av := [.int (xs (i + 1).toNatClampNeg), .int (xs (i + 2).toNatClampNeg), .int 1]) (rest := [.int r]) X hG hS (ct_X7_must l z k_119 n2 h2) mt_X7_must ml_L_83 rfl ⟨rfl, rfl, Nat.le_of_ble_eq_true rfl, Nat.le_of_ble_eq_true rfl⟩ hcs (nx_0 n2) k_119 (by decide) rfl hl.1 (Nat.le_of_ble_eq_true rfl) rfl dL_law_864 (fun H locs hG hS => ?_)
    have hG : gW z M2 H := hG
    refine lv_icmp_eq (tgt := 2036) hx hb dL_law_867 (by decide) (fun _ => ?_) (fun q => absurd rfl q)
    exact kk H locs hG hS
set_option maxRecDepth 20000 in
set_option maxHeartbeats 4000000 in
theorem lwc_15 (X : gX p m c cL_law 4 s #[.ref b] RL z) (hX : va_X b L xs s s.heap) (hbl : b < s.heap.size) (hbA : ¬ gA z b) (g1 : vp_in (i + 1) L) (g2 : vp_in (i + 2) L) (g3 : vp_in (i + 3) L) (n1 : 0 + 119 ≤ gn z) (n2 : 119 + 59 ≤ gn z) (hcs : cells ≤ room_1.cells ∧ slots ≤ room_1.slots) (hG : gW z M H) (hS : va_S (gA z) s.heap H locs) (hl : lv_has ls 4 [(0, .ref b), (1, .ref (gad z 0)), (2, .ref (gad z 119)), (3, .int i)]) {r : Int32} (h1 : fX6_take N M 0 (xs (i + 1).toNatClampNeg) (xs (i + 2).toNatClampNeg) (xs (i + 3).toNatClampNeg) = some (r, M1)) (h2 : fX7_take N M1 119 (xs (i + 1).toNatClampNeg) (xs (i + 2).toNatClampNeg) (xs (i + 3).toNatClampNeg) = some (r, M2)) (kk : ∀ (H : Heap) (locs : List Loc), gW z M2 H → va_S (gA z) s.heap H locs → W p l e room_1 s m #[.ref b] below meth c H locs cells slots Q (F0 m 2036 ls [])) : W p l e room_1 s m #[.ref b] below meth c H locs cells slots Q (F0 m 872 ls []) := by
  have hx := X.1
  have hb := X.2.1
  refine lv_aload_n hx hb dL_law_872 rfl (lv_at hl 1 rfl) ?_
  refine lv_aload_n hx hb dL_law_873 rfl (lv_at hl 0 rfl) ?_
  refine lv_iload_n hx hb dL_law_874 rfl (lv_at hl 3 rfl) ?_
  refine lv_iconst (v := 1) hx hb dL_law_875 (by decide) ?_
  refine lv_iadd hx hb dL_law_876 ?_
  refine va_sld hx hb hX hbl hbA hS g1 dL_law_877 ?_
  refine lv_aload_n hx hb dL_law_878 rfl (lv_at hl 0 rfl) ?_
  refine lv_iload_n hx hb dL_law_879 rfl (lv_at hl 3 rfl) ?_
  refine lv_iconst (v := 2) hx hb dL_law_880 (by decide) ?_
  refine lv_iadd hx hb dL_law_881 ?_
  refine va_sld hx hb hX hbl hbA hS g2 dL_law_882 ?_
  refine lv_aload_n hx hb dL_law_883 rfl (lv_at hl 0 rfl) ?_
  refine lv_iload_n hx hb dL_law_884 rfl (lv_at hl 3 rfl) ?_
  refine lv_iconst (v := 3) hx hb dL_law_885 (by decide) ?_
  refine lv_iadd hx hb dL_law_886 ?_
  refine va_sld hx hb hX hbl hbA hS g3 dL_law_887 ?_
  refine g_cVI (a := 0) (ci := 6) (T := TX6) (N := 8) (av := [.int (xs (i + 1).toNatClampNeg), .int (xs (i + 2).toNatClampNeg), .int (xs (i + 3).toNatClampNeg)]) (rest := []) X hG hS (ct_X6_take l z k_0 n1 h1) mt_X6_take ml_L_84 rfl ⟨rfl, rfl, Nat.le_of_ble_eq_true rfl, Nat.le_of_ble_eq_true rfl⟩ hcs (nx_0 n1) k_0 (by decide) rfl hl.1 (Nat.le_of_ble_eq_true rfl) rfl dL_law_888 (fun H locs hG hS => ?_)
  have hG : gW z M1 H := hG
  refine lv_aload_n hx hb dL_law_891 rfl (lv_at hl 2 rfl) ?_
  refine lv_aload_n hx hb dL_law_892 rfl (lv_at hl 0 rfl) ?_
  refine lv_iload_n hx hb dL_law_893 rfl (lv_at hl 3 rfl) ?_
  refine lv_iconst (v := 1) hx hb dL_law_894 (by decide) ?_
  refine lv_iadd hx hb dL_law_895 ?_
  refine va_sld hx hb hX hbl hbA hS g1 dL_law_896 ?_
  refine lv_aload_n hx hb dL_law_897 rfl (lv_at hl 0 rfl) ?_
  refine lv_iload_n hx hb dL_law_898 rfl (lv_at hl 3 rfl) ?_
  refine lv_iconst (v := 2) hx hb dL_law_899 (by decide) ?_
  refine lv_iadd hx hb dL_law_900 ?_
  refine va_sld hx hb hX hbl hbA hS g2 dL_law_901 ?_
  refine lv_aload_n hx hb dL_law_902 rfl (lv_at hl 0 rfl) ?_
  refine lv_iload_n hx hb dL_law_903 rfl (lv_at hl 3 rfl) ?_
  refine lv_iconst (v := 3) hx hb dL_law_904 (by decide) ?_
  refine lv_iadd hx hb dL_law_905 ?_
  refine va_sld hx hb hX hbl hbA hS g3 dL_law_906 ?_
  refine g_cVI (a := 119) (ci := 7) (T := TX7) (N := 37) (av := [.int (xs (i + 1).toNatClampNeg), .int (xs (i + 2).toNatClampNeg), .int (xs (i + 3).toNatClampNeg)]) (rest := [.int r]) X hG hS (ct_X7_take l z k_119 n2 h2) mt_X7_take ml_L_87 rfl ⟨rfl, rfl, Nat.le_of_ble_eq_true rfl, Nat.le_of_ble_eq_true rfl⟩ hcs (nx_0 n2) k_119 (by decide) rfl hl.1 (Nat.le_of_ble_eq_true rfl) rfl dL_law_907 (fun H locs hG hS => ?_)
  have hG : gW z M2 H := hG
  refine lv_icmp_eq (tgt := 2036) hx hb dL_law_910 (by decide) (fun _ => ?_) (fun q => absurd rfl q)
  exact kk H locs hG hS
set_option maxRecDepth 20000 in
set_option maxHeartbeats 4000000 in
theorem lwc_16 (X : gX p m c cL_law 4 s #[.ref b] RL z) (hX : va_X b L xs s s.heap) (hbl : b < s.heap.size) (hbA : ¬ gA z b) (g1 : vp_in (i + 1) L) (g2 : vp_in (i + 2) L) (g3 : vp_in (i + 3) L) (g4 : vp_in (i + 4) L) (n1 : 0 + 119 ≤ gn z) (n2 : 119 + 59 ≤ gn z) (hcs : cells ≤ room_1.cells ∧ slots ≤ room_1.slots) (hG : gW z M H) (hS : va_S (gA z) s.heap H locs) (hl : lv_has ls 4 [(0, .ref b), (1, .ref (gad z 0)), (2, .ref (gad z 119)), (3, .int i)]) {r : Int32} (h1 : fX6_come N M 0 (xs (i + 1).toNatClampNeg) (xs (i + 2).toNatClampNeg) (xs (i + 3).toNatClampNeg) (xs (i + 4).toNatClampNeg) = some (r, M1)) (h2 : fX7_come N M1 119 (xs (i + 1).toNatClampNeg) (xs (i + 2).toNatClampNeg) (xs (i + 3).toNatClampNeg) (xs (i + 4).toNatClampNeg) = some (r, M2)) (kk : ∀ (H : Heap) (locs : List Loc), gW z M2 H → va_S (gA z) s.heap H locs → W p l e room_1 s m #[.ref b] below meth c H locs cells slots Q (F0 m 2036 ls [])) : W p l e room_1 s m #[.ref b] below meth c H locs cells slots Q (F0 m 915 ls []) := by
  have hx := X.1
  have hb := X.2.1
  refine lv_aload_n hx hb dL_law_915 rfl (lv_at hl 1 rfl) ?_
  refine lv_aload_n hx hb dL_law_916 rfl (lv_at hl 0 rfl) ?_
  refine lv_iload_n hx hb dL_law_917 rfl (lv_at hl 3 rfl) ?_
  refine lv_iconst (v := 1) hx hb dL_law_918 (by decide) ?_
  refine lv_iadd hx hb dL_law_919 ?_
  refine va_sld hx hb hX hbl hbA hS g1 dL_law_920 ?_
  refine lv_aload_n hx hb dL_law_921 rfl (lv_at hl 0 rfl) ?_
  refine lv_iload_n hx hb dL_law_922 rfl (lv_at hl 3 rfl) ?_
  refine lv_iconst (v := 2) hx hb dL_law_923 (by decide) ?_
  refine lv_iadd hx hb dL_law_924 ?_
  refine va_sld hx hb hX hbl hbA hS g2 dL_law_925 ?_
  refine lv_aload_n hx hb dL_law_926 rfl (lv_at hl 0 rfl) ?_
  refine lv_iload_n hx hb dL_law_927 rfl (lv_at hl 3 rfl) ?_
  refine lv_iconst (v := 3) hx hb dL_law_928 (by decide) ?_
  refine lv_iadd hx hb dL_law_929 ?_
  refine va_sld hx hb hX hbl hbA hS g3 dL_law_930 ?_
  refine lv_aload_n hx hb dL_law_931 rfl (lv_at hl 0 rfl) ?_
  refine lv_iload_n hx hb dL_law_932 rfl (lv_at hl 3 rfl) ?_
  refine lv_iconst (v := 4) hx hb dL_law_933 (by decide) ?_
  refine lv_iadd hx hb dL_law_934 ?_
  refine va_sld hx hb hX hbl hbA hS g4 dL_law_935 ?_
  refine g_cVI (a := 0) (ci := 6) (T := TX6) (N := 8) (av := [.int (xs (i + 1).toNatClampNeg), .int (xs (i + 2).toNatClampNeg), .int (xs (i + 3).toNatClampNeg), .int (xs (i + 4).toNatClampNeg)]) (rest := []) X hG hS (ct_X6_come l z k_0 n1 h1) mt_X6_come ml_L_88 rfl ⟨rfl, rfl, Nat.le_of_ble_eq_true rfl, Nat.le_of_ble_eq_true rfl⟩ hcs (nx_0 n1) k_0 (by decide) rfl hl.1 (Nat.le_of_ble_eq_true rfl) rfl dL_law_936 (fun H locs hG hS => ?_)
  have hG : gW z M1 H := hG
  refine lv_aload_n hx hb dL_law_939 rfl (lv_at hl 2 rfl) ?_
  refine lv_aload_n hx hb dL_law_940 rfl (lv_at hl 0 rfl) ?_
  refine lv_iload_n hx hb dL_law_941 rfl (lv_at hl 3 rfl) ?_
  refine lv_iconst (v := 1) hx hb dL_law_942 (by decide) ?_
  refine lv_iadd hx hb dL_law_943 ?_
  refine va_sld hx hb hX hbl hbA hS g1 dL_law_944 ?_
  refine lv_aload_n hx hb dL_law_945 rfl (lv_at hl 0 rfl) ?_
  refine lv_iload_n hx hb dL_law_946 rfl (lv_at hl 3 rfl) ?_
  refine lv_iconst (v := 2) hx hb dL_law_947 (by decide) ?_
  refine lv_iadd hx hb dL_law_948 ?_
  refine va_sld hx hb hX hbl hbA hS g2 dL_law_949 ?_
  refine lv_aload_n hx hb dL_law_950 rfl (lv_at hl 0 rfl) ?_
  refine lv_iload_n hx hb dL_law_951 rfl (lv_at hl 3 rfl) ?_
  refine lv_iconst (v := 3) hx hb dL_law_952 (by decide) ?_
  refine lv_iadd hx hb dL_law_953 ?_
  refine va_sld hx hb hX hbl hbA hS g3 dL_law_954 ?_
  refine lv_aload_n hx hb dL_law_955 rfl (lv_at hl 0 rfl) ?_
  refine lv_iload_n hx hb dL_law_956 rfl (lv_at hl 3 rfl) ?_
  refine lv_iconst (v := 4) hx hb dL_law_957 (by decide) ?_
  refine lv_iadd hx hb dL_law_958 ?_
  refine va_sld hx hb hX hbl hbA hS g4 dL_law_959 ?_
  refine g_cVI (a := 119) (ci := 7) (T := TX7) (N := 37) (av := [.int (xs (i + 1).toNatClampNeg), .int (xs (i + 2).toNatClampNeg), .int (xs (i + 3).toNatClampNeg), .int (xs (i + 4).toNatClampNeg)]) (rest := [.int r]) X hG hS (ct_X7_come l z k_119 n2 h2) mt_X7_come ml_L_91 rfl ⟨rfl, rfl, Nat.le_of_ble_eq_true rfl, Nat.le_of_ble_eq_true rfl⟩ hcs (nx_0 n2) k_119 (by decide) rfl hl.1 (Nat.le_of_ble_eq_true rfl) rfl dL_law_960 (fun H locs hG hS => ?_)
  have hG : gW z M2 H := hG
  refine lv_icmp_eq (tgt := 2036) hx hb dL_law_963 (by decide) (fun _ => ?_) (fun q => absurd rfl q)
  exact kk H locs hG hS
set_option maxRecDepth 20000 in
set_option maxHeartbeats 4000000 in
theorem lwc_17 (X : gX p m c cL_law 4 s #[.ref b] RL z) (hX : va_X b L xs s s.heap) (hbl : b < s.heap.size) (hbA : ¬ gA z b) (g1 : vp_in (i + 1) L) (g2 : vp_in (i + 2) L) (g3 : vp_in (i + 3) L) (n1 : 0 + 119 ≤ gn z) (n2 : 119 + 59 ≤ gn z) (hcs : cells ≤ room_1.cells ∧ slots ≤ room_1.slots) (hG : gW z M H) (hS : va_S (gA z) s.heap H locs) (hl : lv_has ls 4 [(0, .ref b), (1, .ref (gad z 0)), (2, .ref (gad z 119)), (3, .int i)]) {r : Int32} (h1 : fX6_gain N M 0 (xs (i + 1).toNatClampNeg) (xs (i + 2).toNatClampNeg) (xs (i + 3).toNatClampNeg) = some (r, M1)) (h2 : fX7_gain N M1 119 (xs (i + 1).toNatClampNeg) (xs (i + 2).toNatClampNeg) (xs (i + 3).toNatClampNeg) = some (r, M2)) (kk : ∀ (H : Heap) (locs : List Loc), gW z M2 H → va_S (gA z) s.heap H locs → W p l e room_1 s m #[.ref b] below meth c H locs cells slots Q (F0 m 2036 ls [])) : W p l e room_1 s m #[.ref b] below meth c H locs cells slots Q (F0 m 968 ls []) := by
  have hx := X.1
  have hb := X.2.1
  refine lv_aload_n hx hb dL_law_968 rfl (lv_at hl 1 rfl) ?_
  refine lv_aload_n hx hb dL_law_969 rfl (lv_at hl 0 rfl) ?_
  refine lv_iload_n hx hb dL_law_970 rfl (lv_at hl 3 rfl) ?_
  refine lv_iconst (v := 1) hx hb dL_law_971 (by decide) ?_
  refine lv_iadd hx hb dL_law_972 ?_
  refine va_sld hx hb hX hbl hbA hS g1 dL_law_973 ?_
  refine lv_aload_n hx hb dL_law_974 rfl (lv_at hl 0 rfl) ?_
  refine lv_iload_n hx hb dL_law_975 rfl (lv_at hl 3 rfl) ?_
  refine lv_iconst (v := 2) hx hb dL_law_976 (by decide) ?_
  refine lv_iadd hx hb dL_law_977 ?_
  refine va_sld hx hb hX hbl hbA hS g2 dL_law_978 ?_
  refine lv_aload_n hx hb dL_law_979 rfl (lv_at hl 0 rfl) ?_
  refine lv_iload_n hx hb dL_law_980 rfl (lv_at hl 3 rfl) ?_
  refine lv_iconst (v := 3) hx hb dL_law_981 (by decide) ?_
  refine lv_iadd hx hb dL_law_982 ?_
  refine va_sld hx hb hX hbl hbA hS g3 dL_law_983 ?_
  refine g_cVI (a := 0) (ci := 6) (T := TX6) (N := 8) (av := [.int (xs (i + 1).toNatClampNeg), .int (xs (i + 2).toNatClampNeg), .int (xs (i + 3).toNatClampNeg)]) (rest := []) X hG hS (ct_X6_gain l z k_0 n1 h1) mt_X6_gain ml_L_92 rfl ⟨rfl, rfl, Nat.le_of_ble_eq_true rfl, Nat.le_of_ble_eq_true rfl⟩ hcs (nx_0 n1) k_0 (by decide) rfl hl.1 (Nat.le_of_ble_eq_true rfl) rfl dL_law_984 (fun H locs hG hS => ?_)
  have hG : gW z M1 H := hG
  refine lv_aload_n hx hb dL_law_987 rfl (lv_at hl 2 rfl) ?_
  refine lv_aload_n hx hb dL_law_988 rfl (lv_at hl 0 rfl) ?_
  refine lv_iload_n hx hb dL_law_989 rfl (lv_at hl 3 rfl) ?_
  refine lv_iconst (v := 1) hx hb dL_law_990 (by decide) ?_
  refine lv_iadd hx hb dL_law_991 ?_
  refine va_sld hx hb hX hbl hbA hS g1 dL_law_992 ?_
  refine lv_aload_n hx hb dL_law_993 rfl (lv_at hl 0 rfl) ?_
  refine lv_iload_n hx hb dL_law_994 rfl (lv_at hl 3 rfl) ?_
  refine lv_iconst (v := 2) hx hb dL_law_995 (by decide) ?_
  refine lv_iadd hx hb dL_law_996 ?_
  refine va_sld hx hb hX hbl hbA hS g2 dL_law_997 ?_
  refine lv_aload_n hx hb dL_law_998 rfl (lv_at hl 0 rfl) ?_
  refine lv_iload_n hx hb dL_law_999 rfl (lv_at hl 3 rfl) ?_
  refine lv_iconst (v := 3) hx hb dL_law_1000 (by decide) ?_
  refine lv_iadd hx hb dL_law_1001 ?_
  refine va_sld hx hb hX hbl hbA hS g3 dL_law_1002 ?_
  refine g_cVI (a := 119) (ci := 7) (T := TX7) (N := 37) (av := [.int (xs (i + 1).toNatClampNeg), .int (xs (i + 2).toNatClampNeg), .int (xs (i + 3).toNatClampNeg)]) (rest := [.int r]) X hG hS (ct_X7_gain l z k_119 n2 h2) mt_X7_gain ml_L_95 rfl ⟨rfl, rfl, Nat.le_of_ble_eq_true rfl, Nat.le_of_ble_eq_true rfl⟩ hcs (nx_0 n2) k_119 (by decide) rfl hl.1 (Nat.le_of_ble_eq_true rfl) rfl dL_law_1003 (fun H locs hG hS => ?_)
  have hG : gW z M2 H := hG
  refine lv_icmp_eq (tgt := 2036) hx hb dL_law_1006 (by decide) (fun _ => ?_) (fun q => absurd rfl q)
  exact kk H locs hG hS
set_option maxRecDepth 20000 in
set_option maxHeartbeats 4000000 in
theorem lwc_18 (X : gX p m c cL_law 4 s #[.ref b] RL z) (hX : va_X b L xs s s.heap) (hbl : b < s.heap.size) (hbA : ¬ gA z b) (g1 : vp_in (i + 1) L) (g2 : vp_in (i + 2) L) (n1 : 0 + 119 ≤ gn z) (n2 : 119 + 59 ≤ gn z) (hcs : cells ≤ room_1.cells ∧ slots ≤ room_1.slots) (hG : gW z M H) (hS : va_S (gA z) s.heap H locs) (hl : lv_has ls 4 [(0, .ref b), (1, .ref (gad z 0)), (2, .ref (gad z 119)), (3, .int i)]) {r : Int32} (h1 : fX6_total N M 0 (xs (i + 1).toNatClampNeg) (xs (i + 2).toNatClampNeg) = some (r, M1)) (h2 : fX7_total N M1 119 (xs (i + 1).toNatClampNeg) (xs (i + 2).toNatClampNeg) = some (r, M2)) (kk : ∀ (H : Heap) (locs : List Loc), gW z M2 H → va_S (gA z) s.heap H locs → W p l e room_1 s m #[.ref b] below meth c H locs cells slots Q (F0 m 2036 ls [])) : W p l e room_1 s m #[.ref b] below meth c H locs cells slots Q (F0 m 1011 ls []) := by
  have hx := X.1
  have hb := X.2.1
  refine lv_aload_n hx hb dL_law_1011 rfl (lv_at hl 1 rfl) ?_
  refine lv_aload_n hx hb dL_law_1012 rfl (lv_at hl 0 rfl) ?_
  refine lv_iload_n hx hb dL_law_1013 rfl (lv_at hl 3 rfl) ?_
  refine lv_iconst (v := 1) hx hb dL_law_1014 (by decide) ?_
  refine lv_iadd hx hb dL_law_1015 ?_
  refine va_sld hx hb hX hbl hbA hS g1 dL_law_1016 ?_
  refine lv_aload_n hx hb dL_law_1017 rfl (lv_at hl 0 rfl) ?_
  refine lv_iload_n hx hb dL_law_1018 rfl (lv_at hl 3 rfl) ?_
  refine lv_iconst (v := 2) hx hb dL_law_1019 (by decide) ?_
  refine lv_iadd hx hb dL_law_1020 ?_
  refine va_sld hx hb hX hbl hbA hS g2 dL_law_1021 ?_
  refine g_cVI (a := 0) (ci := 6) (T := TX6) (N := 8) (av := [.int (xs (i + 1).toNatClampNeg), .int (xs (i + 2).toNatClampNeg)]) (rest := []) X hG hS (ct_X6_total l z k_0 n1 h1) mt_X6_total ml_L_96 rfl ⟨rfl, rfl, Nat.le_of_ble_eq_true rfl, Nat.le_of_ble_eq_true rfl⟩ hcs (nx_0 n1) k_0 (by decide) rfl hl.1 (Nat.le_of_ble_eq_true rfl) rfl dL_law_1022 (fun H locs hG hS => ?_)
  have hG : gW z M1 H := hG
  refine lv_aload_n hx hb dL_law_1025 rfl (lv_at hl 2 rfl) ?_
  refine lv_aload_n hx hb dL_law_1026 rfl (lv_at hl 0 rfl) ?_
  refine lv_iload_n hx hb dL_law_1027 rfl (lv_at hl 3 rfl) ?_
  refine lv_iconst (v := 1) hx hb dL_law_1028 (by decide) ?_
  refine lv_iadd hx hb dL_law_1029 ?_
  refine va_sld hx hb hX hbl hbA hS g1 dL_law_1030 ?_
  refine lv_aload_n hx hb dL_law_1031 rfl (lv_at hl 0 rfl) ?_
  refine lv_iload_n hx hb dL_law_1032 rfl (lv_at hl 3 rfl) ?_
  refine lv_iconst (v := 2) hx hb dL_law_1033 (by decide) ?_
  refine lv_iadd hx hb dL_law_1034 ?_
  refine va_sld hx hb hX hbl hbA hS g2 dL_law_1035 ?_
  refine g_cVI (a := 119) (ci := 7) (T := TX7) (N := 37) (av := [.int (xs (i + 1).toNatClampNeg), .int (xs (i + 2).toNatClampNeg)]) (rest := [.int r]) X hG hS (ct_X7_total l z k_119 n2 h2) mt_X7_total ml_L_99 rfl ⟨rfl, rfl, Nat.le_of_ble_eq_true rfl, Nat.le_of_ble_eq_true rfl⟩ hcs (nx_0 n2) k_119 (by decide) rfl hl.1 (Nat.le_of_ble_eq_true rfl) rfl dL_law_1036 (fun H locs hG hS => ?_)
  have hG : gW z M2 H := hG
  refine lv_icmp_eq (tgt := 2036) hx hb dL_law_1039 (by decide) (fun _ => ?_) (fun q => absurd rfl q)
  exact kk H locs hG hS
set_option maxRecDepth 20000 in
set_option maxHeartbeats 4000000 in
theorem lwc_19 (X : gX p m c cL_law 4 s #[.ref b] RL z) (hX : va_X b L xs s s.heap) (hbl : b < s.heap.size) (hbA : ¬ gA z b) (g1 : vp_in (i + 1) L) (g2 : vp_in (i + 2) L) (n1 : 0 + 119 ≤ gn z) (n2 : 119 + 59 ≤ gn z) (hcs : cells ≤ room_1.cells ∧ slots ≤ room_1.slots) (hG : gW z M H) (hS : va_S (gA z) s.heap H locs) (hl : lv_has ls 4 [(0, .ref b), (1, .ref (gad z 0)), (2, .ref (gad z 119)), (3, .int i)]) {r : Int32} (h1 : fX6_judge N M 0 (xs (i + 1).toNatClampNeg) (xs (i + 2).toNatClampNeg) = some (r, M1)) (h2 : fX7_judge N M1 119 (xs (i + 1).toNatClampNeg) (xs (i + 2).toNatClampNeg) = some (r, M2)) (kk : ∀ (H : Heap) (locs : List Loc), gW z M2 H → va_S (gA z) s.heap H locs → W p l e room_1 s m #[.ref b] below meth c H locs cells slots Q (F0 m 2036 ls [])) : W p l e room_1 s m #[.ref b] below meth c H locs cells slots Q (F0 m 1044 ls []) := by
  have hx := X.1
  have hb := X.2.1
  refine lv_aload_n hx hb dL_law_1044 rfl (lv_at hl 1 rfl) ?_
  refine lv_aload_n hx hb dL_law_1045 rfl (lv_at hl 0 rfl) ?_
  refine lv_iload_n hx hb dL_law_1046 rfl (lv_at hl 3 rfl) ?_
  refine lv_iconst (v := 1) hx hb dL_law_1047 (by decide) ?_
  refine lv_iadd hx hb dL_law_1048 ?_
  refine va_sld hx hb hX hbl hbA hS g1 dL_law_1049 ?_
  refine lv_aload_n hx hb dL_law_1050 rfl (lv_at hl 0 rfl) ?_
  refine lv_iload_n hx hb dL_law_1051 rfl (lv_at hl 3 rfl) ?_
  refine lv_iconst (v := 2) hx hb dL_law_1052 (by decide) ?_
  refine lv_iadd hx hb dL_law_1053 ?_
  refine va_sld hx hb hX hbl hbA hS g2 dL_law_1054 ?_
  refine g_cVI (a := 0) (ci := 6) (T := TX6) (N := 8) (av := [.int (xs (i + 1).toNatClampNeg), .int (xs (i + 2).toNatClampNeg)]) (rest := []) X hG hS (ct_X6_judge l z k_0 n1 h1) mt_X6_judge ml_L_100 rfl ⟨rfl, rfl, Nat.le_of_ble_eq_true rfl, Nat.le_of_ble_eq_true rfl⟩ hcs (nx_0 n1) k_0 (by decide) rfl hl.1 (Nat.le_of_ble_eq_true rfl) rfl dL_law_1055 (fun H locs hG hS => ?_)
  have hG : gW z M1 H := hG
  refine lv_aload_n hx hb dL_law_1058 rfl (lv_at hl 2 rfl) ?_
  refine lv_aload_n hx hb dL_law_1059 rfl (lv_at hl 0 rfl) ?_
  refine lv_iload_n hx hb dL_law_1060 rfl (lv_at hl 3 rfl) ?_
  refine lv_iconst (v := 1) hx hb dL_law_1061 (by decide) ?_
  refine lv_iadd hx hb dL_law_1062 ?_
  refine va_sld hx hb hX hbl hbA hS g1 dL_law_1063 ?_
  refine lv_aload_n hx hb dL_law_1064 rfl (lv_at hl 0 rfl) ?_
  refine lv_iload_n hx hb dL_law_1065 rfl (lv_at hl 3 rfl) ?_
  refine lv_iconst (v := 2) hx hb dL_law_1066 (by decide) ?_
  refine lv_iadd hx hb dL_law_1067 ?_
  refine va_sld hx hb hX hbl hbA hS g2 dL_law_1068 ?_
  refine g_cVI (a := 119) (ci := 7) (T := TX7) (N := 37) (av := [.int (xs (i + 1).toNatClampNeg), .int (xs (i + 2).toNatClampNeg)]) (rest := [.int r]) X hG hS (ct_X7_judge l z k_119 n2 h2) mt_X7_judge ml_L_103 rfl ⟨rfl, rfl, Nat.le_of_ble_eq_true rfl, Nat.le_of_ble_eq_true rfl⟩ hcs (nx_0 n2) k_119 (by decide) rfl hl.1 (Nat.le_of_ble_eq_true rfl) rfl dL_law_1069 (fun H locs hG hS => ?_)
  have hG : gW z M2 H := hG
  refine lv_icmp_eq (tgt := 2036) hx hb dL_law_1072 (by decide) (fun _ => ?_) (fun q => absurd rfl q)
  exact kk H locs hG hS
set_option maxRecDepth 20000 in
set_option maxHeartbeats 4000000 in
theorem lwc_20 (X : gX p m c cL_law 4 s #[.ref b] RL z) (hX : va_X b L xs s s.heap) (hbl : b < s.heap.size) (hbA : ¬ gA z b) (g1 : vp_in (i + 1) L) (n1 : 0 + 119 ≤ gn z) (n2 : 119 + 59 ≤ gn z) (hcs : cells ≤ room_1.cells ∧ slots ≤ room_1.slots) (hG : gW z M H) (hS : va_S (gA z) s.heap H locs) (hl : lv_has ls 4 [(0, .ref b), (1, .ref (gad z 0)), (2, .ref (gad z 119)), (3, .int i)]) {r : Int32} (h1 : fX6_count N M 0 (xs (i + 1).toNatClampNeg) = some (r, M1)) (h2 : fX7_count N M1 119 (xs (i + 1).toNatClampNeg) = some (r, M2)) (kk : ∀ (H : Heap) (locs : List Loc), gW z M2 H → va_S (gA z) s.heap H locs → W p l e room_1 s m #[.ref b] below meth c H locs cells slots Q (F0 m 2036 ls [])) : W p l e room_1 s m #[.ref b] below meth c H locs cells slots Q (F0 m 1077 ls []) := by
  have hx := X.1
  have hb := X.2.1
  refine lv_aload_n hx hb dL_law_1077 rfl (lv_at hl 1 rfl) ?_
  refine lv_aload_n hx hb dL_law_1078 rfl (lv_at hl 0 rfl) ?_
  refine lv_iload_n hx hb dL_law_1079 rfl (lv_at hl 3 rfl) ?_
  refine lv_iconst (v := 1) hx hb dL_law_1080 (by decide) ?_
  refine lv_iadd hx hb dL_law_1081 ?_
  refine va_sld hx hb hX hbl hbA hS g1 dL_law_1082 ?_
  refine g_cVI (a := 0) (ci := 6) (T := TX6) (N := 8) (av := [.int (xs (i + 1).toNatClampNeg)]) (rest := []) X hG hS (ct_X6_count l z k_0 n1 h1) mt_X6_count ml_L_104 rfl ⟨rfl, rfl, Nat.le_of_ble_eq_true rfl, Nat.le_of_ble_eq_true rfl⟩ hcs (nx_0 n1) k_0 (by decide) rfl hl.1 (Nat.le_of_ble_eq_true rfl) rfl dL_law_1083 (fun H locs hG hS => ?_)
  have hG : gW z M1 H := hG
  refine lv_aload_n hx hb dL_law_1086 rfl (lv_at hl 2 rfl) ?_
  refine lv_aload_n hx hb dL_law_1087 rfl (lv_at hl 0 rfl) ?_
  refine lv_iload_n hx hb dL_law_1088 rfl (lv_at hl 3 rfl) ?_
  refine lv_iconst (v := 1) hx hb dL_law_1089 (by decide) ?_
  refine lv_iadd hx hb dL_law_1090 ?_
  refine va_sld hx hb hX hbl hbA hS g1 dL_law_1091 ?_
  refine g_cVI (a := 119) (ci := 7) (T := TX7) (N := 37) (av := [.int (xs (i + 1).toNatClampNeg)]) (rest := [.int r]) X hG hS (ct_X7_count l z k_119 n2 h2) mt_X7_count ml_L_107 rfl ⟨rfl, rfl, Nat.le_of_ble_eq_true rfl, Nat.le_of_ble_eq_true rfl⟩ hcs (nx_0 n2) k_119 (by decide) rfl hl.1 (Nat.le_of_ble_eq_true rfl) rfl dL_law_1092 (fun H locs hG hS => ?_)
  have hG : gW z M2 H := hG
  refine lv_icmp_eq (tgt := 2036) hx hb dL_law_1095 (by decide) (fun _ => ?_) (fun q => absurd rfl q)
  exact kk H locs hG hS
set_option maxRecDepth 20000 in
set_option maxHeartbeats 4000000 in
theorem lwc_21 (X : gX p m c cL_law 4 s #[.ref b] RL z) (hX : va_X b L xs s s.heap) (hbl : b < s.heap.size) (hbA : ¬ gA z b) (g1 : vp_in (i + 1) L) (g2 : vp_in (i + 2) L) (n1 : 0 + 119 ≤ gn z) (n2 : 119 + 59 ≤ gn z) (hcs : cells ≤ room_1.cells ∧ slots ≤ room_1.slots) (hG : gW z M H) (hS : va_S (gA z) s.heap H locs) (hl : lv_has ls 4 [(0, .ref b), (1, .ref (gad z 0)), (2, .ref (gad z 119)), (3, .int i)]) {r : Int32} (h1 : fX6_rest N M 0 (xs (i + 1).toNatClampNeg) (xs (i + 2).toNatClampNeg) = some (r, M1)) (h2 : fX7_rest N M1 119 (xs (i + 1).toNatClampNeg) (xs (i + 2).toNatClampNeg) = some (r, M2)) (kk : ∀ (H : Heap) (locs : List Loc), gW z M2 H → va_S (gA z) s.heap H locs → W p l e room_1 s m #[.ref b] below meth c H locs cells slots Q (F0 m 2036 ls [])) : W p l e room_1 s m #[.ref b] below meth c H locs cells slots Q (F0 m 1100 ls []) := by
  have hx := X.1
  have hb := X.2.1
  refine lv_aload_n hx hb dL_law_1100 rfl (lv_at hl 1 rfl) ?_
  refine lv_aload_n hx hb dL_law_1101 rfl (lv_at hl 0 rfl) ?_
  refine lv_iload_n hx hb dL_law_1102 rfl (lv_at hl 3 rfl) ?_
  refine lv_iconst (v := 1) hx hb dL_law_1103 (by decide) ?_
  refine lv_iadd hx hb dL_law_1104 ?_
  refine va_sld hx hb hX hbl hbA hS g1 dL_law_1105 ?_
  refine lv_aload_n hx hb dL_law_1106 rfl (lv_at hl 0 rfl) ?_
  refine lv_iload_n hx hb dL_law_1107 rfl (lv_at hl 3 rfl) ?_
  refine lv_iconst (v := 2) hx hb dL_law_1108 (by decide) ?_
  refine lv_iadd hx hb dL_law_1109 ?_
  refine va_sld hx hb hX hbl hbA hS g2 dL_law_1110 ?_
  refine g_cVI (a := 0) (ci := 6) (T := TX6) (N := 8) (av := [.int (xs (i + 1).toNatClampNeg), .int (xs (i + 2).toNatClampNeg)]) (rest := []) X hG hS (ct_X6_rest l z k_0 n1 h1) mt_X6_rest ml_L_108 rfl ⟨rfl, rfl, Nat.le_of_ble_eq_true rfl, Nat.le_of_ble_eq_true rfl⟩ hcs (nx_0 n1) k_0 (by decide) rfl hl.1 (Nat.le_of_ble_eq_true rfl) rfl dL_law_1111 (fun H locs hG hS => ?_)
  have hG : gW z M1 H := hG
  refine lv_aload_n hx hb dL_law_1114 rfl (lv_at hl 2 rfl) ?_
  refine lv_aload_n hx hb dL_law_1115 rfl (lv_at hl 0 rfl) ?_
  refine lv_iload_n hx hb dL_law_1116 rfl (lv_at hl 3 rfl) ?_
  refine lv_iconst (v := 1) hx hb dL_law_1117 (by decide) ?_
  refine lv_iadd hx hb dL_law_1118 ?_
  refine va_sld hx hb hX hbl hbA hS g1 dL_law_1119 ?_
  refine lv_aload_n hx hb dL_law_1120 rfl (lv_at hl 0 rfl) ?_
  refine lv_iload_n hx hb dL_law_1121 rfl (lv_at hl 3 rfl) ?_
  refine lv_iconst (v := 2) hx hb dL_law_1122 (by decide) ?_
  refine lv_iadd hx hb dL_law_1123 ?_
  refine va_sld hx hb hX hbl hbA hS g2 dL_law_1124 ?_
  refine g_cVI (a := 119) (ci := 7) (T := TX7) (N := 37) (av := [.int (xs (i + 1).toNatClampNeg), .int (xs (i + 2).toNatClampNeg)]) (rest := [.int r]) X hG hS (ct_X7_rest l z k_119 n2 h2) mt_X7_rest ml_L_111 rfl ⟨rfl, rfl, Nat.le_of_ble_eq_true rfl, Nat.le_of_ble_eq_true rfl⟩ hcs (nx_0 n2) k_119 (by decide) rfl hl.1 (Nat.le_of_ble_eq_true rfl) rfl dL_law_1125 (fun H locs hG hS => ?_)
  have hG : gW z M2 H := hG
  refine lv_icmp_eq (tgt := 2036) hx hb dL_law_1128 (by decide) (fun _ => ?_) (fun q => absurd rfl q)
  exact kk H locs hG hS
set_option maxRecDepth 20000 in
set_option maxHeartbeats 4000000 in
theorem lwc_22 (X : gX p m c cL_law 4 s #[.ref b] RL z) (hX : va_X b L xs s s.heap) (hbl : b < s.heap.size) (hbA : ¬ gA z b) (g1 : vp_in (i + 1) L) (n1 : 0 + 119 ≤ gn z) (n2 : 119 + 59 ≤ gn z) (hcs : cells ≤ room_1.cells ∧ slots ≤ room_1.slots) (hG : gW z M H) (hS : va_S (gA z) s.heap H locs) (hl : lv_has ls 4 [(0, .ref b), (1, .ref (gad z 0)), (2, .ref (gad z 119)), (3, .int i)]) {r : Int32} (h1 : fX6_fewest N M 0 (xs (i + 1).toNatClampNeg) = some (r, M1)) (h2 : fX7_fewest N M1 119 (xs (i + 1).toNatClampNeg) = some (r, M2)) (kk : ∀ (H : Heap) (locs : List Loc), gW z M2 H → va_S (gA z) s.heap H locs → W p l e room_1 s m #[.ref b] below meth c H locs cells slots Q (F0 m 2036 ls [])) : W p l e room_1 s m #[.ref b] below meth c H locs cells slots Q (F0 m 1133 ls []) := by
  have hx := X.1
  have hb := X.2.1
  refine lv_aload_n hx hb dL_law_1133 rfl (lv_at hl 1 rfl) ?_
  refine lv_aload_n hx hb dL_law_1134 rfl (lv_at hl 0 rfl) ?_
  refine lv_iload_n hx hb dL_law_1135 rfl (lv_at hl 3 rfl) ?_
  refine lv_iconst (v := 1) hx hb dL_law_1136 (by decide) ?_
  refine lv_iadd hx hb dL_law_1137 ?_
  refine va_sld hx hb hX hbl hbA hS g1 dL_law_1138 ?_
  refine g_cVI (a := 0) (ci := 6) (T := TX6) (N := 8) (av := [.int (xs (i + 1).toNatClampNeg)]) (rest := []) X hG hS (ct_X6_fewest l z k_0 n1 h1) mt_X6_fewest ml_L_112 rfl ⟨rfl, rfl, Nat.le_of_ble_eq_true rfl, Nat.le_of_ble_eq_true rfl⟩ hcs (nx_0 n1) k_0 (by decide) rfl hl.1 (Nat.le_of_ble_eq_true rfl) rfl dL_law_1139 (fun H locs hG hS => ?_)
  have hG : gW z M1 H := hG
  refine lv_aload_n hx hb dL_law_1142 rfl (lv_at hl 2 rfl) ?_
  refine lv_aload_n hx hb dL_law_1143 rfl (lv_at hl 0 rfl) ?_
  refine lv_iload_n hx hb dL_law_1144 rfl (lv_at hl 3 rfl) ?_
  refine lv_iconst (v := 1) hx hb dL_law_1145 (by decide) ?_
  refine lv_iadd hx hb dL_law_1146 ?_
  refine va_sld hx hb hX hbl hbA hS g1 dL_law_1147 ?_
  refine g_cVI (a := 119) (ci := 7) (T := TX7) (N := 37) (av := [.int (xs (i + 1).toNatClampNeg)]) (rest := [.int r]) X hG hS (ct_X7_fewest l z k_119 n2 h2) mt_X7_fewest ml_L_115 rfl ⟨rfl, rfl, Nat.le_of_ble_eq_true rfl, Nat.le_of_ble_eq_true rfl⟩ hcs (nx_0 n2) k_119 (by decide) rfl hl.1 (Nat.le_of_ble_eq_true rfl) rfl dL_law_1148 (fun H locs hG hS => ?_)
  have hG : gW z M2 H := hG
  refine lv_icmp_eq (tgt := 2036) hx hb dL_law_1151 (by decide) (fun _ => ?_) (fun q => absurd rfl q)
  exact kk H locs hG hS
set_option maxRecDepth 20000 in
set_option maxHeartbeats 4000000 in
theorem lwc_23 (X : gX p m c cL_law 4 s #[.ref b] RL z) (hX : va_X b L xs s s.heap) (hbl : b < s.heap.size) (hbA : ¬ gA z b) (g1 : vp_in (i + 1) L) (n1 : 0 + 119 ≤ gn z) (n2 : 119 + 59 ≤ gn z) (hcs : cells ≤ room_1.cells ∧ slots ≤ room_1.slots) (hG : gW z M H) (hS : va_S (gA z) s.heap H locs) (hl : lv_has ls 4 [(0, .ref b), (1, .ref (gad z 0)), (2, .ref (gad z 119)), (3, .int i)]) {r : Int32} (h1 : fX6_most N M 0 (xs (i + 1).toNatClampNeg) = some (r, M1)) (h2 : fX7_most N M1 119 (xs (i + 1).toNatClampNeg) = some (r, M2)) (kk : ∀ (H : Heap) (locs : List Loc), gW z M2 H → va_S (gA z) s.heap H locs → W p l e room_1 s m #[.ref b] below meth c H locs cells slots Q (F0 m 2036 ls [])) : W p l e room_1 s m #[.ref b] below meth c H locs cells slots Q (F0 m 1156 ls []) := by
  have hx := X.1
  have hb := X.2.1
  refine lv_aload_n hx hb dL_law_1156 rfl (lv_at hl 1 rfl) ?_
  refine lv_aload_n hx hb dL_law_1157 rfl (lv_at hl 0 rfl) ?_
  refine lv_iload_n hx hb dL_law_1158 rfl (lv_at hl 3 rfl) ?_
  refine lv_iconst (v := 1) hx hb dL_law_1159 (by decide) ?_
  refine lv_iadd hx hb dL_law_1160 ?_
  refine va_sld hx hb hX hbl hbA hS g1 dL_law_1161 ?_
  refine g_cVI (a := 0) (ci := 6) (T := TX6) (N := 8) (av := [.int (xs (i + 1).toNatClampNeg)]) (rest := []) X hG hS (ct_X6_most l z k_0 n1 h1) mt_X6_most ml_L_116 rfl ⟨rfl, rfl, Nat.le_of_ble_eq_true rfl, Nat.le_of_ble_eq_true rfl⟩ hcs (nx_0 n1) k_0 (by decide) rfl hl.1 (Nat.le_of_ble_eq_true rfl) rfl dL_law_1162 (fun H locs hG hS => ?_)
  have hG : gW z M1 H := hG
  refine lv_aload_n hx hb dL_law_1165 rfl (lv_at hl 2 rfl) ?_
  refine lv_aload_n hx hb dL_law_1166 rfl (lv_at hl 0 rfl) ?_
  refine lv_iload_n hx hb dL_law_1167 rfl (lv_at hl 3 rfl) ?_
  refine lv_iconst (v := 1) hx hb dL_law_1168 (by decide) ?_
  refine lv_iadd hx hb dL_law_1169 ?_
  refine va_sld hx hb hX hbl hbA hS g1 dL_law_1170 ?_
  refine g_cVI (a := 119) (ci := 7) (T := TX7) (N := 37) (av := [.int (xs (i + 1).toNatClampNeg)]) (rest := [.int r]) X hG hS (ct_X7_most l z k_119 n2 h2) mt_X7_most ml_L_119 rfl ⟨rfl, rfl, Nat.le_of_ble_eq_true rfl, Nat.le_of_ble_eq_true rfl⟩ hcs (nx_0 n2) k_119 (by decide) rfl hl.1 (Nat.le_of_ble_eq_true rfl) rfl dL_law_1171 (fun H locs hG hS => ?_)
  have hG : gW z M2 H := hG
  refine lv_icmp_eq (tgt := 2036) hx hb dL_law_1174 (by decide) (fun _ => ?_) (fun q => absurd rfl q)
  exact kk H locs hG hS
set_option maxRecDepth 20000 in
set_option maxHeartbeats 4000000 in
theorem lwc_24 (X : gX p m c cL_law 4 s #[.ref b] RL z) (hX : va_X b L xs s s.heap) (hbl : b < s.heap.size) (hbA : ¬ gA z b) (g1 : vp_in (i + 1) L) (n1 : 0 + 119 ≤ gn z) (n2 : 119 + 59 ≤ gn z) (hcs : cells ≤ room_1.cells ∧ slots ≤ room_1.slots) (hG : gW z M H) (hS : va_S (gA z) s.heap H locs) (hl : lv_has ls 4 [(0, .ref b), (1, .ref (gad z 0)), (2, .ref (gad z 119)), (3, .int i)]) {r : Int32} (h1 : fX6_cheap N M 0 (xs (i + 1).toNatClampNeg) = some (r, M1)) (h2 : fX7_cheap N M1 119 (xs (i + 1).toNatClampNeg) = some (r, M2)) (kk : ∀ (H : Heap) (locs : List Loc), gW z M2 H → va_S (gA z) s.heap H locs → W p l e room_1 s m #[.ref b] below meth c H locs cells slots Q (F0 m 2036 ls [])) : W p l e room_1 s m #[.ref b] below meth c H locs cells slots Q (F0 m 1179 ls []) := by
  have hx := X.1
  have hb := X.2.1
  refine lv_aload_n hx hb dL_law_1179 rfl (lv_at hl 1 rfl) ?_
  refine lv_aload_n hx hb dL_law_1180 rfl (lv_at hl 0 rfl) ?_
  refine lv_iload_n hx hb dL_law_1181 rfl (lv_at hl 3 rfl) ?_
  refine lv_iconst (v := 1) hx hb dL_law_1182 (by decide) ?_
  refine lv_iadd hx hb dL_law_1183 ?_
  refine va_sld hx hb hX hbl hbA hS g1 dL_law_1184 ?_
  refine g_cVI (a := 0) (ci := 6) (T := TX6) (N := 8) (av := [.int (xs (i + 1).toNatClampNeg)]) (rest := []) X hG hS (ct_X6_cheap l z k_0 n1 h1) mt_X6_cheap ml_L_120 rfl ⟨rfl, rfl, Nat.le_of_ble_eq_true rfl, Nat.le_of_ble_eq_true rfl⟩ hcs (nx_0 n1) k_0 (by decide) rfl hl.1 (Nat.le_of_ble_eq_true rfl) rfl dL_law_1185 (fun H locs hG hS => ?_)
  have hG : gW z M1 H := hG
  refine lv_aload_n hx hb dL_law_1188 rfl (lv_at hl 2 rfl) ?_
  refine lv_aload_n hx hb dL_law_1189 rfl (lv_at hl 0 rfl) ?_
  refine lv_iload_n hx hb dL_law_1190 rfl (lv_at hl 3 rfl) ?_
  refine lv_iconst (v := 1) hx hb dL_law_1191 (by decide) ?_
  refine lv_iadd hx hb dL_law_1192 ?_
  refine va_sld hx hb hX hbl hbA hS g1 dL_law_1193 ?_
  refine g_cVI (a := 119) (ci := 7) (T := TX7) (N := 37) (av := [.int (xs (i + 1).toNatClampNeg)]) (rest := [.int r]) X hG hS (ct_X7_cheap l z k_119 n2 h2) mt_X7_cheap ml_L_123 rfl ⟨rfl, rfl, Nat.le_of_ble_eq_true rfl, Nat.le_of_ble_eq_true rfl⟩ hcs (nx_0 n2) k_119 (by decide) rfl hl.1 (Nat.le_of_ble_eq_true rfl) rfl dL_law_1194 (fun H locs hG hS => ?_)
  have hG : gW z M2 H := hG
  refine lv_icmp_eq (tgt := 2036) hx hb dL_law_1197 (by decide) (fun _ => ?_) (fun q => absurd rfl q)
  exact kk H locs hG hS
set_option maxRecDepth 20000 in
set_option maxHeartbeats 4000000 in
theorem lwc_25 (X : gX p m c cL_law 4 s #[.ref b] RL z) (hX : va_X b L xs s s.heap) (hbl : b < s.heap.size) (hbA : ¬ gA z b) (g1 : vp_in (i + 1) L) (n1 : 0 + 119 ≤ gn z) (n2 : 119 + 59 ≤ gn z) (hcs : cells ≤ room_1.cells ∧ slots ≤ room_1.slots) (hG : gW z M H) (hS : va_S (gA z) s.heap H locs) (hl : lv_has ls 4 [(0, .ref b), (1, .ref (gad z 0)), (2, .ref (gad z 119)), (3, .int i)]) {r : Int32} (h1 : fX6_best N M 0 (xs (i + 1).toNatClampNeg) = some (r, M1)) (h2 : fX7_best N M1 119 (xs (i + 1).toNatClampNeg) = some (r, M2)) (kk : ∀ (H : Heap) (locs : List Loc), gW z M2 H → va_S (gA z) s.heap H locs → W p l e room_1 s m #[.ref b] below meth c H locs cells slots Q (F0 m 2036 ls [])) : W p l e room_1 s m #[.ref b] below meth c H locs cells slots Q (F0 m 1202 ls []) := by
  have hx := X.1
  have hb := X.2.1
  refine lv_aload_n hx hb dL_law_1202 rfl (lv_at hl 1 rfl) ?_
  refine lv_aload_n hx hb dL_law_1203 rfl (lv_at hl 0 rfl) ?_
  refine lv_iload_n hx hb dL_law_1204 rfl (lv_at hl 3 rfl) ?_
  refine lv_iconst (v := 1) hx hb dL_law_1205 (by decide) ?_
  refine lv_iadd hx hb dL_law_1206 ?_
  refine va_sld hx hb hX hbl hbA hS g1 dL_law_1207 ?_
  refine g_cVI (a := 0) (ci := 6) (T := TX6) (N := 8) (av := [.int (xs (i + 1).toNatClampNeg)]) (rest := []) X hG hS (ct_X6_best l z k_0 n1 h1) mt_X6_best ml_L_124 rfl ⟨rfl, rfl, Nat.le_of_ble_eq_true rfl, Nat.le_of_ble_eq_true rfl⟩ hcs (nx_0 n1) k_0 (by decide) rfl hl.1 (Nat.le_of_ble_eq_true rfl) rfl dL_law_1208 (fun H locs hG hS => ?_)
  have hG : gW z M1 H := hG
  refine lv_aload_n hx hb dL_law_1211 rfl (lv_at hl 2 rfl) ?_
  refine lv_aload_n hx hb dL_law_1212 rfl (lv_at hl 0 rfl) ?_
  refine lv_iload_n hx hb dL_law_1213 rfl (lv_at hl 3 rfl) ?_
  refine lv_iconst (v := 1) hx hb dL_law_1214 (by decide) ?_
  refine lv_iadd hx hb dL_law_1215 ?_
  refine va_sld hx hb hX hbl hbA hS g1 dL_law_1216 ?_
  refine g_cVI (a := 119) (ci := 7) (T := TX7) (N := 37) (av := [.int (xs (i + 1).toNatClampNeg)]) (rest := [.int r]) X hG hS (ct_X7_best l z k_119 n2 h2) mt_X7_best ml_L_127 rfl ⟨rfl, rfl, Nat.le_of_ble_eq_true rfl, Nat.le_of_ble_eq_true rfl⟩ hcs (nx_0 n2) k_119 (by decide) rfl hl.1 (Nat.le_of_ble_eq_true rfl) rfl dL_law_1217 (fun H locs hG hS => ?_)
  have hG : gW z M2 H := hG
  refine lv_icmp_eq (tgt := 2036) hx hb dL_law_1220 (by decide) (fun _ => ?_) (fun q => absurd rfl q)
  exact kk H locs hG hS
set_option maxRecDepth 20000 in
set_option maxHeartbeats 4000000 in
theorem lwc_26 (X : gX p m c cL_law 4 s #[.ref b] RL z) (hX : va_X b L xs s s.heap) (hbl : b < s.heap.size) (hbA : ¬ gA z b) (g1 : vp_in (i + 1) L) (n1 : 0 + 119 ≤ gn z) (n2 : 119 + 59 ≤ gn z) (hcs : cells ≤ room_1.cells ∧ slots ≤ room_1.slots) (hG : gW z M H) (hS : va_S (gA z) s.heap H locs) (hl : lv_has ls 4 [(0, .ref b), (1, .ref (gad z 0)), (2, .ref (gad z 119)), (3, .int i)]) {r : Int32} (h1 : fX6_good N M 0 (xs (i + 1).toNatClampNeg) = some (r, M1)) (h2 : fX7_good N M1 119 (xs (i + 1).toNatClampNeg) = some (r, M2)) (kk : ∀ (H : Heap) (locs : List Loc), gW z M2 H → va_S (gA z) s.heap H locs → W p l e room_1 s m #[.ref b] below meth c H locs cells slots Q (F0 m 2036 ls [])) : W p l e room_1 s m #[.ref b] below meth c H locs cells slots Q (F0 m 1225 ls []) := by
  have hx := X.1
  have hb := X.2.1
  refine lv_aload_n hx hb dL_law_1225 rfl (lv_at hl 1 rfl) ?_
  refine lv_aload_n hx hb dL_law_1226 rfl (lv_at hl 0 rfl) ?_
  refine lv_iload_n hx hb dL_law_1227 rfl (lv_at hl 3 rfl) ?_
  refine lv_iconst (v := 1) hx hb dL_law_1228 (by decide) ?_
  refine lv_iadd hx hb dL_law_1229 ?_
  refine va_sld hx hb hX hbl hbA hS g1 dL_law_1230 ?_
  refine g_cVI (a := 0) (ci := 6) (T := TX6) (N := 8) (av := [.int (xs (i + 1).toNatClampNeg)]) (rest := []) X hG hS (ct_X6_good l z k_0 n1 h1) mt_X6_good ml_L_128 rfl ⟨rfl, rfl, Nat.le_of_ble_eq_true rfl, Nat.le_of_ble_eq_true rfl⟩ hcs (nx_0 n1) k_0 (by decide) rfl hl.1 (Nat.le_of_ble_eq_true rfl) rfl dL_law_1231 (fun H locs hG hS => ?_)
  have hG : gW z M1 H := hG
  refine lv_aload_n hx hb dL_law_1234 rfl (lv_at hl 2 rfl) ?_
  refine lv_aload_n hx hb dL_law_1235 rfl (lv_at hl 0 rfl) ?_
  refine lv_iload_n hx hb dL_law_1236 rfl (lv_at hl 3 rfl) ?_
  refine lv_iconst (v := 1) hx hb dL_law_1237 (by decide) ?_
  refine lv_iadd hx hb dL_law_1238 ?_
  refine va_sld hx hb hX hbl hbA hS g1 dL_law_1239 ?_
  refine g_cVI (a := 119) (ci := 7) (T := TX7) (N := 37) (av := [.int (xs (i + 1).toNatClampNeg)]) (rest := [.int r]) X hG hS (ct_X7_good l z k_119 n2 h2) mt_X7_good ml_L_131 rfl ⟨rfl, rfl, Nat.le_of_ble_eq_true rfl, Nat.le_of_ble_eq_true rfl⟩ hcs (nx_0 n2) k_119 (by decide) rfl hl.1 (Nat.le_of_ble_eq_true rfl) rfl dL_law_1240 (fun H locs hG hS => ?_)
  have hG : gW z M2 H := hG
  refine lv_icmp_eq (tgt := 2036) hx hb dL_law_1243 (by decide) (fun _ => ?_) (fun q => absurd rfl q)
  exact kk H locs hG hS
set_option maxRecDepth 20000 in
set_option maxHeartbeats 4000000 in
theorem lwc_27 (X : gX p m c cL_law 4 s #[.ref b] RL z) (hX : va_X b L xs s s.heap) (hbl : b < s.heap.size) (hbA : ¬ gA z b) (g1 : vp_in (i + 1) L) (n1 : 0 + 119 ≤ gn z) (n2 : 119 + 59 ≤ gn z) (hcs : cells ≤ room_1.cells ∧ slots ≤ room_1.slots) (hG : gW z M H) (hS : va_S (gA z) s.heap H locs) (hl : lv_has ls 4 [(0, .ref b), (1, .ref (gad z 0)), (2, .ref (gad z 119)), (3, .int i)]) {r : Int32} (h1 : fX6_lost N M 0 (xs (i + 1).toNatClampNeg) = some (r, M1)) (h2 : fX7_lost N M1 119 (xs (i + 1).toNatClampNeg) = some (r, M2)) (kk : ∀ (H : Heap) (locs : List Loc), gW z M2 H → va_S (gA z) s.heap H locs → W p l e room_1 s m #[.ref b] below meth c H locs cells slots Q (F0 m 2036 ls [])) : W p l e room_1 s m #[.ref b] below meth c H locs cells slots Q (F0 m 1248 ls []) := by
  have hx := X.1
  have hb := X.2.1
  refine lv_aload_n hx hb dL_law_1248 rfl (lv_at hl 1 rfl) ?_
  refine lv_aload_n hx hb dL_law_1249 rfl (lv_at hl 0 rfl) ?_
  refine lv_iload_n hx hb dL_law_1250 rfl (lv_at hl 3 rfl) ?_
  refine lv_iconst (v := 1) hx hb dL_law_1251 (by decide) ?_
  refine lv_iadd hx hb dL_law_1252 ?_
  refine va_sld hx hb hX hbl hbA hS g1 dL_law_1253 ?_
  refine g_cVI (a := 0) (ci := 6) (T := TX6) (N := 8) (av := [.int (xs (i + 1).toNatClampNeg)]) (rest := []) X hG hS (ct_X6_lost l z k_0 n1 h1) mt_X6_lost ml_L_132 rfl ⟨rfl, rfl, Nat.le_of_ble_eq_true rfl, Nat.le_of_ble_eq_true rfl⟩ hcs (nx_0 n1) k_0 (by decide) rfl hl.1 (Nat.le_of_ble_eq_true rfl) rfl dL_law_1254 (fun H locs hG hS => ?_)
  have hG : gW z M1 H := hG
  refine lv_aload_n hx hb dL_law_1257 rfl (lv_at hl 2 rfl) ?_
  refine lv_aload_n hx hb dL_law_1258 rfl (lv_at hl 0 rfl) ?_
  refine lv_iload_n hx hb dL_law_1259 rfl (lv_at hl 3 rfl) ?_
  refine lv_iconst (v := 1) hx hb dL_law_1260 (by decide) ?_
  refine lv_iadd hx hb dL_law_1261 ?_
  refine va_sld hx hb hX hbl hbA hS g1 dL_law_1262 ?_
  refine g_cVI (a := 119) (ci := 7) (T := TX7) (N := 37) (av := [.int (xs (i + 1).toNatClampNeg)]) (rest := [.int r]) X hG hS (ct_X7_lost l z k_119 n2 h2) mt_X7_lost ml_L_135 rfl ⟨rfl, rfl, Nat.le_of_ble_eq_true rfl, Nat.le_of_ble_eq_true rfl⟩ hcs (nx_0 n2) k_119 (by decide) rfl hl.1 (Nat.le_of_ble_eq_true rfl) rfl dL_law_1263 (fun H locs hG hS => ?_)
  have hG : gW z M2 H := hG
  refine lv_icmp_eq (tgt := 2036) hx hb dL_law_1266 (by decide) (fun _ => ?_) (fun q => absurd rfl q)
  exact kk H locs hG hS
set_option maxRecDepth 20000 in
set_option maxHeartbeats 4000000 in
theorem lwc_28 (X : gX p m c cL_law 4 s #[.ref b] RL z) (hX : va_X b L xs s s.heap) (hbl : b < s.heap.size) (hbA : ¬ gA z b) (g1 : vp_in (i + 1) L) (n1 : 0 + 119 ≤ gn z) (n2 : 119 + 59 ≤ gn z) (hcs : cells ≤ room_1.cells ∧ slots ≤ room_1.slots) (hG : gW z M H) (hS : va_S (gA z) s.heap H locs) (hl : lv_has ls 4 [(0, .ref b), (1, .ref (gad z 0)), (2, .ref (gad z 119)), (3, .int i)]) {r : Int32} (h1 : fX6_beside N M 0 (xs (i + 1).toNatClampNeg) = some (r, M1)) (h2 : fX7_beside N M1 119 (xs (i + 1).toNatClampNeg) = some (r, M2)) (kk : ∀ (H : Heap) (locs : List Loc), gW z M2 H → va_S (gA z) s.heap H locs → W p l e room_1 s m #[.ref b] below meth c H locs cells slots Q (F0 m 2036 ls [])) : W p l e room_1 s m #[.ref b] below meth c H locs cells slots Q (F0 m 1271 ls []) := by
  have hx := X.1
  have hb := X.2.1
  refine lv_aload_n hx hb dL_law_1271 rfl (lv_at hl 1 rfl) ?_
  refine lv_aload_n hx hb dL_law_1272 rfl (lv_at hl 0 rfl) ?_
  refine lv_iload_n hx hb dL_law_1273 rfl (lv_at hl 3 rfl) ?_
  refine lv_iconst (v := 1) hx hb dL_law_1274 (by decide) ?_
  refine lv_iadd hx hb dL_law_1275 ?_
  refine va_sld hx hb hX hbl hbA hS g1 dL_law_1276 ?_
  refine g_cVI (a := 0) (ci := 6) (T := TX6) (N := 8) (av := [.int (xs (i + 1).toNatClampNeg)]) (rest := []) X hG hS (ct_X6_beside l z k_0 n1 h1) mt_X6_beside ml_L_136 rfl ⟨rfl, rfl, Nat.le_of_ble_eq_true rfl, Nat.le_of_ble_eq_true rfl⟩ hcs (nx_0 n1) k_0 (by decide) rfl hl.1 (Nat.le_of_ble_eq_true rfl) rfl dL_law_1277 (fun H locs hG hS => ?_)
  have hG : gW z M1 H := hG
  refine lv_aload_n hx hb dL_law_1280 rfl (lv_at hl 2 rfl) ?_
  refine lv_aload_n hx hb dL_law_1281 rfl (lv_at hl 0 rfl) ?_
  refine lv_iload_n hx hb dL_law_1282 rfl (lv_at hl 3 rfl) ?_
  refine lv_iconst (v := 1) hx hb dL_law_1283 (by decide) ?_
  refine lv_iadd hx hb dL_law_1284 ?_
  refine va_sld hx hb hX hbl hbA hS g1 dL_law_1285 ?_
  refine g_cVI (a := 119) (ci := 7) (T := TX7) (N := 37) (av := [.int (xs (i + 1).toNatClampNeg)]) (rest := [.int r]) X hG hS (ct_X7_beside l z k_119 n2 h2) mt_X7_beside ml_L_139 rfl ⟨rfl, rfl, Nat.le_of_ble_eq_true rfl, Nat.le_of_ble_eq_true rfl⟩ hcs (nx_0 n2) k_119 (by decide) rfl hl.1 (Nat.le_of_ble_eq_true rfl) rfl dL_law_1286 (fun H locs hG hS => ?_)
  have hG : gW z M2 H := hG
  refine lv_icmp_eq (tgt := 2036) hx hb dL_law_1289 (by decide) (fun _ => ?_) (fun q => absurd rfl q)
  exact kk H locs hG hS
set_option maxRecDepth 20000 in
set_option maxHeartbeats 4000000 in
theorem lwc_29 (X : gX p m c cL_law 4 s #[.ref b] RL z) (hX : va_X b L xs s s.heap) (hbl : b < s.heap.size) (hbA : ¬ gA z b) (g1 : vp_in (i + 1) L) (g2 : vp_in (i + 2) L) (n1 : 0 + 119 ≤ gn z) (n2 : 119 + 59 ≤ gn z) (hcs : cells ≤ room_1.cells ∧ slots ≤ room_1.slots) (hG : gW z M H) (hS : va_S (gA z) s.heap H locs) (hl : lv_has ls 4 [(0, .ref b), (1, .ref (gad z 0)), (2, .ref (gad z 119)), (3, .int i)]) {r : Int32} (h1 : fX6_go N M 0 (xs (i + 1).toNatClampNeg) (xs (i + 2).toNatClampNeg) = some (r, M1)) (h2 : fX7_go N M1 119 (xs (i + 1).toNatClampNeg) (xs (i + 2).toNatClampNeg) = some (r, M2)) (kk : ∀ (H : Heap) (locs : List Loc), gW z M2 H → va_S (gA z) s.heap H locs → W p l e room_1 s m #[.ref b] below meth c H locs cells slots Q (F0 m 2036 ls [])) : W p l e room_1 s m #[.ref b] below meth c H locs cells slots Q (F0 m 1294 ls []) := by
  have hx := X.1
  have hb := X.2.1
  refine lv_aload_n hx hb dL_law_1294 rfl (lv_at hl 1 rfl) ?_
  refine lv_aload_n hx hb dL_law_1295 rfl (lv_at hl 0 rfl) ?_
  refine lv_iload_n hx hb dL_law_1296 rfl (lv_at hl 3 rfl) ?_
  refine lv_iconst (v := 1) hx hb dL_law_1297 (by decide) ?_
  refine lv_iadd hx hb dL_law_1298 ?_
  refine va_sld hx hb hX hbl hbA hS g1 dL_law_1299 ?_
  refine lv_aload_n hx hb dL_law_1300 rfl (lv_at hl 0 rfl) ?_
  refine lv_iload_n hx hb dL_law_1301 rfl (lv_at hl 3 rfl) ?_
  refine lv_iconst (v := 2) hx hb dL_law_1302 (by decide) ?_
  refine lv_iadd hx hb dL_law_1303 ?_
  refine va_sld hx hb hX hbl hbA hS g2 dL_law_1304 ?_
  refine g_cVI (a := 0) (ci := 6) (T := TX6) (N := 8) (av := [.int (xs (i + 1).toNatClampNeg), .int (xs (i + 2).toNatClampNeg)]) (rest := []) X hG hS (ct_X6_go l z k_0 n1 h1) mt_X6_go ml_L_140 rfl ⟨rfl, rfl, Nat.le_of_ble_eq_true rfl, Nat.le_of_ble_eq_true rfl⟩ hcs (nx_0 n1) k_0 (by decide) rfl hl.1 (Nat.le_of_ble_eq_true rfl) rfl dL_law_1305 (fun H locs hG hS => ?_)
  have hG : gW z M1 H := hG
  refine lv_aload_n hx hb dL_law_1308 rfl (lv_at hl 2 rfl) ?_
  refine lv_aload_n hx hb dL_law_1309 rfl (lv_at hl 0 rfl) ?_
  refine lv_iload_n hx hb dL_law_1310 rfl (lv_at hl 3 rfl) ?_
  refine lv_iconst (v := 1) hx hb dL_law_1311 (by decide) ?_
  refine lv_iadd hx hb dL_law_1312 ?_
  refine va_sld hx hb hX hbl hbA hS g1 dL_law_1313 ?_
  refine lv_aload_n hx hb dL_law_1314 rfl (lv_at hl 0 rfl) ?_
  refine lv_iload_n hx hb dL_law_1315 rfl (lv_at hl 3 rfl) ?_
  refine lv_iconst (v := 2) hx hb dL_law_1316 (by decide) ?_
  refine lv_iadd hx hb dL_law_1317 ?_
  refine va_sld hx hb hX hbl hbA hS g2 dL_law_1318 ?_
  refine g_cVI (a := 119) (ci := 7) (T := TX7) (N := 37) (av := [.int (xs (i + 1).toNatClampNeg), .int (xs (i + 2).toNatClampNeg)]) (rest := [.int r]) X hG hS (ct_X7_go l z k_119 n2 h2) mt_X7_go ml_L_143 rfl ⟨rfl, rfl, Nat.le_of_ble_eq_true rfl, Nat.le_of_ble_eq_true rfl⟩ hcs (nx_0 n2) k_119 (by decide) rfl hl.1 (Nat.le_of_ble_eq_true rfl) rfl dL_law_1319 (fun H locs hG hS => ?_)
  have hG : gW z M2 H := hG
  refine lv_icmp_eq (tgt := 2036) hx hb dL_law_1322 (by decide) (fun _ => ?_) (fun q => absurd rfl q)
  exact kk H locs hG hS
set_option maxRecDepth 20000 in
set_option maxHeartbeats 4000000 in
theorem lwc_30 (X : gX p m c cL_law 4 s #[.ref b] RL z) (hX : va_X b L xs s s.heap) (hbl : b < s.heap.size) (hbA : ¬ gA z b) (g1 : vp_in (i + 1) L) (g2 : vp_in (i + 2) L) (n1 : 0 + 119 ≤ gn z) (n2 : 119 + 59 ≤ gn z) (hcs : cells ≤ room_1.cells ∧ slots ≤ room_1.slots) (hG : gW z M H) (hS : va_S (gA z) s.heap H locs) (hl : lv_has ls 4 [(0, .ref b), (1, .ref (gad z 0)), (2, .ref (gad z 119)), (3, .int i)]) {r : Int32} (h1 : fX6_turns N M 0 (xs (i + 1).toNatClampNeg) (xs (i + 2).toNatClampNeg) = some (r, M1)) (h2 : fX7_turns N M1 119 (xs (i + 1).toNatClampNeg) (xs (i + 2).toNatClampNeg) = some (r, M2)) (kk : ∀ (H : Heap) (locs : List Loc), gW z M2 H → va_S (gA z) s.heap H locs → W p l e room_1 s m #[.ref b] below meth c H locs cells slots Q (F0 m 2036 ls [])) : W p l e room_1 s m #[.ref b] below meth c H locs cells slots Q (F0 m 1327 ls []) := by
  have hx := X.1
  have hb := X.2.1
  refine lv_aload_n hx hb dL_law_1327 rfl (lv_at hl 1 rfl) ?_
  refine lv_aload_n hx hb dL_law_1328 rfl (lv_at hl 0 rfl) ?_
  refine lv_iload_n hx hb dL_law_1329 rfl (lv_at hl 3 rfl) ?_
  refine lv_iconst (v := 1) hx hb dL_law_1330 (by decide) ?_
  refine lv_iadd hx hb dL_law_1331 ?_
  refine va_sld hx hb hX hbl hbA hS g1 dL_law_1332 ?_
  refine lv_aload_n hx hb dL_law_1333 rfl (lv_at hl 0 rfl) ?_
  refine lv_iload_n hx hb dL_law_1334 rfl (lv_at hl 3 rfl) ?_
  refine lv_iconst (v := 2) hx hb dL_law_1335 (by decide) ?_
  refine lv_iadd hx hb dL_law_1336 ?_
  refine va_sld hx hb hX hbl hbA hS g2 dL_law_1337 ?_
  refine g_cVI (a := 0) (ci := 6) (T := TX6) (N := 8) (av := [.int (xs (i + 1).toNatClampNeg), .int (xs (i + 2).toNatClampNeg)]) (rest := []) X hG hS (ct_X6_turns l z k_0 n1 h1) mt_X6_turns ml_L_144 rfl ⟨rfl, rfl, Nat.le_of_ble_eq_true rfl, Nat.le_of_ble_eq_true rfl⟩ hcs (nx_0 n1) k_0 (by decide) rfl hl.1 (Nat.le_of_ble_eq_true rfl) rfl dL_law_1338 (fun H locs hG hS => ?_)
  have hG : gW z M1 H := hG
  refine lv_aload_n hx hb dL_law_1341 rfl (lv_at hl 2 rfl) ?_
  refine lv_aload_n hx hb dL_law_1342 rfl (lv_at hl 0 rfl) ?_
  refine lv_iload_n hx hb dL_law_1343 rfl (lv_at hl 3 rfl) ?_
  refine lv_iconst (v := 1) hx hb dL_law_1344 (by decide) ?_
  refine lv_iadd hx hb dL_law_1345 ?_
  refine va_sld hx hb hX hbl hbA hS g1 dL_law_1346 ?_
  refine lv_aload_n hx hb dL_law_1347 rfl (lv_at hl 0 rfl) ?_
  refine lv_iload_n hx hb dL_law_1348 rfl (lv_at hl 3 rfl) ?_
  refine lv_iconst (v := 2) hx hb dL_law_1349 (by decide) ?_
  refine lv_iadd hx hb dL_law_1350 ?_
  refine va_sld hx hb hX hbl hbA hS g2 dL_law_1351 ?_
  refine g_cVI (a := 119) (ci := 7) (T := TX7) (N := 37) (av := [.int (xs (i + 1).toNatClampNeg), .int (xs (i + 2).toNatClampNeg)]) (rest := [.int r]) X hG hS (ct_X7_turns l z k_119 n2 h2) mt_X7_turns ml_L_147 rfl ⟨rfl, rfl, Nat.le_of_ble_eq_true rfl, Nat.le_of_ble_eq_true rfl⟩ hcs (nx_0 n2) k_119 (by decide) rfl hl.1 (Nat.le_of_ble_eq_true rfl) rfl dL_law_1352 (fun H locs hG hS => ?_)
  have hG : gW z M2 H := hG
  refine lv_icmp_eq (tgt := 2036) hx hb dL_law_1355 (by decide) (fun _ => ?_) (fun q => absurd rfl q)
  exact kk H locs hG hS
set_option maxRecDepth 20000 in
set_option maxHeartbeats 4000000 in
theorem lwc_31 (X : gX p m c cL_law 4 s #[.ref b] RL z) (hX : va_X b L xs s s.heap) (hbl : b < s.heap.size) (hbA : ¬ gA z b) (g1 : vp_in (i + 1) L) (g2 : vp_in (i + 2) L) (n1 : 0 + 119 ≤ gn z) (n2 : 119 + 59 ≤ gn z) (hcs : cells ≤ room_1.cells ∧ slots ≤ room_1.slots) (hG : gW z M H) (hS : va_S (gA z) s.heap H locs) (hl : lv_has ls 4 [(0, .ref b), (1, .ref (gad z 0)), (2, .ref (gad z 119)), (3, .int i)]) {r : Int32} (h1 : fX6_ring N M 0 (xs (i + 1).toNatClampNeg) (xs (i + 2).toNatClampNeg) = some (r, M1)) (h2 : fX7_ring N M1 119 (xs (i + 1).toNatClampNeg) (xs (i + 2).toNatClampNeg) = some (r, M2)) (kk : ∀ (H : Heap) (locs : List Loc), gW z M2 H → va_S (gA z) s.heap H locs → W p l e room_1 s m #[.ref b] below meth c H locs cells slots Q (F0 m 2036 ls [])) : W p l e room_1 s m #[.ref b] below meth c H locs cells slots Q (F0 m 1360 ls []) := by
  have hx := X.1
  have hb := X.2.1
  refine lv_aload_n hx hb dL_law_1360 rfl (lv_at hl 1 rfl) ?_
  refine lv_aload_n hx hb dL_law_1361 rfl (lv_at hl 0 rfl) ?_
  refine lv_iload_n hx hb dL_law_1362 rfl (lv_at hl 3 rfl) ?_
  refine lv_iconst (v := 1) hx hb dL_law_1363 (by decide) ?_
  refine lv_iadd hx hb dL_law_1364 ?_
  refine va_sld hx hb hX hbl hbA hS g1 dL_law_1365 ?_
  refine lv_aload_n hx hb dL_law_1366 rfl (lv_at hl 0 rfl) ?_
  refine lv_iload_n hx hb dL_law_1367 rfl (lv_at hl 3 rfl) ?_
  refine lv_iconst (v := 2) hx hb dL_law_1368 (by decide) ?_
  refine lv_iadd hx hb dL_law_1369 ?_
  refine va_sld hx hb hX hbl hbA hS g2 dL_law_1370 ?_
  refine g_cVI (a := 0) (ci := 6) (T := TX6) (N := 8) (av := [.int (xs (i + 1).toNatClampNeg), .int (xs (i + 2).toNatClampNeg)]) (rest := []) X hG hS (ct_X6_ring l z k_0 n1 h1) mt_X6_ring ml_L_148 rfl ⟨rfl, rfl, Nat.le_of_ble_eq_true rfl, Nat.le_of_ble_eq_true rfl⟩ hcs (nx_0 n1) k_0 (by decide) rfl hl.1 (Nat.le_of_ble_eq_true rfl) rfl dL_law_1371 (fun H locs hG hS => ?_)
  have hG : gW z M1 H := hG
  refine lv_aload_n hx hb dL_law_1374 rfl (lv_at hl 2 rfl) ?_
  refine lv_aload_n hx hb dL_law_1375 rfl (lv_at hl 0 rfl) ?_
  refine lv_iload_n hx hb dL_law_1376 rfl (lv_at hl 3 rfl) ?_
  refine lv_iconst (v := 1) hx hb dL_law_1377 (by decide) ?_
  refine lv_iadd hx hb dL_law_1378 ?_
  refine va_sld hx hb hX hbl hbA hS g1 dL_law_1379 ?_
  refine lv_aload_n hx hb dL_law_1380 rfl (lv_at hl 0 rfl) ?_
  refine lv_iload_n hx hb dL_law_1381 rfl (lv_at hl 3 rfl) ?_
  refine lv_iconst (v := 2) hx hb dL_law_1382 (by decide) ?_
  refine lv_iadd hx hb dL_law_1383 ?_
  refine va_sld hx hb hX hbl hbA hS g2 dL_law_1384 ?_
  refine g_cVI (a := 119) (ci := 7) (T := TX7) (N := 37) (av := [.int (xs (i + 1).toNatClampNeg), .int (xs (i + 2).toNatClampNeg)]) (rest := [.int r]) X hG hS (ct_X7_ring l z k_119 n2 h2) mt_X7_ring ml_L_151 rfl ⟨rfl, rfl, Nat.le_of_ble_eq_true rfl, Nat.le_of_ble_eq_true rfl⟩ hcs (nx_0 n2) k_119 (by decide) rfl hl.1 (Nat.le_of_ble_eq_true rfl) rfl dL_law_1385 (fun H locs hG hS => ?_)
  have hG : gW z M2 H := hG
  refine lv_icmp_eq (tgt := 2036) hx hb dL_law_1388 (by decide) (fun _ => ?_) (fun q => absurd rfl q)
  exact kk H locs hG hS
set_option maxRecDepth 20000 in
set_option maxHeartbeats 4000000 in
theorem lwc_32 (X : gX p m c cL_law 4 s #[.ref b] RL z) (hX : va_X b L xs s s.heap) (hbl : b < s.heap.size) (hbA : ¬ gA z b) (g1 : vp_in (i + 1) L) (g2 : vp_in (i + 2) L) (g3 : vp_in (i + 3) L) (n1 : 0 + 119 ≤ gn z) (n2 : 119 + 59 ≤ gn z) (hcs : cells ≤ room_1.cells ∧ slots ≤ room_1.slots) (hG : gW z M H) (hS : va_S (gA z) s.heap H locs) (hl : lv_has ls 4 [(0, .ref b), (1, .ref (gad z 0)), (2, .ref (gad z 119)), (3, .int i)]) {r : Int32} (h1 : fX6_lot N M 0 (xs (i + 1).toNatClampNeg) (xs (i + 2).toNatClampNeg) (xs (i + 3).toNatClampNeg) = some (r, M1)) (h2 : fX7_lot N M1 119 (xs (i + 1).toNatClampNeg) (xs (i + 2).toNatClampNeg) (xs (i + 3).toNatClampNeg) = some (r, M2)) (kk : ∀ (H : Heap) (locs : List Loc), gW z M2 H → va_S (gA z) s.heap H locs → W p l e room_1 s m #[.ref b] below meth c H locs cells slots Q (F0 m 2036 ls [])) : W p l e room_1 s m #[.ref b] below meth c H locs cells slots Q (F0 m 1393 ls []) := by
  have hx := X.1
  have hb := X.2.1
  refine lv_aload_n hx hb dL_law_1393 rfl (lv_at hl 1 rfl) ?_
  refine lv_aload_n hx hb dL_law_1394 rfl (lv_at hl 0 rfl) ?_
  refine lv_iload_n hx hb dL_law_1395 rfl (lv_at hl 3 rfl) ?_
  refine lv_iconst (v := 1) hx hb dL_law_1396 (by decide) ?_
  refine lv_iadd hx hb dL_law_1397 ?_
  refine va_sld hx hb hX hbl hbA hS g1 dL_law_1398 ?_
  refine lv_aload_n hx hb dL_law_1399 rfl (lv_at hl 0 rfl) ?_
  refine lv_iload_n hx hb dL_law_1400 rfl (lv_at hl 3 rfl) ?_
  refine lv_iconst (v := 2) hx hb dL_law_1401 (by decide) ?_
  refine lv_iadd hx hb dL_law_1402 ?_
  refine va_sld hx hb hX hbl hbA hS g2 dL_law_1403 ?_
  refine lv_aload_n hx hb dL_law_1404 rfl (lv_at hl 0 rfl) ?_
  refine lv_iload_n hx hb dL_law_1405 rfl (lv_at hl 3 rfl) ?_
  refine lv_iconst (v := 3) hx hb dL_law_1406 (by decide) ?_
  refine lv_iadd hx hb dL_law_1407 ?_
  refine va_sld hx hb hX hbl hbA hS g3 dL_law_1408 ?_
  refine g_cVI (a := 0) (ci := 6) (T := TX6) (N := 8) (av := [.int (xs (i + 1).toNatClampNeg), .int (xs (i + 2).toNatClampNeg), .int (xs (i + 3).toNatClampNeg)]) (rest := []) X hG hS (ct_X6_lot l z k_0 n1 h1) mt_X6_lot ml_L_152 rfl ⟨rfl, rfl, Nat.le_of_ble_eq_true rfl, Nat.le_of_ble_eq_true rfl⟩ hcs (nx_0 n1) k_0 (by decide) rfl hl.1 (Nat.le_of_ble_eq_true rfl) rfl dL_law_1409 (fun H locs hG hS => ?_)
  have hG : gW z M1 H := hG
  refine lv_aload_n hx hb dL_law_1412 rfl (lv_at hl 2 rfl) ?_
  refine lv_aload_n hx hb dL_law_1413 rfl (lv_at hl 0 rfl) ?_
  refine lv_iload_n hx hb dL_law_1414 rfl (lv_at hl 3 rfl) ?_
  refine lv_iconst (v := 1) hx hb dL_law_1415 (by decide) ?_
  refine lv_iadd hx hb dL_law_1416 ?_
  refine va_sld hx hb hX hbl hbA hS g1 dL_law_1417 ?_
  refine lv_aload_n hx hb dL_law_1418 rfl (lv_at hl 0 rfl) ?_
  refine lv_iload_n hx hb dL_law_1419 rfl (lv_at hl 3 rfl) ?_
  refine lv_iconst (v := 2) hx hb dL_law_1420 (by decide) ?_
  refine lv_iadd hx hb dL_law_1421 ?_
  refine va_sld hx hb hX hbl hbA hS g2 dL_law_1422 ?_
  refine lv_aload_n hx hb dL_law_1423 rfl (lv_at hl 0 rfl) ?_
  refine lv_iload_n hx hb dL_law_1424 rfl (lv_at hl 3 rfl) ?_
  refine lv_iconst (v := 3) hx hb dL_law_1425 (by decide) ?_
  refine lv_iadd hx hb dL_law_1426 ?_
  refine va_sld hx hb hX hbl hbA hS g3 dL_law_1427 ?_
  refine g_cVI (a := 119) (ci := 7) (T := TX7) (N := 37) (av := [.int (xs (i + 1).toNatClampNeg), .int (xs (i + 2).toNatClampNeg), .int (xs (i + 3).toNatClampNeg)]) (rest := [.int r]) X hG hS (ct_X7_lot l z k_119 n2 h2) mt_X7_lot ml_L_155 rfl ⟨rfl, rfl, Nat.le_of_ble_eq_true rfl, Nat.le_of_ble_eq_true rfl⟩ hcs (nx_0 n2) k_119 (by decide) rfl hl.1 (Nat.le_of_ble_eq_true rfl) rfl dL_law_1428 (fun H locs hG hS => ?_)
  have hG : gW z M2 H := hG
  refine lv_icmp_eq (tgt := 2036) hx hb dL_law_1431 (by decide) (fun _ => ?_) (fun q => absurd rfl q)
  exact kk H locs hG hS
set_option maxRecDepth 20000 in
set_option maxHeartbeats 4000000 in
theorem lwc_33 (X : gX p m c cL_law 4 s #[.ref b] RL z) (hX : va_X b L xs s s.heap) (hbl : b < s.heap.size) (hbA : ¬ gA z b) (g1 : vp_in (i + 1) L) (g2 : vp_in (i + 2) L) (g3 : vp_in (i + 3) L) (n1 : 0 + 119 ≤ gn z) (n2 : 119 + 59 ≤ gn z) (hcs : cells ≤ room_1.cells ∧ slots ≤ room_1.slots) (hG : gW z M H) (hS : va_S (gA z) s.heap H locs) (hl : lv_has ls 4 [(0, .ref b), (1, .ref (gad z 0)), (2, .ref (gad z 119)), (3, .int i)]) {r : Int32} (h1 : fX6_nobody N M 0 (xs (i + 1).toNatClampNeg) (xs (i + 2).toNatClampNeg) (xs (i + 3).toNatClampNeg) = some (r, M1)) (h2 : fX7_nobody N M1 119 (xs (i + 1).toNatClampNeg) (xs (i + 2).toNatClampNeg) (xs (i + 3).toNatClampNeg) = some (r, M2)) (kk : ∀ (H : Heap) (locs : List Loc), gW z M2 H → va_S (gA z) s.heap H locs → W p l e room_1 s m #[.ref b] below meth c H locs cells slots Q (F0 m 2036 ls [])) : W p l e room_1 s m #[.ref b] below meth c H locs cells slots Q (F0 m 1436 ls []) := by
  have hx := X.1
  have hb := X.2.1
  refine lv_aload_n hx hb dL_law_1436 rfl (lv_at hl 1 rfl) ?_
  refine lv_aload_n hx hb dL_law_1437 rfl (lv_at hl 0 rfl) ?_
  refine lv_iload_n hx hb dL_law_1438 rfl (lv_at hl 3 rfl) ?_
  refine lv_iconst (v := 1) hx hb dL_law_1439 (by decide) ?_
  refine lv_iadd hx hb dL_law_1440 ?_
  refine va_sld hx hb hX hbl hbA hS g1 dL_law_1441 ?_
  refine lv_aload_n hx hb dL_law_1442 rfl (lv_at hl 0 rfl) ?_
  refine lv_iload_n hx hb dL_law_1443 rfl (lv_at hl 3 rfl) ?_
  refine lv_iconst (v := 2) hx hb dL_law_1444 (by decide) ?_
  refine lv_iadd hx hb dL_law_1445 ?_
  refine va_sld hx hb hX hbl hbA hS g2 dL_law_1446 ?_
  refine lv_aload_n hx hb dL_law_1447 rfl (lv_at hl 0 rfl) ?_
  refine lv_iload_n hx hb dL_law_1448 rfl (lv_at hl 3 rfl) ?_
  refine lv_iconst (v := 3) hx hb dL_law_1449 (by decide) ?_
  refine lv_iadd hx hb dL_law_1450 ?_
  refine va_sld hx hb hX hbl hbA hS g3 dL_law_1451 ?_
  refine g_cVI (a := 0) (ci := 6) (T := TX6) (N := 8) (av := [.int (xs (i + 1).toNatClampNeg), .int (xs (i + 2).toNatClampNeg), .int (xs (i + 3).toNatClampNeg)]) (rest := []) X hG hS (ct_X6_nobody l z k_0 n1 h1) mt_X6_nobody ml_L_156 rfl ⟨rfl, rfl, Nat.le_of_ble_eq_true rfl, Nat.le_of_ble_eq_true rfl⟩ hcs (nx_0 n1) k_0 (by decide) rfl hl.1 (Nat.le_of_ble_eq_true rfl) rfl dL_law_1452 (fun H locs hG hS => ?_)
  have hG : gW z M1 H := hG
  refine lv_aload_n hx hb dL_law_1455 rfl (lv_at hl 2 rfl) ?_
  refine lv_aload_n hx hb dL_law_1456 rfl (lv_at hl 0 rfl) ?_
  refine lv_iload_n hx hb dL_law_1457 rfl (lv_at hl 3 rfl) ?_
  refine lv_iconst (v := 1) hx hb dL_law_1458 (by decide) ?_
  refine lv_iadd hx hb dL_law_1459 ?_
  refine va_sld hx hb hX hbl hbA hS g1 dL_law_1460 ?_
  refine lv_aload_n hx hb dL_law_1461 rfl (lv_at hl 0 rfl) ?_
  refine lv_iload_n hx hb dL_law_1462 rfl (lv_at hl 3 rfl) ?_
  refine lv_iconst (v := 2) hx hb dL_law_1463 (by decide) ?_
  refine lv_iadd hx hb dL_law_1464 ?_
  refine va_sld hx hb hX hbl hbA hS g2 dL_law_1465 ?_
  refine lv_aload_n hx hb dL_law_1466 rfl (lv_at hl 0 rfl) ?_
  refine lv_iload_n hx hb dL_law_1467 rfl (lv_at hl 3 rfl) ?_
  refine lv_iconst (v := 3) hx hb dL_law_1468 (by decide) ?_
  refine lv_iadd hx hb dL_law_1469 ?_
  refine va_sld hx hb hX hbl hbA hS g3 dL_law_1470 ?_
  refine g_cVI (a := 119) (ci := 7) (T := TX7) (N := 37) (av := [.int (xs (i + 1).toNatClampNeg), .int (xs (i + 2).toNatClampNeg), .int (xs (i + 3).toNatClampNeg)]) (rest := [.int r]) X hG hS (ct_X7_nobody l z k_119 n2 h2) mt_X7_nobody ml_L_159 rfl ⟨rfl, rfl, Nat.le_of_ble_eq_true rfl, Nat.le_of_ble_eq_true rfl⟩ hcs (nx_0 n2) k_119 (by decide) rfl hl.1 (Nat.le_of_ble_eq_true rfl) rfl dL_law_1471 (fun H locs hG hS => ?_)
  have hG : gW z M2 H := hG
  refine lv_icmp_eq (tgt := 2036) hx hb dL_law_1474 (by decide) (fun _ => ?_) (fun q => absurd rfl q)
  exact kk H locs hG hS
set_option maxRecDepth 20000 in
set_option maxHeartbeats 4000000 in
theorem lwc_34 (X : gX p m c cL_law 4 s #[.ref b] RL z) (hX : va_X b L xs s s.heap) (hbl : b < s.heap.size) (hbA : ¬ gA z b) (g1 : vp_in (i + 1) L) (g2 : vp_in (i + 2) L) (n1 : 0 + 119 ≤ gn z) (n2 : 119 + 59 ≤ gn z) (hcs : cells ≤ room_1.cells ∧ slots ≤ room_1.slots) (hG : gW z M H) (hS : va_S (gA z) s.heap H locs) (hl : lv_has ls 4 [(0, .ref b), (1, .ref (gad z 0)), (2, .ref (gad z 119)), (3, .int i)]) {r : Int32} (h1 : fX6_know N M 0 (xs (i + 1).toNatClampNeg) (xs (i + 2).toNatClampNeg) = some (r, M1)) (h2 : fX7_know N M1 119 (xs (i + 1).toNatClampNeg) (xs (i + 2).toNatClampNeg) = some (r, M2)) (kk : ∀ (H : Heap) (locs : List Loc), gW z M2 H → va_S (gA z) s.heap H locs → W p l e room_1 s m #[.ref b] below meth c H locs cells slots Q (F0 m 2036 ls [])) : W p l e room_1 s m #[.ref b] below meth c H locs cells slots Q (F0 m 1479 ls []) := by
  have hx := X.1
  have hb := X.2.1
  refine lv_aload_n hx hb dL_law_1479 rfl (lv_at hl 1 rfl) ?_
  refine lv_aload_n hx hb dL_law_1480 rfl (lv_at hl 0 rfl) ?_
  refine lv_iload_n hx hb dL_law_1481 rfl (lv_at hl 3 rfl) ?_
  refine lv_iconst (v := 1) hx hb dL_law_1482 (by decide) ?_
  refine lv_iadd hx hb dL_law_1483 ?_
  refine va_sld hx hb hX hbl hbA hS g1 dL_law_1484 ?_
  refine lv_aload_n hx hb dL_law_1485 rfl (lv_at hl 0 rfl) ?_
  refine lv_iload_n hx hb dL_law_1486 rfl (lv_at hl 3 rfl) ?_
  refine lv_iconst (v := 2) hx hb dL_law_1487 (by decide) ?_
  refine lv_iadd hx hb dL_law_1488 ?_
  refine va_sld hx hb hX hbl hbA hS g2 dL_law_1489 ?_
  refine g_cVI (a := 0) (ci := 6) (T := TX6) (N := 8) (av := [.int (xs (i + 1).toNatClampNeg), .int (xs (i + 2).toNatClampNeg)]) (rest := []) X hG hS (ct_X6_know l z k_0 n1 h1) mt_X6_know ml_L_160 rfl ⟨rfl, rfl, Nat.le_of_ble_eq_true rfl, Nat.le_of_ble_eq_true rfl⟩ hcs (nx_0 n1) k_0 (by decide) rfl hl.1 (Nat.le_of_ble_eq_true rfl) rfl dL_law_1490 (fun H locs hG hS => ?_)
  have hG : gW z M1 H := hG
  refine lv_aload_n hx hb dL_law_1493 rfl (lv_at hl 2 rfl) ?_
  refine lv_aload_n hx hb dL_law_1494 rfl (lv_at hl 0 rfl) ?_
  refine lv_iload_n hx hb dL_law_1495 rfl (lv_at hl 3 rfl) ?_
  refine lv_iconst (v := 1) hx hb dL_law_1496 (by decide) ?_
  refine lv_iadd hx hb dL_law_1497 ?_
  refine va_sld hx hb hX hbl hbA hS g1 dL_law_1498 ?_
  refine lv_aload_n hx hb dL_law_1499 rfl (lv_at hl 0 rfl) ?_
  refine lv_iload_n hx hb dL_law_1500 rfl (lv_at hl 3 rfl) ?_
  refine lv_iconst (v := 2) hx hb dL_law_1501 (by decide) ?_
  refine lv_iadd hx hb dL_law_1502 ?_
  refine va_sld hx hb hX hbl hbA hS g2 dL_law_1503 ?_
  refine g_cVI (a := 119) (ci := 7) (T := TX7) (N := 37) (av := [.int (xs (i + 1).toNatClampNeg), .int (xs (i + 2).toNatClampNeg)]) (rest := [.int r]) X hG hS (ct_X7_know l z k_119 n2 h2) mt_X7_know ml_L_163 rfl ⟨rfl, rfl, Nat.le_of_ble_eq_true rfl, Nat.le_of_ble_eq_true rfl⟩ hcs (nx_0 n2) k_119 (by decide) rfl hl.1 (Nat.le_of_ble_eq_true rfl) rfl dL_law_1504 (fun H locs hG hS => ?_)
  have hG : gW z M2 H := hG
  refine lv_icmp_eq (tgt := 2036) hx hb dL_law_1507 (by decide) (fun _ => ?_) (fun q => absurd rfl q)
  exact kk H locs hG hS
set_option maxRecDepth 20000 in
set_option maxHeartbeats 4000000 in
theorem lwc_35 (X : gX p m c cL_law 4 s #[.ref b] RL z) (hX : va_X b L xs s s.heap) (hbl : b < s.heap.size) (hbA : ¬ gA z b) (g1 : vp_in (i + 1) L) (g2 : vp_in (i + 2) L) (n1 : 0 + 119 ≤ gn z) (n2 : 119 + 59 ≤ gn z) (hcs : cells ≤ room_1.cells ∧ slots ≤ room_1.slots) (hG : gW z M H) (hS : va_S (gA z) s.heap H locs) (hl : lv_has ls 4 [(0, .ref b), (1, .ref (gad z 0)), (2, .ref (gad z 119)), (3, .int i)]) {r : Int32} (h1 : fX6_bar N M 0 (xs (i + 1).toNatClampNeg) (xs (i + 2).toNatClampNeg) = some (r, M1)) (h2 : fX7_bar N M1 119 (xs (i + 1).toNatClampNeg) (xs (i + 2).toNatClampNeg) = some (r, M2)) (kk : ∀ (H : Heap) (locs : List Loc), gW z M2 H → va_S (gA z) s.heap H locs → W p l e room_1 s m #[.ref b] below meth c H locs cells slots Q (F0 m 2036 ls [])) : W p l e room_1 s m #[.ref b] below meth c H locs cells slots Q (F0 m 1512 ls []) := by
  have hx := X.1
  have hb := X.2.1
  refine lv_aload_n hx hb dL_law_1512 rfl (lv_at hl 1 rfl) ?_
  refine lv_aload_n hx hb dL_law_1513 rfl (lv_at hl 0 rfl) ?_
  refine lv_iload_n hx hb dL_law_1514 rfl (lv_at hl 3 rfl) ?_
  refine lv_iconst (v := 1) hx hb dL_law_1515 (by decide) ?_
  refine lv_iadd hx hb dL_law_1516 ?_
  refine va_sld hx hb hX hbl hbA hS g1 dL_law_1517 ?_
  refine lv_aload_n hx hb dL_law_1518 rfl (lv_at hl 0 rfl) ?_
  refine lv_iload_n hx hb dL_law_1519 rfl (lv_at hl 3 rfl) ?_
  refine lv_iconst (v := 2) hx hb dL_law_1520 (by decide) ?_
  refine lv_iadd hx hb dL_law_1521 ?_
  refine va_sld hx hb hX hbl hbA hS g2 dL_law_1522 ?_
  refine g_cVI (a := 0) (ci := 6) (T := TX6) (N := 8) (av := [.int (xs (i + 1).toNatClampNeg), .int (xs (i + 2).toNatClampNeg)]) (rest := []) X hG hS (ct_X6_bar l z k_0 n1 h1) mt_X6_bar ml_L_164 rfl ⟨rfl, rfl, Nat.le_of_ble_eq_true rfl, Nat.le_of_ble_eq_true rfl⟩ hcs (nx_0 n1) k_0 (by decide) rfl hl.1 (Nat.le_of_ble_eq_true rfl) rfl dL_law_1523 (fun H locs hG hS => ?_)
  have hG : gW z M1 H := hG
  refine lv_aload_n hx hb dL_law_1526 rfl (lv_at hl 2 rfl) ?_
  refine lv_aload_n hx hb dL_law_1527 rfl (lv_at hl 0 rfl) ?_
  refine lv_iload_n hx hb dL_law_1528 rfl (lv_at hl 3 rfl) ?_
  refine lv_iconst (v := 1) hx hb dL_law_1529 (by decide) ?_
  refine lv_iadd hx hb dL_law_1530 ?_
  refine va_sld hx hb hX hbl hbA hS g1 dL_law_1531 ?_
  refine lv_aload_n hx hb dL_law_1532 rfl (lv_at hl 0 rfl) ?_
  refine lv_iload_n hx hb dL_law_1533 rfl (lv_at hl 3 rfl) ?_
  refine lv_iconst (v := 2) hx hb dL_law_1534 (by decide) ?_
  refine lv_iadd hx hb dL_law_1535 ?_
  refine va_sld hx hb hX hbl hbA hS g2 dL_law_1536 ?_
  refine g_cVI (a := 119) (ci := 7) (T := TX7) (N := 37) (av := [.int (xs (i + 1).toNatClampNeg), .int (xs (i + 2).toNatClampNeg)]) (rest := [.int r]) X hG hS (ct_X7_bar l z k_119 n2 h2) mt_X7_bar ml_L_167 rfl ⟨rfl, rfl, Nat.le_of_ble_eq_true rfl, Nat.le_of_ble_eq_true rfl⟩ hcs (nx_0 n2) k_119 (by decide) rfl hl.1 (Nat.le_of_ble_eq_true rfl) rfl dL_law_1537 (fun H locs hG hS => ?_)
  have hG : gW z M2 H := hG
  refine lv_icmp_eq (tgt := 2036) hx hb dL_law_1540 (by decide) (fun _ => ?_) (fun q => absurd rfl q)
  exact kk H locs hG hS
set_option maxRecDepth 20000 in
set_option maxHeartbeats 4000000 in
theorem lwc_36 (X : gX p m c cL_law 4 s #[.ref b] RL z) (hX : va_X b L xs s s.heap) (hbl : b < s.heap.size) (hbA : ¬ gA z b) (g1 : vp_in (i + 1) L) (g2 : vp_in (i + 2) L) (n1 : 0 + 119 ≤ gn z) (n2 : 119 + 59 ≤ gn z) (hcs : cells ≤ room_1.cells ∧ slots ≤ room_1.slots) (hG : gW z M H) (hS : va_S (gA z) s.heap H locs) (hl : lv_has ls 4 [(0, .ref b), (1, .ref (gad z 0)), (2, .ref (gad z 119)), (3, .int i)]) {r : Int32} (h1 : fX6_cuts N M 0 (xs (i + 1).toNatClampNeg) (xs (i + 2).toNatClampNeg) = some (r, M1)) (h2 : fX7_cuts N M1 119 (xs (i + 1).toNatClampNeg) (xs (i + 2).toNatClampNeg) = some (r, M2)) (kk : ∀ (H : Heap) (locs : List Loc), gW z M2 H → va_S (gA z) s.heap H locs → W p l e room_1 s m #[.ref b] below meth c H locs cells slots Q (F0 m 2036 ls [])) : W p l e room_1 s m #[.ref b] below meth c H locs cells slots Q (F0 m 1545 ls []) := by
  have hx := X.1
  have hb := X.2.1
  refine lv_aload_n hx hb dL_law_1545 rfl (lv_at hl 1 rfl) ?_
  refine lv_aload_n hx hb dL_law_1546 rfl (lv_at hl 0 rfl) ?_
  refine lv_iload_n hx hb dL_law_1547 rfl (lv_at hl 3 rfl) ?_
  refine lv_iconst (v := 1) hx hb dL_law_1548 (by decide) ?_
  refine lv_iadd hx hb dL_law_1549 ?_
  refine va_sld hx hb hX hbl hbA hS g1 dL_law_1550 ?_
  refine lv_aload_n hx hb dL_law_1551 rfl (lv_at hl 0 rfl) ?_
  refine lv_iload_n hx hb dL_law_1552 rfl (lv_at hl 3 rfl) ?_
  refine lv_iconst (v := 2) hx hb dL_law_1553 (by decide) ?_
  refine lv_iadd hx hb dL_law_1554 ?_
  refine va_sld hx hb hX hbl hbA hS g2 dL_law_1555 ?_
  refine g_cVI (a := 0) (ci := 6) (T := TX6) (N := 8) (av := [.int (xs (i + 1).toNatClampNeg), .int (xs (i + 2).toNatClampNeg)]) (rest := []) X hG hS (ct_X6_cuts l z k_0 n1 h1) mt_X6_cuts ml_L_168 rfl ⟨rfl, rfl, Nat.le_of_ble_eq_true rfl, Nat.le_of_ble_eq_true rfl⟩ hcs (nx_0 n1) k_0 (by decide) rfl hl.1 (Nat.le_of_ble_eq_true rfl) rfl dL_law_1556 (fun H locs hG hS => ?_)
  have hG : gW z M1 H := hG
  refine lv_aload_n hx hb dL_law_1559 rfl (lv_at hl 2 rfl) ?_
  refine lv_aload_n hx hb dL_law_1560 rfl (lv_at hl 0 rfl) ?_
  refine lv_iload_n hx hb dL_law_1561 rfl (lv_at hl 3 rfl) ?_
  refine lv_iconst (v := 1) hx hb dL_law_1562 (by decide) ?_
  refine lv_iadd hx hb dL_law_1563 ?_
  refine va_sld hx hb hX hbl hbA hS g1 dL_law_1564 ?_
  refine lv_aload_n hx hb dL_law_1565 rfl (lv_at hl 0 rfl) ?_
  refine lv_iload_n hx hb dL_law_1566 rfl (lv_at hl 3 rfl) ?_
  refine lv_iconst (v := 2) hx hb dL_law_1567 (by decide) ?_
  refine lv_iadd hx hb dL_law_1568 ?_
  refine va_sld hx hb hX hbl hbA hS g2 dL_law_1569 ?_
  refine g_cVI (a := 119) (ci := 7) (T := TX7) (N := 37) (av := [.int (xs (i + 1).toNatClampNeg), .int (xs (i + 2).toNatClampNeg)]) (rest := [.int r]) X hG hS (ct_X7_cuts l z k_119 n2 h2) mt_X7_cuts ml_L_171 rfl ⟨rfl, rfl, Nat.le_of_ble_eq_true rfl, Nat.le_of_ble_eq_true rfl⟩ hcs (nx_0 n2) k_119 (by decide) rfl hl.1 (Nat.le_of_ble_eq_true rfl) rfl dL_law_1570 (fun H locs hG hS => ?_)
  have hG : gW z M2 H := hG
  refine lv_icmp_eq (tgt := 2036) hx hb dL_law_1573 (by decide) (fun _ => ?_) (fun q => absurd rfl q)
  exact kk H locs hG hS
set_option maxRecDepth 20000 in
set_option maxHeartbeats 4000000 in
theorem lwc_37 (X : gX p m c cL_law 4 s #[.ref b] RL z) (hX : va_X b L xs s s.heap) (hbl : b < s.heap.size) (hbA : ¬ gA z b) (g1 : vp_in (i + 1) L) (g2 : vp_in (i + 2) L) (g3 : vp_in (i + 3) L) (n1 : 0 + 119 ≤ gn z) (n2 : 119 + 59 ≤ gn z) (hcs : cells ≤ room_1.cells ∧ slots ≤ room_1.slots) (hG : gW z M H) (hS : va_S (gA z) s.heap H locs) (hl : lv_has ls 4 [(0, .ref b), (1, .ref (gad z 0)), (2, .ref (gad z 119)), (3, .int i)]) {r : Int32} (h1 : fX6_adds N M 0 (xs (i + 1).toNatClampNeg) (xs (i + 2).toNatClampNeg) (xs (i + 3).toNatClampNeg) = some (r, M1)) (h2 : fX7_adds N M1 119 (xs (i + 1).toNatClampNeg) (xs (i + 2).toNatClampNeg) (xs (i + 3).toNatClampNeg) = some (r, M2)) (kk : ∀ (H : Heap) (locs : List Loc), gW z M2 H → va_S (gA z) s.heap H locs → W p l e room_1 s m #[.ref b] below meth c H locs cells slots Q (F0 m 2036 ls [])) : W p l e room_1 s m #[.ref b] below meth c H locs cells slots Q (F0 m 1578 ls []) := by
  have hx := X.1
  have hb := X.2.1
  refine lv_aload_n hx hb dL_law_1578 rfl (lv_at hl 1 rfl) ?_
  refine lv_aload_n hx hb dL_law_1579 rfl (lv_at hl 0 rfl) ?_
  refine lv_iload_n hx hb dL_law_1580 rfl (lv_at hl 3 rfl) ?_
  refine lv_iconst (v := 1) hx hb dL_law_1581 (by decide) ?_
  refine lv_iadd hx hb dL_law_1582 ?_
  refine va_sld hx hb hX hbl hbA hS g1 dL_law_1583 ?_
  refine lv_aload_n hx hb dL_law_1584 rfl (lv_at hl 0 rfl) ?_
  refine lv_iload_n hx hb dL_law_1585 rfl (lv_at hl 3 rfl) ?_
  refine lv_iconst (v := 2) hx hb dL_law_1586 (by decide) ?_
  refine lv_iadd hx hb dL_law_1587 ?_
  refine va_sld hx hb hX hbl hbA hS g2 dL_law_1588 ?_
  refine lv_aload_n hx hb dL_law_1589 rfl (lv_at hl 0 rfl) ?_
  refine lv_iload_n hx hb dL_law_1590 rfl (lv_at hl 3 rfl) ?_
  refine lv_iconst (v := 3) hx hb dL_law_1591 (by decide) ?_
  refine lv_iadd hx hb dL_law_1592 ?_
  refine va_sld hx hb hX hbl hbA hS g3 dL_law_1593 ?_
  refine g_cVI (a := 0) (ci := 6) (T := TX6) (N := 8) (av := [.int (xs (i + 1).toNatClampNeg), .int (xs (i + 2).toNatClampNeg), .int (xs (i + 3).toNatClampNeg)]) (rest := []) X hG hS (ct_X6_adds l z k_0 n1 h1) mt_X6_adds ml_L_172 rfl ⟨rfl, rfl, Nat.le_of_ble_eq_true rfl, Nat.le_of_ble_eq_true rfl⟩ hcs (nx_0 n1) k_0 (by decide) rfl hl.1 (Nat.le_of_ble_eq_true rfl) rfl dL_law_1594 (fun H locs hG hS => ?_)
  have hG : gW z M1 H := hG
  refine lv_aload_n hx hb dL_law_1597 rfl (lv_at hl 2 rfl) ?_
  refine lv_aload_n hx hb dL_law_1598 rfl (lv_at hl 0 rfl) ?_
  refine lv_iload_n hx hb dL_law_1599 rfl (lv_at hl 3 rfl) ?_
  refine lv_iconst (v := 1) hx hb dL_law_1600 (by decide) ?_
  refine lv_iadd hx hb dL_law_1601 ?_
  refine va_sld hx hb hX hbl hbA hS g1 dL_law_1602 ?_
  refine lv_aload_n hx hb dL_law_1603 rfl (lv_at hl 0 rfl) ?_
  refine lv_iload_n hx hb dL_law_1604 rfl (lv_at hl 3 rfl) ?_
  refine lv_iconst (v := 2) hx hb dL_law_1605 (by decide) ?_
  refine lv_iadd hx hb dL_law_1606 ?_
  refine va_sld hx hb hX hbl hbA hS g2 dL_law_1607 ?_
  refine lv_aload_n hx hb dL_law_1608 rfl (lv_at hl 0 rfl) ?_
  refine lv_iload_n hx hb dL_law_1609 rfl (lv_at hl 3 rfl) ?_
  refine lv_iconst (v := 3) hx hb dL_law_1610 (by decide) ?_
  refine lv_iadd hx hb dL_law_1611 ?_
  refine va_sld hx hb hX hbl hbA hS g3 dL_law_1612 ?_
  refine g_cVI (a := 119) (ci := 7) (T := TX7) (N := 37) (av := [.int (xs (i + 1).toNatClampNeg), .int (xs (i + 2).toNatClampNeg), .int (xs (i + 3).toNatClampNeg)]) (rest := [.int r]) X hG hS (ct_X7_adds l z k_119 n2 h2) mt_X7_adds ml_L_175 rfl ⟨rfl, rfl, Nat.le_of_ble_eq_true rfl, Nat.le_of_ble_eq_true rfl⟩ hcs (nx_0 n2) k_119 (by decide) rfl hl.1 (Nat.le_of_ble_eq_true rfl) rfl dL_law_1613 (fun H locs hG hS => ?_)
  have hG : gW z M2 H := hG
  refine lv_icmp_eq (tgt := 2036) hx hb dL_law_1616 (by decide) (fun _ => ?_) (fun q => absurd rfl q)
  exact kk H locs hG hS
set_option maxRecDepth 20000 in
set_option maxHeartbeats 4000000 in
theorem lwc_38 (X : gX p m c cL_law 4 s #[.ref b] RL z) (hX : va_X b L xs s s.heap) (hbl : b < s.heap.size) (hbA : ¬ gA z b) (g1 : vp_in (i + 1) L) (n1 : 0 + 119 ≤ gn z) (n2 : 119 + 59 ≤ gn z) (hcs : cells ≤ room_1.cells ∧ slots ≤ room_1.slots) (hG : gW z M H) (hS : va_S (gA z) s.heap H locs) (hl : lv_has ls 4 [(0, .ref b), (1, .ref (gad z 0)), (2, .ref (gad z 119)), (3, .int i)]) {r : Int32} (h1 : fX6_less N M 0 (xs (i + 1).toNatClampNeg) = some (r, M1)) (h2 : fX7_less N M1 119 (xs (i + 1).toNatClampNeg) = some (r, M2)) (kk : ∀ (H : Heap) (locs : List Loc), gW z M2 H → va_S (gA z) s.heap H locs → W p l e room_1 s m #[.ref b] below meth c H locs cells slots Q (F0 m 2036 ls [])) : W p l e room_1 s m #[.ref b] below meth c H locs cells slots Q (F0 m 1621 ls []) := by
  have hx := X.1
  have hb := X.2.1
  refine lv_aload_n hx hb dL_law_1621 rfl (lv_at hl 1 rfl) ?_
  refine lv_aload_n hx hb dL_law_1622 rfl (lv_at hl 0 rfl) ?_
  refine lv_iload_n hx hb dL_law_1623 rfl (lv_at hl 3 rfl) ?_
  refine lv_iconst (v := 1) hx hb dL_law_1624 (by decide) ?_
  refine lv_iadd hx hb dL_law_1625 ?_
  refine va_sld hx hb hX hbl hbA hS g1 dL_law_1626 ?_
  refine g_cVI (a := 0) (ci := 6) (T := TX6) (N := 8) (av := [.int (xs (i + 1).toNatClampNeg)]) (rest := []) X hG hS (ct_X6_less l z k_0 n1 h1) mt_X6_less ml_L_176 rfl ⟨rfl, rfl, Nat.le_of_ble_eq_true rfl, Nat.le_of_ble_eq_true rfl⟩ hcs (nx_0 n1) k_0 (by decide) rfl hl.1 (Nat.le_of_ble_eq_true rfl) rfl dL_law_1627 (fun H locs hG hS => ?_)
  have hG : gW z M1 H := hG
  refine lv_aload_n hx hb dL_law_1630 rfl (lv_at hl 2 rfl) ?_
  refine lv_aload_n hx hb dL_law_1631 rfl (lv_at hl 0 rfl) ?_
  refine lv_iload_n hx hb dL_law_1632 rfl (lv_at hl 3 rfl) ?_
  refine lv_iconst (v := 1) hx hb dL_law_1633 (by decide) ?_
  refine lv_iadd hx hb dL_law_1634 ?_
  refine va_sld hx hb hX hbl hbA hS g1 dL_law_1635 ?_
  refine g_cVI (a := 119) (ci := 7) (T := TX7) (N := 37) (av := [.int (xs (i + 1).toNatClampNeg)]) (rest := [.int r]) X hG hS (ct_X7_less l z k_119 n2 h2) mt_X7_less ml_L_179 rfl ⟨rfl, rfl, Nat.le_of_ble_eq_true rfl, Nat.le_of_ble_eq_true rfl⟩ hcs (nx_0 n2) k_119 (by decide) rfl hl.1 (Nat.le_of_ble_eq_true rfl) rfl dL_law_1636 (fun H locs hG hS => ?_)
  have hG : gW z M2 H := hG
  refine lv_icmp_eq (tgt := 2036) hx hb dL_law_1639 (by decide) (fun _ => ?_) (fun q => absurd rfl q)
  exact kk H locs hG hS
set_option maxRecDepth 20000 in
set_option maxHeartbeats 4000000 in
theorem lwc_39 (X : gX p m c cL_law 4 s #[.ref b] RL z) (hX : va_X b L xs s s.heap) (hbl : b < s.heap.size) (hbA : ¬ gA z b) (g1 : vp_in (i + 1) L) (g2 : vp_in (i + 2) L) (g3 : vp_in (i + 3) L) (n1 : 0 + 119 ≤ gn z) (n2 : 119 + 59 ≤ gn z) (hcs : cells ≤ room_1.cells ∧ slots ≤ room_1.slots) (hG : gW z M H) (hS : va_S (gA z) s.heap H locs) (hl : lv_has ls 4 [(0, .ref b), (1, .ref (gad z 0)), (2, .ref (gad z 119)), (3, .int i)]) {r : Int32} (h1 : fX6_need N M 0 (xs (i + 1).toNatClampNeg) (xs (i + 2).toNatClampNeg) (xs (i + 3).toNatClampNeg) = some (r, M1)) (h2 : fX7_need N M1 119 (xs (i + 1).toNatClampNeg) (xs (i + 2).toNatClampNeg) (xs (i + 3).toNatClampNeg) = some (r, M2)) (kk : ∀ (H : Heap) (locs : List Loc), gW z M2 H → va_S (gA z) s.heap H locs → W p l e room_1 s m #[.ref b] below meth c H locs cells slots Q (F0 m 2036 ls [])) : W p l e room_1 s m #[.ref b] below meth c H locs cells slots Q (F0 m 1644 ls []) := by
  have hx := X.1
  have hb := X.2.1
  refine lv_aload_n hx hb dL_law_1644 rfl (lv_at hl 1 rfl) ?_
  refine lv_aload_n hx hb dL_law_1645 rfl (lv_at hl 0 rfl) ?_
  refine lv_iload_n hx hb dL_law_1646 rfl (lv_at hl 3 rfl) ?_
  refine lv_iconst (v := 1) hx hb dL_law_1647 (by decide) ?_
  refine lv_iadd hx hb dL_law_1648 ?_
  refine va_sld hx hb hX hbl hbA hS g1 dL_law_1649 ?_
  refine lv_aload_n hx hb dL_law_1650 rfl (lv_at hl 0 rfl) ?_
  refine lv_iload_n hx hb dL_law_1651 rfl (lv_at hl 3 rfl) ?_
  refine lv_iconst (v := 2) hx hb dL_law_1652 (by decide) ?_
  refine lv_iadd hx hb dL_law_1653 ?_
  refine va_sld hx hb hX hbl hbA hS g2 dL_law_1654 ?_
  refine lv_aload_n hx hb dL_law_1655 rfl (lv_at hl 0 rfl) ?_
  refine lv_iload_n hx hb dL_law_1656 rfl (lv_at hl 3 rfl) ?_
  refine lv_iconst (v := 3) hx hb dL_law_1657 (by decide) ?_
  refine lv_iadd hx hb dL_law_1658 ?_
  refine va_sld hx hb hX hbl hbA hS g3 dL_law_1659 ?_
  refine g_cVI (a := 0) (ci := 6) (T := TX6) (N := 8) (av := [.int (xs (i + 1).toNatClampNeg), .int (xs (i + 2).toNatClampNeg), .int (xs (i + 3).toNatClampNeg)]) (rest := []) X hG hS (ct_X6_need l z k_0 n1 h1) mt_X6_need ml_L_180 rfl ⟨rfl, rfl, Nat.le_of_ble_eq_true rfl, Nat.le_of_ble_eq_true rfl⟩ hcs (nx_0 n1) k_0 (by decide) rfl hl.1 (Nat.le_of_ble_eq_true rfl) rfl dL_law_1660 (fun H locs hG hS => ?_)
  have hG : gW z M1 H := hG
  refine lv_aload_n hx hb dL_law_1663 rfl (lv_at hl 2 rfl) ?_
  refine lv_aload_n hx hb dL_law_1664 rfl (lv_at hl 0 rfl) ?_
  refine lv_iload_n hx hb dL_law_1665 rfl (lv_at hl 3 rfl) ?_
  refine lv_iconst (v := 1) hx hb dL_law_1666 (by decide) ?_
  refine lv_iadd hx hb dL_law_1667 ?_
  refine va_sld hx hb hX hbl hbA hS g1 dL_law_1668 ?_
  refine lv_aload_n hx hb dL_law_1669 rfl (lv_at hl 0 rfl) ?_
  refine lv_iload_n hx hb dL_law_1670 rfl (lv_at hl 3 rfl) ?_
  refine lv_iconst (v := 2) hx hb dL_law_1671 (by decide) ?_
  refine lv_iadd hx hb dL_law_1672 ?_
  refine va_sld hx hb hX hbl hbA hS g2 dL_law_1673 ?_
  refine lv_aload_n hx hb dL_law_1674 rfl (lv_at hl 0 rfl) ?_
  refine lv_iload_n hx hb dL_law_1675 rfl (lv_at hl 3 rfl) ?_
  refine lv_iconst (v := 3) hx hb dL_law_1676 (by decide) ?_
  refine lv_iadd hx hb dL_law_1677 ?_
  refine va_sld hx hb hX hbl hbA hS g3 dL_law_1678 ?_
  refine g_cVI (a := 119) (ci := 7) (T := TX7) (N := 37) (av := [.int (xs (i + 1).toNatClampNeg), .int (xs (i + 2).toNatClampNeg), .int (xs (i + 3).toNatClampNeg)]) (rest := [.int r]) X hG hS (ct_X7_need l z k_119 n2 h2) mt_X7_need ml_L_183 rfl ⟨rfl, rfl, Nat.le_of_ble_eq_true rfl, Nat.le_of_ble_eq_true rfl⟩ hcs (nx_0 n2) k_119 (by decide) rfl hl.1 (Nat.le_of_ble_eq_true rfl) rfl dL_law_1679 (fun H locs hG hS => ?_)
  have hG : gW z M2 H := hG
  refine lv_icmp_eq (tgt := 2036) hx hb dL_law_1682 (by decide) (fun _ => ?_) (fun q => absurd rfl q)
  exact kk H locs hG hS
set_option maxRecDepth 20000 in
set_option maxHeartbeats 4000000 in
theorem lwc_40 (X : gX p m c cL_law 4 s #[.ref b] RL z) (hX : va_X b L xs s s.heap) (hbl : b < s.heap.size) (hbA : ¬ gA z b) (g1 : vp_in (i + 1) L) (g2 : vp_in (i + 2) L) (n1 : 0 + 119 ≤ gn z) (n2 : 119 + 59 ≤ gn z) (hcs : cells ≤ room_1.cells ∧ slots ≤ room_1.slots) (hG : gW z M H) (hS : va_S (gA z) s.heap H locs) (hl : lv_has ls 4 [(0, .ref b), (1, .ref (gad z 0)), (2, .ref (gad z 119)), (3, .int i)]) {r : Int32} (h1 : fX6_pay N M 0 (xs (i + 1).toNatClampNeg) (xs (i + 2).toNatClampNeg) = some (r, M1)) (h2 : fX7_pay N M1 119 (xs (i + 1).toNatClampNeg) (xs (i + 2).toNatClampNeg) = some (r, M2)) (kk : ∀ (H : Heap) (locs : List Loc), gW z M2 H → va_S (gA z) s.heap H locs → W p l e room_1 s m #[.ref b] below meth c H locs cells slots Q (F0 m 2036 ls [])) : W p l e room_1 s m #[.ref b] below meth c H locs cells slots Q (F0 m 1687 ls []) := by
  have hx := X.1
  have hb := X.2.1
  refine lv_aload_n hx hb dL_law_1687 rfl (lv_at hl 1 rfl) ?_
  refine lv_aload_n hx hb dL_law_1688 rfl (lv_at hl 0 rfl) ?_
  refine lv_iload_n hx hb dL_law_1689 rfl (lv_at hl 3 rfl) ?_
  refine lv_iconst (v := 1) hx hb dL_law_1690 (by decide) ?_
  refine lv_iadd hx hb dL_law_1691 ?_
  refine va_sld hx hb hX hbl hbA hS g1 dL_law_1692 ?_
  refine lv_aload_n hx hb dL_law_1693 rfl (lv_at hl 0 rfl) ?_
  refine lv_iload_n hx hb dL_law_1694 rfl (lv_at hl 3 rfl) ?_
  refine lv_iconst (v := 2) hx hb dL_law_1695 (by decide) ?_
  refine lv_iadd hx hb dL_law_1696 ?_
  refine va_sld hx hb hX hbl hbA hS g2 dL_law_1697 ?_
  refine g_cVI (a := 0) (ci := 6) (T := TX6) (N := 8) (av := [.int (xs (i + 1).toNatClampNeg), .int (xs (i + 2).toNatClampNeg)]) (rest := []) X hG hS (ct_X6_pay l z k_0 n1 h1) mt_X6_pay ml_L_184 rfl ⟨rfl, rfl, Nat.le_of_ble_eq_true rfl, Nat.le_of_ble_eq_true rfl⟩ hcs (nx_0 n1) k_0 (by decide) rfl hl.1 (Nat.le_of_ble_eq_true rfl) rfl dL_law_1698 (fun H locs hG hS => ?_)
  have hG : gW z M1 H := hG
  refine lv_aload_n hx hb dL_law_1701 rfl (lv_at hl 2 rfl) ?_
  refine lv_aload_n hx hb dL_law_1702 rfl (lv_at hl 0 rfl) ?_
  refine lv_iload_n hx hb dL_law_1703 rfl (lv_at hl 3 rfl) ?_
  refine lv_iconst (v := 1) hx hb dL_law_1704 (by decide) ?_
  refine lv_iadd hx hb dL_law_1705 ?_
  refine va_sld hx hb hX hbl hbA hS g1 dL_law_1706 ?_
  refine lv_aload_n hx hb dL_law_1707 rfl (lv_at hl 0 rfl) ?_
  refine lv_iload_n hx hb dL_law_1708 rfl (lv_at hl 3 rfl) ?_
  refine lv_iconst (v := 2) hx hb dL_law_1709 (by decide) ?_
  refine lv_iadd hx hb dL_law_1710 ?_
  refine va_sld hx hb hX hbl hbA hS g2 dL_law_1711 ?_
  refine g_cVI (a := 119) (ci := 7) (T := TX7) (N := 37) (av := [.int (xs (i + 1).toNatClampNeg), .int (xs (i + 2).toNatClampNeg)]) (rest := [.int r]) X hG hS (ct_X7_pay l z k_119 n2 h2) mt_X7_pay ml_L_187 rfl ⟨rfl, rfl, Nat.le_of_ble_eq_true rfl, Nat.le_of_ble_eq_true rfl⟩ hcs (nx_0 n2) k_119 (by decide) rfl hl.1 (Nat.le_of_ble_eq_true rfl) rfl dL_law_1712 (fun H locs hG hS => ?_)
  have hG : gW z M2 H := hG
  refine lv_icmp_eq (tgt := 2036) hx hb dL_law_1715 (by decide) (fun _ => ?_) (fun q => absurd rfl q)
  exact kk H locs hG hS
set_option maxRecDepth 20000 in
set_option maxHeartbeats 4000000 in
theorem lwc_41 (X : gX p m c cL_law 4 s #[.ref b] RL z) (hX : va_X b L xs s s.heap) (hbl : b < s.heap.size) (hbA : ¬ gA z b) (g1 : vp_in (i + 1) L) (g2 : vp_in (i + 2) L) (n1 : 0 + 119 ≤ gn z) (n2 : 119 + 59 ≤ gn z) (hcs : cells ≤ room_1.cells ∧ slots ≤ room_1.slots) (hG : gW z M H) (hS : va_S (gA z) s.heap H locs) (hl : lv_has ls 4 [(0, .ref b), (1, .ref (gad z 0)), (2, .ref (gad z 119)), (3, .int i)]) {r : Int32} (h1 : fX6_few N M 0 (xs (i + 1).toNatClampNeg) (xs (i + 2).toNatClampNeg) = some (r, M1)) (h2 : fX7_few N M1 119 (xs (i + 1).toNatClampNeg) (xs (i + 2).toNatClampNeg) = some (r, M2)) (kk : ∀ (H : Heap) (locs : List Loc), gW z M2 H → va_S (gA z) s.heap H locs → W p l e room_1 s m #[.ref b] below meth c H locs cells slots Q (F0 m 2036 ls [])) : W p l e room_1 s m #[.ref b] below meth c H locs cells slots Q (F0 m 1720 ls []) := by
  have hx := X.1
  have hb := X.2.1
  refine lv_aload_n hx hb dL_law_1720 rfl (lv_at hl 1 rfl) ?_
  refine lv_aload_n hx hb dL_law_1721 rfl (lv_at hl 0 rfl) ?_
  refine lv_iload_n hx hb dL_law_1722 rfl (lv_at hl 3 rfl) ?_
  refine lv_iconst (v := 1) hx hb dL_law_1723 (by decide) ?_
  refine lv_iadd hx hb dL_law_1724 ?_
  refine va_sld hx hb hX hbl hbA hS g1 dL_law_1725 ?_
  refine lv_aload_n hx hb dL_law_1726 rfl (lv_at hl 0 rfl) ?_
  refine lv_iload_n hx hb dL_law_1727 rfl (lv_at hl 3 rfl) ?_
  refine lv_iconst (v := 2) hx hb dL_law_1728 (by decide) ?_
  refine lv_iadd hx hb dL_law_1729 ?_
  refine va_sld hx hb hX hbl hbA hS g2 dL_law_1730 ?_
  refine g_cVI (a := 0) (ci := 6) (T := TX6) (N := 8) (av := [.int (xs (i + 1).toNatClampNeg), .int (xs (i + 2).toNatClampNeg)]) (rest := []) X hG hS (ct_X6_few l z k_0 n1 h1) mt_X6_few ml_L_188 rfl ⟨rfl, rfl, Nat.le_of_ble_eq_true rfl, Nat.le_of_ble_eq_true rfl⟩ hcs (nx_0 n1) k_0 (by decide) rfl hl.1 (Nat.le_of_ble_eq_true rfl) rfl dL_law_1731 (fun H locs hG hS => ?_)
  have hG : gW z M1 H := hG
  refine lv_aload_n hx hb dL_law_1734 rfl (lv_at hl 2 rfl) ?_
  refine lv_aload_n hx hb dL_law_1735 rfl (lv_at hl 0 rfl) ?_
  refine lv_iload_n hx hb dL_law_1736 rfl (lv_at hl 3 rfl) ?_
  refine lv_iconst (v := 1) hx hb dL_law_1737 (by decide) ?_
  refine lv_iadd hx hb dL_law_1738 ?_
  refine va_sld hx hb hX hbl hbA hS g1 dL_law_1739 ?_
  refine lv_aload_n hx hb dL_law_1740 rfl (lv_at hl 0 rfl) ?_
  refine lv_iload_n hx hb dL_law_1741 rfl (lv_at hl 3 rfl) ?_
  refine lv_iconst (v := 2) hx hb dL_law_1742 (by decide) ?_
  refine lv_iadd hx hb dL_law_1743 ?_
  refine va_sld hx hb hX hbl hbA hS g2 dL_law_1744 ?_
  refine g_cVI (a := 119) (ci := 7) (T := TX7) (N := 37) (av := [.int (xs (i + 1).toNatClampNeg), .int (xs (i + 2).toNatClampNeg)]) (rest := [.int r]) X hG hS (ct_X7_few l z k_119 n2 h2) mt_X7_few ml_L_191 rfl ⟨rfl, rfl, Nat.le_of_ble_eq_true rfl, Nat.le_of_ble_eq_true rfl⟩ hcs (nx_0 n2) k_119 (by decide) rfl hl.1 (Nat.le_of_ble_eq_true rfl) rfl dL_law_1745 (fun H locs hG hS => ?_)
  have hG : gW z M2 H := hG
  refine lv_icmp_eq (tgt := 2036) hx hb dL_law_1748 (by decide) (fun _ => ?_) (fun q => absurd rfl q)
  exact kk H locs hG hS
set_option maxRecDepth 20000 in
set_option maxHeartbeats 4000000 in
theorem lwc_42 (X : gX p m c cL_law 4 s #[.ref b] RL z) (hX : va_X b L xs s s.heap) (hbl : b < s.heap.size) (hbA : ¬ gA z b) (g1 : vp_in (i + 1) L) (g2 : vp_in (i + 2) L) (g3 : vp_in (i + 3) L) (n1 : 0 + 119 ≤ gn z) (n2 : 119 + 59 ≤ gn z) (hcs : cells ≤ room_1.cells ∧ slots ≤ room_1.slots) (hG : gW z M H) (hS : va_S (gA z) s.heap H locs) (hl : lv_has ls 4 [(0, .ref b), (1, .ref (gad z 0)), (2, .ref (gad z 119)), (3, .int i)]) {r : Int32} (h1 : fX6_rota N M 0 (xs (i + 1).toNatClampNeg) (xs (i + 2).toNatClampNeg) (xs (i + 3).toNatClampNeg) = some (r, M1)) (h2 : fX7_rota N M1 119 (xs (i + 1).toNatClampNeg) (xs (i + 2).toNatClampNeg) (xs (i + 3).toNatClampNeg) = some (r, M2)) (kk : ∀ (H : Heap) (locs : List Loc), gW z M2 H → va_S (gA z) s.heap H locs → W p l e room_1 s m #[.ref b] below meth c H locs cells slots Q (F0 m 2036 ls [])) : W p l e room_1 s m #[.ref b] below meth c H locs cells slots Q (F0 m 1753 ls []) := by
  have hx := X.1
  have hb := X.2.1
  refine lv_aload_n hx hb dL_law_1753 rfl (lv_at hl 1 rfl) ?_
  refine lv_aload_n hx hb dL_law_1754 rfl (lv_at hl 0 rfl) ?_
  refine lv_iload_n hx hb dL_law_1755 rfl (lv_at hl 3 rfl) ?_
  refine lv_iconst (v := 1) hx hb dL_law_1756 (by decide) ?_
  refine lv_iadd hx hb dL_law_1757 ?_
  refine va_sld hx hb hX hbl hbA hS g1 dL_law_1758 ?_
  refine lv_aload_n hx hb dL_law_1759 rfl (lv_at hl 0 rfl) ?_
  refine lv_iload_n hx hb dL_law_1760 rfl (lv_at hl 3 rfl) ?_
  refine lv_iconst (v := 2) hx hb dL_law_1761 (by decide) ?_
  refine lv_iadd hx hb dL_law_1762 ?_
  refine va_sld hx hb hX hbl hbA hS g2 dL_law_1763 ?_
  refine lv_aload_n hx hb dL_law_1764 rfl (lv_at hl 0 rfl) ?_
  refine lv_iload_n hx hb dL_law_1765 rfl (lv_at hl 3 rfl) ?_
  refine lv_iconst (v := 3) hx hb dL_law_1766 (by decide) ?_
  refine lv_iadd hx hb dL_law_1767 ?_
  refine va_sld hx hb hX hbl hbA hS g3 dL_law_1768 ?_
  refine g_cVI (a := 0) (ci := 6) (T := TX6) (N := 8) (av := [.int (xs (i + 1).toNatClampNeg), .int (xs (i + 2).toNatClampNeg), .int (xs (i + 3).toNatClampNeg)]) (rest := []) X hG hS (ct_X6_rota l z k_0 n1 h1) mt_X6_rota ml_L_192 rfl ⟨rfl, rfl, Nat.le_of_ble_eq_true rfl, Nat.le_of_ble_eq_true rfl⟩ hcs (nx_0 n1) k_0 (by decide) rfl hl.1 (Nat.le_of_ble_eq_true rfl) rfl dL_law_1769 (fun H locs hG hS => ?_)
  have hG : gW z M1 H := hG
  refine lv_aload_n hx hb dL_law_1772 rfl (lv_at hl 2 rfl) ?_
  refine lv_aload_n hx hb dL_law_1773 rfl (lv_at hl 0 rfl) ?_
  refine lv_iload_n hx hb dL_law_1774 rfl (lv_at hl 3 rfl) ?_
  refine lv_iconst (v := 1) hx hb dL_law_1775 (by decide) ?_
  refine lv_iadd hx hb dL_law_1776 ?_
  refine va_sld hx hb hX hbl hbA hS g1 dL_law_1777 ?_
  refine lv_aload_n hx hb dL_law_1778 rfl (lv_at hl 0 rfl) ?_
  refine lv_iload_n hx hb dL_law_1779 rfl (lv_at hl 3 rfl) ?_
  refine lv_iconst (v := 2) hx hb dL_law_1780 (by decide) ?_
  refine lv_iadd hx hb dL_law_1781 ?_
  refine va_sld hx hb hX hbl hbA hS g2 dL_law_1782 ?_
  refine lv_aload_n hx hb dL_law_1783 rfl (lv_at hl 0 rfl) ?_
  refine lv_iload_n hx hb dL_law_1784 rfl (lv_at hl 3 rfl) ?_
  refine lv_iconst (v := 3) hx hb dL_law_1785 (by decide) ?_
  refine lv_iadd hx hb dL_law_1786 ?_
  refine va_sld hx hb hX hbl hbA hS g3 dL_law_1787 ?_
  refine g_cVI (a := 119) (ci := 7) (T := TX7) (N := 37) (av := [.int (xs (i + 1).toNatClampNeg), .int (xs (i + 2).toNatClampNeg), .int (xs (i + 3).toNatClampNeg)]) (rest := [.int r]) X hG hS (ct_X7_rota l z k_119 n2 h2) mt_X7_rota ml_L_195 rfl ⟨rfl, rfl, Nat.le_of_ble_eq_true rfl, Nat.le_of_ble_eq_true rfl⟩ hcs (nx_0 n2) k_119 (by decide) rfl hl.1 (Nat.le_of_ble_eq_true rfl) rfl dL_law_1788 (fun H locs hG hS => ?_)
  have hG : gW z M2 H := hG
  refine lv_icmp_eq (tgt := 2036) hx hb dL_law_1791 (by decide) (fun _ => ?_) (fun q => absurd rfl q)
  exact kk H locs hG hS
set_option maxRecDepth 20000 in
set_option maxHeartbeats 4000000 in
theorem lwc_43 (X : gX p m c cL_law 4 s #[.ref b] RL z) (hX : va_X b L xs s s.heap) (hbl : b < s.heap.size) (hbA : ¬ gA z b) (g1 : vp_in (i + 1) L) (g2 : vp_in (i + 2) L) (n1 : 0 + 119 ≤ gn z) (n2 : 119 + 59 ≤ gn z) (hcs : cells ≤ room_1.cells ∧ slots ≤ room_1.slots) (hG : gW z M H) (hS : va_S (gA z) s.heap H locs) (hl : lv_has ls 4 [(0, .ref b), (1, .ref (gad z 0)), (2, .ref (gad z 119)), (3, .int i)]) {r : Int32} (h1 : fX6_doers N M 0 (xs (i + 1).toNatClampNeg) (xs (i + 2).toNatClampNeg) = some (r, M1)) (h2 : fX7_doers N M1 119 (xs (i + 1).toNatClampNeg) (xs (i + 2).toNatClampNeg) = some (r, M2)) (kk : ∀ (H : Heap) (locs : List Loc), gW z M2 H → va_S (gA z) s.heap H locs → W p l e room_1 s m #[.ref b] below meth c H locs cells slots Q (F0 m 2036 ls [])) : W p l e room_1 s m #[.ref b] below meth c H locs cells slots Q (F0 m 1796 ls []) := by
  have hx := X.1
  have hb := X.2.1
  refine lv_aload_n hx hb dL_law_1796 rfl (lv_at hl 1 rfl) ?_
  refine lv_aload_n hx hb dL_law_1797 rfl (lv_at hl 0 rfl) ?_
  refine lv_iload_n hx hb dL_law_1798 rfl (lv_at hl 3 rfl) ?_
  refine lv_iconst (v := 1) hx hb dL_law_1799 (by decide) ?_
  refine lv_iadd hx hb dL_law_1800 ?_
  refine va_sld hx hb hX hbl hbA hS g1 dL_law_1801 ?_
  refine lv_aload_n hx hb dL_law_1802 rfl (lv_at hl 0 rfl) ?_
  refine lv_iload_n hx hb dL_law_1803 rfl (lv_at hl 3 rfl) ?_
  refine lv_iconst (v := 2) hx hb dL_law_1804 (by decide) ?_
  refine lv_iadd hx hb dL_law_1805 ?_
  refine va_sld hx hb hX hbl hbA hS g2 dL_law_1806 ?_
  refine g_cVI (a := 0) (ci := 6) (T := TX6) (N := 8) (av := [.int (xs (i + 1).toNatClampNeg), .int (xs (i + 2).toNatClampNeg)]) (rest := []) X hG hS (ct_X6_doers l z k_0 n1 h1) mt_X6_doers ml_L_196 rfl ⟨rfl, rfl, Nat.le_of_ble_eq_true rfl, Nat.le_of_ble_eq_true rfl⟩ hcs (nx_0 n1) k_0 (by decide) rfl hl.1 (Nat.le_of_ble_eq_true rfl) rfl dL_law_1807 (fun H locs hG hS => ?_)
  have hG : gW z M1 H := hG
  refine lv_aload_n hx hb dL_law_1810 rfl (lv_at hl 2 rfl) ?_
  refine lv_aload_n hx hb dL_law_1811 rfl (lv_at hl 0 rfl) ?_
  refine lv_iload_n hx hb dL_law_1812 rfl (lv_at hl 3 rfl) ?_
  refine lv_iconst (v := 1) hx hb dL_law_1813 (by decide) ?_
  refine lv_iadd hx hb dL_law_1814 ?_
  refine va_sld hx hb hX hbl hbA hS g1 dL_law_1815 ?_
  refine lv_aload_n hx hb dL_law_1816 rfl (lv_at hl 0 rfl) ?_
  refine lv_iload_n hx hb dL_law_1817 rfl (lv_at hl 3 rfl) ?_
  refine lv_iconst (v := 2) hx hb dL_law_1818 (by decide) ?_
  refine lv_iadd hx hb dL_law_1819 ?_
  refine va_sld hx hb hX hbl hbA hS g2 dL_law_1820 ?_
  refine g_cVI (a := 119) (ci := 7) (T := TX7) (N := 37) (av := [.int (xs (i + 1).toNatClampNeg), .int (xs (i + 2).toNatClampNeg)]) (rest := [.int r]) X hG hS (ct_X7_doers l z k_119 n2 h2) mt_X7_doers ml_L_199 rfl ⟨rfl, rfl, Nat.le_of_ble_eq_true rfl, Nat.le_of_ble_eq_true rfl⟩ hcs (nx_0 n2) k_119 (by decide) rfl hl.1 (Nat.le_of_ble_eq_true rfl) rfl dL_law_1821 (fun H locs hG hS => ?_)
  have hG : gW z M2 H := hG
  refine lv_icmp_eq (tgt := 2036) hx hb dL_law_1824 (by decide) (fun _ => ?_) (fun q => absurd rfl q)
  exact kk H locs hG hS
set_option maxRecDepth 20000 in
set_option maxHeartbeats 4000000 in
theorem lwc_44 (X : gX p m c cL_law 4 s #[.ref b] RL z) (hX : va_X b L xs s s.heap) (hbl : b < s.heap.size) (hbA : ¬ gA z b) (g1 : vp_in (i + 1) L) (g2 : vp_in (i + 2) L) (n1 : 0 + 119 ≤ gn z) (n2 : 119 + 59 ≤ gn z) (hcs : cells ≤ room_1.cells ∧ slots ≤ room_1.slots) (hG : gW z M H) (hS : va_S (gA z) s.heap H locs) (hl : lv_has ls 4 [(0, .ref b), (1, .ref (gad z 0)), (2, .ref (gad z 119)), (3, .int i)]) {r : Int32} (h1 : fX6_light N M 0 (xs (i + 1).toNatClampNeg) (xs (i + 2).toNatClampNeg) = some (r, M1)) (h2 : fX7_light N M1 119 (xs (i + 1).toNatClampNeg) (xs (i + 2).toNatClampNeg) = some (r, M2)) (kk : ∀ (H : Heap) (locs : List Loc), gW z M2 H → va_S (gA z) s.heap H locs → W p l e room_1 s m #[.ref b] below meth c H locs cells slots Q (F0 m 2036 ls [])) : W p l e room_1 s m #[.ref b] below meth c H locs cells slots Q (F0 m 1829 ls []) := by
  have hx := X.1
  have hb := X.2.1
  refine lv_aload_n hx hb dL_law_1829 rfl (lv_at hl 1 rfl) ?_
  refine lv_aload_n hx hb dL_law_1830 rfl (lv_at hl 0 rfl) ?_
  refine lv_iload_n hx hb dL_law_1831 rfl (lv_at hl 3 rfl) ?_
  refine lv_iconst (v := 1) hx hb dL_law_1832 (by decide) ?_
  refine lv_iadd hx hb dL_law_1833 ?_
  refine va_sld hx hb hX hbl hbA hS g1 dL_law_1834 ?_
  refine lv_aload_n hx hb dL_law_1835 rfl (lv_at hl 0 rfl) ?_
  refine lv_iload_n hx hb dL_law_1836 rfl (lv_at hl 3 rfl) ?_
  refine lv_iconst (v := 2) hx hb dL_law_1837 (by decide) ?_
  refine lv_iadd hx hb dL_law_1838 ?_
  refine va_sld hx hb hX hbl hbA hS g2 dL_law_1839 ?_
  refine g_cVI (a := 0) (ci := 6) (T := TX6) (N := 8) (av := [.int (xs (i + 1).toNatClampNeg), .int (xs (i + 2).toNatClampNeg)]) (rest := []) X hG hS (ct_X6_light l z k_0 n1 h1) mt_X6_light ml_L_200 rfl ⟨rfl, rfl, Nat.le_of_ble_eq_true rfl, Nat.le_of_ble_eq_true rfl⟩ hcs (nx_0 n1) k_0 (by decide) rfl hl.1 (Nat.le_of_ble_eq_true rfl) rfl dL_law_1840 (fun H locs hG hS => ?_)
  have hG : gW z M1 H := hG
  refine lv_aload_n hx hb dL_law_1843 rfl (lv_at hl 2 rfl) ?_
  refine lv_aload_n hx hb dL_law_1844 rfl (lv_at hl 0 rfl) ?_
  refine lv_iload_n hx hb dL_law_1845 rfl (lv_at hl 3 rfl) ?_
  refine lv_iconst (v := 1) hx hb dL_law_1846 (by decide) ?_
  refine lv_iadd hx hb dL_law_1847 ?_
  refine va_sld hx hb hX hbl hbA hS g1 dL_law_1848 ?_
  refine lv_aload_n hx hb dL_law_1849 rfl (lv_at hl 0 rfl) ?_
  refine lv_iload_n hx hb dL_law_1850 rfl (lv_at hl 3 rfl) ?_
  refine lv_iconst (v := 2) hx hb dL_law_1851 (by decide) ?_
  refine lv_iadd hx hb dL_law_1852 ?_
  refine va_sld hx hb hX hbl hbA hS g2 dL_law_1853 ?_
  refine g_cVI (a := 119) (ci := 7) (T := TX7) (N := 37) (av := [.int (xs (i + 1).toNatClampNeg), .int (xs (i + 2).toNatClampNeg)]) (rest := [.int r]) X hG hS (ct_X7_light l z k_119 n2 h2) mt_X7_light ml_L_203 rfl ⟨rfl, rfl, Nat.le_of_ble_eq_true rfl, Nat.le_of_ble_eq_true rfl⟩ hcs (nx_0 n2) k_119 (by decide) rfl hl.1 (Nat.le_of_ble_eq_true rfl) rfl dL_law_1854 (fun H locs hG hS => ?_)
  have hG : gW z M2 H := hG
  refine lv_icmp_eq (tgt := 2036) hx hb dL_law_1857 (by decide) (fun _ => ?_) (fun q => absurd rfl q)
  exact kk H locs hG hS
set_option maxRecDepth 20000 in
set_option maxHeartbeats 4000000 in
theorem lwc_45 (X : gX p m c cL_law 4 s #[.ref b] RL z) (hX : va_X b L xs s s.heap) (hbl : b < s.heap.size) (hbA : ¬ gA z b) (g1 : vp_in (i + 1) L) (g2 : vp_in (i + 2) L) (n1 : 0 + 119 ≤ gn z) (n2 : 119 + 59 ≤ gn z) (hcs : cells ≤ room_1.cells ∧ slots ≤ room_1.slots) (hG : gW z M H) (hS : va_S (gA z) s.heap H locs) (hl : lv_has ls 4 [(0, .ref b), (1, .ref (gad z 0)), (2, .ref (gad z 119)), (3, .int i)]) {r : Int32} (h1 : fX6_late N M 0 (xs (i + 1).toNatClampNeg) (xs (i + 2).toNatClampNeg) = some (r, M1)) (h2 : fX7_late N M1 119 (xs (i + 1).toNatClampNeg) (xs (i + 2).toNatClampNeg) = some (r, M2)) (kk : ∀ (H : Heap) (locs : List Loc), gW z M2 H → va_S (gA z) s.heap H locs → W p l e room_1 s m #[.ref b] below meth c H locs cells slots Q (F0 m 2036 ls [])) : W p l e room_1 s m #[.ref b] below meth c H locs cells slots Q (F0 m 1862 ls []) := by
  have hx := X.1
  have hb := X.2.1
  refine lv_aload_n hx hb dL_law_1862 rfl (lv_at hl 1 rfl) ?_
  refine lv_aload_n hx hb dL_law_1863 rfl (lv_at hl 0 rfl) ?_
  refine lv_iload_n hx hb dL_law_1864 rfl (lv_at hl 3 rfl) ?_
  refine lv_iconst (v := 1) hx hb dL_law_1865 (by decide) ?_
  refine lv_iadd hx hb dL_law_1866 ?_
  refine va_sld hx hb hX hbl hbA hS g1 dL_law_1867 ?_
  refine lv_aload_n hx hb dL_law_1868 rfl (lv_at hl 0 rfl) ?_
  refine lv_iload_n hx hb dL_law_1869 rfl (lv_at hl 3 rfl) ?_
  refine lv_iconst (v := 2) hx hb dL_law_1870 (by decide) ?_
  refine lv_iadd hx hb dL_law_1871 ?_
  refine va_sld hx hb hX hbl hbA hS g2 dL_law_1872 ?_
  refine g_cVI (a := 0) (ci := 6) (T := TX6) (N := 8) (av := [.int (xs (i + 1).toNatClampNeg), .int (xs (i + 2).toNatClampNeg)]) (rest := []) X hG hS (ct_X6_late l z k_0 n1 h1) mt_X6_late ml_L_204 rfl ⟨rfl, rfl, Nat.le_of_ble_eq_true rfl, Nat.le_of_ble_eq_true rfl⟩ hcs (nx_0 n1) k_0 (by decide) rfl hl.1 (Nat.le_of_ble_eq_true rfl) rfl dL_law_1873 (fun H locs hG hS => ?_)
  have hG : gW z M1 H := hG
  refine lv_aload_n hx hb dL_law_1876 rfl (lv_at hl 2 rfl) ?_
  refine lv_aload_n hx hb dL_law_1877 rfl (lv_at hl 0 rfl) ?_
  refine lv_iload_n hx hb dL_law_1878 rfl (lv_at hl 3 rfl) ?_
  refine lv_iconst (v := 1) hx hb dL_law_1879 (by decide) ?_
  refine lv_iadd hx hb dL_law_1880 ?_
  refine va_sld hx hb hX hbl hbA hS g1 dL_law_1881 ?_
  refine lv_aload_n hx hb dL_law_1882 rfl (lv_at hl 0 rfl) ?_
  refine lv_iload_n hx hb dL_law_1883 rfl (lv_at hl 3 rfl) ?_
  refine lv_iconst (v := 2) hx hb dL_law_1884 (by decide) ?_
  refine lv_iadd hx hb dL_law_1885 ?_
  refine va_sld hx hb hX hbl hbA hS g2 dL_law_1886 ?_
  refine g_cVI (a := 119) (ci := 7) (T := TX7) (N := 37) (av := [.int (xs (i + 1).toNatClampNeg), .int (xs (i + 2).toNatClampNeg)]) (rest := [.int r]) X hG hS (ct_X7_late l z k_119 n2 h2) mt_X7_late ml_L_207 rfl ⟨rfl, rfl, Nat.le_of_ble_eq_true rfl, Nat.le_of_ble_eq_true rfl⟩ hcs (nx_0 n2) k_119 (by decide) rfl hl.1 (Nat.le_of_ble_eq_true rfl) rfl dL_law_1887 (fun H locs hG hS => ?_)
  have hG : gW z M2 H := hG
  refine lv_icmp_eq (tgt := 2036) hx hb dL_law_1890 (by decide) (fun _ => ?_) (fun q => absurd rfl q)
  exact kk H locs hG hS
set_option maxRecDepth 20000 in
set_option maxHeartbeats 4000000 in
theorem lwc_46 (X : gX p m c cL_law 4 s #[.ref b] RL z) (hX : va_X b L xs s s.heap) (hbl : b < s.heap.size) (hbA : ¬ gA z b) (g1 : vp_in (i + 1) L) (n1 : 0 + 119 ≤ gn z) (n2 : 119 + 59 ≤ gn z) (hcs : cells ≤ room_1.cells ∧ slots ≤ room_1.slots) (hG : gW z M H) (hS : va_S (gA z) s.heap H locs) (hl : lv_has ls 4 [(0, .ref b), (1, .ref (gad z 0)), (2, .ref (gad z 119)), (3, .int i)]) {r : Int32} (h1 : fX6_seed N M 0 (xs (i + 1).toNatClampNeg) = some (r, M1)) (h2 : fX7_seed N M1 119 (xs (i + 1).toNatClampNeg) = some (r, M2)) (kk : ∀ (H : Heap) (locs : List Loc), gW z M2 H → va_S (gA z) s.heap H locs → W p l e room_1 s m #[.ref b] below meth c H locs cells slots Q (F0 m 2036 ls [])) : W p l e room_1 s m #[.ref b] below meth c H locs cells slots Q (F0 m 1895 ls []) := by
  have hx := X.1
  have hb := X.2.1
  refine lv_aload_n hx hb dL_law_1895 rfl (lv_at hl 1 rfl) ?_
  refine lv_aload_n hx hb dL_law_1896 rfl (lv_at hl 0 rfl) ?_
  refine lv_iload_n hx hb dL_law_1897 rfl (lv_at hl 3 rfl) ?_
  refine lv_iconst (v := 1) hx hb dL_law_1898 (by decide) ?_
  refine lv_iadd hx hb dL_law_1899 ?_
  refine va_sld hx hb hX hbl hbA hS g1 dL_law_1900 ?_
  refine g_cVI (a := 0) (ci := 6) (T := TX6) (N := 8) (av := [.int (xs (i + 1).toNatClampNeg)]) (rest := []) X hG hS (ct_X6_seed l z k_0 n1 h1) mt_X6_seed ml_L_208 rfl ⟨rfl, rfl, Nat.le_of_ble_eq_true rfl, Nat.le_of_ble_eq_true rfl⟩ hcs (nx_0 n1) k_0 (by decide) rfl hl.1 (Nat.le_of_ble_eq_true rfl) rfl dL_law_1901 (fun H locs hG hS => ?_)
  have hG : gW z M1 H := hG
  refine lv_aload_n hx hb dL_law_1904 rfl (lv_at hl 2 rfl) ?_
  refine lv_aload_n hx hb dL_law_1905 rfl (lv_at hl 0 rfl) ?_
  refine lv_iload_n hx hb dL_law_1906 rfl (lv_at hl 3 rfl) ?_
  refine lv_iconst (v := 1) hx hb dL_law_1907 (by decide) ?_
  refine lv_iadd hx hb dL_law_1908 ?_
  refine va_sld hx hb hX hbl hbA hS g1 dL_law_1909 ?_
  refine g_cVI (a := 119) (ci := 7) (T := TX7) (N := 37) (av := [.int (xs (i + 1).toNatClampNeg)]) (rest := [.int r]) X hG hS (ct_X7_seed l z k_119 n2 h2) mt_X7_seed ml_L_211 rfl ⟨rfl, rfl, Nat.le_of_ble_eq_true rfl, Nat.le_of_ble_eq_true rfl⟩ hcs (nx_0 n2) k_119 (by decide) rfl hl.1 (Nat.le_of_ble_eq_true rfl) rfl dL_law_1910 (fun H locs hG hS => ?_)
  have hG : gW z M2 H := hG
  refine lv_icmp_eq (tgt := 2036) hx hb dL_law_1913 (by decide) (fun _ => ?_) (fun q => absurd rfl q)
  exact kk H locs hG hS
set_option maxRecDepth 20000 in
set_option maxHeartbeats 4000000 in
theorem lwc_47 (X : gX p m c cL_law 4 s #[.ref b] RL z) (hX : va_X b L xs s s.heap) (hbl : b < s.heap.size) (hbA : ¬ gA z b) (g1 : vp_in (i + 1) L) (n1 : 0 + 119 ≤ gn z) (n2 : 119 + 59 ≤ gn z) (hcs : cells ≤ room_1.cells ∧ slots ≤ room_1.slots) (hG : gW z M H) (hS : va_S (gA z) s.heap H locs) (hl : lv_has ls 4 [(0, .ref b), (1, .ref (gad z 0)), (2, .ref (gad z 119)), (3, .int i)]) {r : Int32} (h1 : fX6_begin N M 0 (xs (i + 1).toNatClampNeg) = some (r, M1)) (h2 : fX7_begin N M1 119 (xs (i + 1).toNatClampNeg) = some (r, M2)) (kk : ∀ (H : Heap) (locs : List Loc), gW z M2 H → va_S (gA z) s.heap H locs → W p l e room_1 s m #[.ref b] below meth c H locs cells slots Q (F0 m 2036 ls [])) : W p l e room_1 s m #[.ref b] below meth c H locs cells slots Q (F0 m 1918 ls []) := by
  have hx := X.1
  have hb := X.2.1
  refine lv_aload_n hx hb dL_law_1918 rfl (lv_at hl 1 rfl) ?_
  refine lv_aload_n hx hb dL_law_1919 rfl (lv_at hl 0 rfl) ?_
  refine lv_iload_n hx hb dL_law_1920 rfl (lv_at hl 3 rfl) ?_
  refine lv_iconst (v := 1) hx hb dL_law_1921 (by decide) ?_
  refine lv_iadd hx hb dL_law_1922 ?_
  refine va_sld hx hb hX hbl hbA hS g1 dL_law_1923 ?_
  refine g_cVI (a := 0) (ci := 6) (T := TX6) (N := 8) (av := [.int (xs (i + 1).toNatClampNeg)]) (rest := []) X hG hS (ct_X6_begin l z k_0 n1 h1) mt_X6_begin ml_L_212 rfl ⟨rfl, rfl, Nat.le_of_ble_eq_true rfl, Nat.le_of_ble_eq_true rfl⟩ hcs (nx_0 n1) k_0 (by decide) rfl hl.1 (Nat.le_of_ble_eq_true rfl) rfl dL_law_1924 (fun H locs hG hS => ?_)
  have hG : gW z M1 H := hG
  refine lv_aload_n hx hb dL_law_1927 rfl (lv_at hl 2 rfl) ?_
  refine lv_aload_n hx hb dL_law_1928 rfl (lv_at hl 0 rfl) ?_
  refine lv_iload_n hx hb dL_law_1929 rfl (lv_at hl 3 rfl) ?_
  refine lv_iconst (v := 1) hx hb dL_law_1930 (by decide) ?_
  refine lv_iadd hx hb dL_law_1931 ?_
  refine va_sld hx hb hX hbl hbA hS g1 dL_law_1932 ?_
  refine g_cVI (a := 119) (ci := 7) (T := TX7) (N := 37) (av := [.int (xs (i + 1).toNatClampNeg)]) (rest := [.int r]) X hG hS (ct_X7_begin l z k_119 n2 h2) mt_X7_begin ml_L_215 rfl ⟨rfl, rfl, Nat.le_of_ble_eq_true rfl, Nat.le_of_ble_eq_true rfl⟩ hcs (nx_0 n2) k_119 (by decide) rfl hl.1 (Nat.le_of_ble_eq_true rfl) rfl dL_law_1933 (fun H locs hG hS => ?_)
  have hG : gW z M2 H := hG
  refine lv_icmp_eq (tgt := 2036) hx hb dL_law_1936 (by decide) (fun _ => ?_) (fun q => absurd rfl q)
  exact kk H locs hG hS
set_option maxRecDepth 20000 in
set_option maxHeartbeats 4000000 in
theorem lwc_48 (X : gX p m c cL_law 4 s #[.ref b] RL z) (hX : va_X b L xs s s.heap) (hbl : b < s.heap.size) (hbA : ¬ gA z b) (g1 : vp_in (i + 1) L) (n1 : 0 + 119 ≤ gn z) (n2 : 119 + 59 ≤ gn z) (hcs : cells ≤ room_1.cells ∧ slots ≤ room_1.slots) (hG : gW z M H) (hS : va_S (gA z) s.heap H locs) (hl : lv_has ls 4 [(0, .ref b), (1, .ref (gad z 0)), (2, .ref (gad z 119)), (3, .int i)]) {r : Int32} (h1 : fX6_step N M 0 (xs (i + 1).toNatClampNeg) = some (r, M1)) (h2 : fX7_step N M1 119 (xs (i + 1).toNatClampNeg) = some (r, M2)) (kk : ∀ (H : Heap) (locs : List Loc), gW z M2 H → va_S (gA z) s.heap H locs → W p l e room_1 s m #[.ref b] below meth c H locs cells slots Q (F0 m 2036 ls [])) : W p l e room_1 s m #[.ref b] below meth c H locs cells slots Q (F0 m 1941 ls []) := by
  have hx := X.1
  have hb := X.2.1
  refine lv_aload_n hx hb dL_law_1941 rfl (lv_at hl 1 rfl) ?_
  refine lv_aload_n hx hb dL_law_1942 rfl (lv_at hl 0 rfl) ?_
  refine lv_iload_n hx hb dL_law_1943 rfl (lv_at hl 3 rfl) ?_
  refine lv_iconst (v := 1) hx hb dL_law_1944 (by decide) ?_
  refine lv_iadd hx hb dL_law_1945 ?_
  refine va_sld hx hb hX hbl hbA hS g1 dL_law_1946 ?_
  refine g_cVI (a := 0) (ci := 6) (T := TX6) (N := 8) (av := [.int (xs (i + 1).toNatClampNeg)]) (rest := []) X hG hS (ct_X6_step l z k_0 n1 h1) mt_X6_step ml_L_216 rfl ⟨rfl, rfl, Nat.le_of_ble_eq_true rfl, Nat.le_of_ble_eq_true rfl⟩ hcs (nx_0 n1) k_0 (by decide) rfl hl.1 (Nat.le_of_ble_eq_true rfl) rfl dL_law_1947 (fun H locs hG hS => ?_)
  have hG : gW z M1 H := hG
  refine lv_aload_n hx hb dL_law_1950 rfl (lv_at hl 2 rfl) ?_
  refine lv_aload_n hx hb dL_law_1951 rfl (lv_at hl 0 rfl) ?_
  refine lv_iload_n hx hb dL_law_1952 rfl (lv_at hl 3 rfl) ?_
  refine lv_iconst (v := 1) hx hb dL_law_1953 (by decide) ?_
  refine lv_iadd hx hb dL_law_1954 ?_
  refine va_sld hx hb hX hbl hbA hS g1 dL_law_1955 ?_
  refine g_cVI (a := 119) (ci := 7) (T := TX7) (N := 37) (av := [.int (xs (i + 1).toNatClampNeg)]) (rest := [.int r]) X hG hS (ct_X7_step l z k_119 n2 h2) mt_X7_step ml_L_219 rfl ⟨rfl, rfl, Nat.le_of_ble_eq_true rfl, Nat.le_of_ble_eq_true rfl⟩ hcs (nx_0 n2) k_119 (by decide) rfl hl.1 (Nat.le_of_ble_eq_true rfl) rfl dL_law_1956 (fun H locs hG hS => ?_)
  have hG : gW z M2 H := hG
  refine lv_icmp_eq (tgt := 2036) hx hb dL_law_1959 (by decide) (fun _ => ?_) (fun q => absurd rfl q)
  exact kk H locs hG hS
set_option maxRecDepth 20000 in
set_option maxHeartbeats 4000000 in
theorem lwc_49 (X : gX p m c cL_law 4 s #[.ref b] RL z) (hX : va_X b L xs s s.heap) (hbl : b < s.heap.size) (hbA : ¬ gA z b) (g1 : vp_in (i + 1) L) (n1 : 0 + 119 ≤ gn z) (n2 : 119 + 59 ≤ gn z) (hcs : cells ≤ room_1.cells ∧ slots ≤ room_1.slots) (hG : gW z M H) (hS : va_S (gA z) s.heap H locs) (hl : lv_has ls 4 [(0, .ref b), (1, .ref (gad z 0)), (2, .ref (gad z 119)), (3, .int i)]) {r : Int32} (h1 : fX6_search N M 0 (xs (i + 1).toNatClampNeg) = some (r, M1)) (h2 : fX7_search N M1 119 (xs (i + 1).toNatClampNeg) = some (r, M2)) (kk : ∀ (H : Heap) (locs : List Loc), gW z M2 H → va_S (gA z) s.heap H locs → W p l e room_1 s m #[.ref b] below meth c H locs cells slots Q (F0 m 2036 ls [])) : W p l e room_1 s m #[.ref b] below meth c H locs cells slots Q (F0 m 1964 ls []) := by
  have hx := X.1
  have hb := X.2.1
  refine lv_aload_n hx hb dL_law_1964 rfl (lv_at hl 1 rfl) ?_
  refine lv_aload_n hx hb dL_law_1965 rfl (lv_at hl 0 rfl) ?_
  refine lv_iload_n hx hb dL_law_1966 rfl (lv_at hl 3 rfl) ?_
  refine lv_iconst (v := 1) hx hb dL_law_1967 (by decide) ?_
  refine lv_iadd hx hb dL_law_1968 ?_
  refine va_sld hx hb hX hbl hbA hS g1 dL_law_1969 ?_
  refine g_cVI (a := 0) (ci := 6) (T := TX6) (N := 8) (av := [.int (xs (i + 1).toNatClampNeg)]) (rest := []) X hG hS (ct_X6_search l z k_0 n1 h1) mt_X6_search ml_L_220 rfl ⟨rfl, rfl, Nat.le_of_ble_eq_true rfl, Nat.le_of_ble_eq_true rfl⟩ hcs (nx_0 n1) k_0 (by decide) rfl hl.1 (Nat.le_of_ble_eq_true rfl) rfl dL_law_1970 (fun H locs hG hS => ?_)
  have hG : gW z M1 H := hG
  refine lv_aload_n hx hb dL_law_1973 rfl (lv_at hl 2 rfl) ?_
  refine lv_aload_n hx hb dL_law_1974 rfl (lv_at hl 0 rfl) ?_
  refine lv_iload_n hx hb dL_law_1975 rfl (lv_at hl 3 rfl) ?_
  refine lv_iconst (v := 1) hx hb dL_law_1976 (by decide) ?_
  refine lv_iadd hx hb dL_law_1977 ?_
  refine va_sld hx hb hX hbl hbA hS g1 dL_law_1978 ?_
  refine g_cVI (a := 119) (ci := 7) (T := TX7) (N := 37) (av := [.int (xs (i + 1).toNatClampNeg)]) (rest := [.int r]) X hG hS (ct_X7_search l z k_119 n2 h2) mt_X7_search ml_L_223 rfl ⟨rfl, rfl, Nat.le_of_ble_eq_true rfl, Nat.le_of_ble_eq_true rfl⟩ hcs (nx_0 n2) k_119 (by decide) rfl hl.1 (Nat.le_of_ble_eq_true rfl) rfl dL_law_1979 (fun H locs hG hS => ?_)
  have hG : gW z M2 H := hG
  refine lv_icmp_eq (tgt := 2036) hx hb dL_law_1982 (by decide) (fun _ => ?_) (fun q => absurd rfl q)
  exact kk H locs hG hS
set_option maxRecDepth 20000 in
set_option maxHeartbeats 4000000 in
theorem lwc_51 (X : gX p m c cL_law 4 s #[.ref b] RL z) (hX : va_X b L xs s s.heap) (hbl : b < s.heap.size) (hbA : ¬ gA z b)  (n1 : 0 + 119 ≤ gn z) (n2 : 119 + 59 ≤ gn z) (hcs : cells ≤ room_1.cells ∧ slots ≤ room_1.slots) (hG : gW z M H) (hS : va_S (gA z) s.heap H locs) (hl : lv_has ls 4 [(0, .ref b), (1, .ref (gad z 0)), (2, .ref (gad z 119)), (3, .int i)]) {r : Int32} (h1 : fX6_back N M 0 = some (r, M1)) (n_k : M1.1 119 26 = 0 ∨ 119 + 59 + 59 ≤ gn z) (h2 : fX7_back N M1 119 = some (r, M2)) (kk : ∀ (H : Heap) (locs : List Loc), gW z M2 H → va_S (gA z) s.heap H locs → W p l e room_1 s m #[.ref b] below meth c H locs cells slots Q (F0 m 2036 ls [])) : W p l e room_1 s m #[.ref b] below meth c H locs cells slots Q (F0 m 2000 ls []) := by
  have hx := X.1
  have hb := X.2.1
  refine lv_aload_n hx hb dL_law_2000 rfl (lv_at hl 1 rfl) ?_
  refine g_cVI (a := 0) (ci := 6) (T := TX6) (N := 8) (av := []) (rest := []) X hG hS (ct_X6_back l z k_0 n1 h1) mt_X6_back ml_L_228 rfl ⟨rfl, rfl, Nat.le_of_ble_eq_true rfl, Nat.le_of_ble_eq_true rfl⟩ hcs (nx_0 n1) k_0 (by decide) rfl hl.1 (Nat.le_of_ble_eq_true rfl) rfl dL_law_2001 (fun H locs hG hS => ?_)
  have hG : gW z M1 H := hG
  refine lv_aload_n hx hb dL_law_2004 rfl (lv_at hl 2 rfl) ?_
  refine g_cVI (a := 119) (ci := 7) (T := TX7) (N := 37) (av := []) (rest := [.int r]) X hG hS (ct_X7_back l z k_119 n2 k_178 n_k h2) mt_X7_back ml_L_231 rfl ⟨rfl, rfl, Nat.le_of_ble_eq_true rfl, Nat.le_of_ble_eq_true rfl⟩ hcs (nx_0 n2) k_119 (by decide) rfl hl.1 (Nat.le_of_ble_eq_true rfl) rfl dL_law_2005 (fun H locs hG hS => ?_)
  have hG : gW z M2 H := hG
  refine lv_icmp_eq (tgt := 2036) hx hb dL_law_2008 (by decide) (fun _ => ?_) (fun q => absurd rfl q)
  exact kk H locs hG hS
set_option maxRecDepth 20000 in
set_option maxHeartbeats 4000000 in
theorem lwc_52 (X : gX p m c cL_law 4 s #[.ref b] RL z) (hX : va_X b L xs s s.heap) (hbl : b < s.heap.size) (hbA : ¬ gA z b) (g1 : vp_in (i + 1) L) (n1 : 0 + 119 ≤ gn z) (n2 : 119 + 59 ≤ gn z) (hcs : cells ≤ room_1.cells ∧ slots ≤ room_1.slots) (hG : gW z M H) (hS : va_S (gA z) s.heap H locs) (hl : lv_has ls 4 [(0, .ref b), (1, .ref (gad z 0)), (2, .ref (gad z 119)), (3, .int i)]) {r : Int32} (h1 : fX6_status N M 0 (xs (i + 1).toNatClampNeg) = some r) (h2 : fX7_status N M 119 (xs (i + 1).toNatClampNeg) = some r) (kk : ∀ (H : Heap) (locs : List Loc), gW z M H → va_S (gA z) s.heap H locs → W p l e room_1 s m #[.ref b] below meth c H locs cells slots Q (F0 m 2036 ls [])) : W p l e room_1 s m #[.ref b] below meth c H locs cells slots Q (F0 m 2013 ls []) := by
  have hx := X.1
  have hb := X.2.1
  refine lv_aload_n hx hb dL_law_2013 rfl (lv_at hl 1 rfl) ?_
  refine lv_aload_n hx hb dL_law_2014 rfl (lv_at hl 0 rfl) ?_
  refine lv_iload_n hx hb dL_law_2015 rfl (lv_at hl 3 rfl) ?_
  refine lv_iconst (v := 1) hx hb dL_law_2016 (by decide) ?_
  refine lv_iadd hx hb dL_law_2017 ?_
  refine va_sld hx hb hX hbl hbA hS g1 dL_law_2018 ?_
  refine g_cVI (a := 0) (ci := 6) (T := TX6) (N := 8) (av := [.int (xs (i + 1).toNatClampNeg)]) (rest := []) X hG hS (ct_X6_status l z k_0 n1 h1) mt_X6_status ml_L_232 rfl ⟨rfl, rfl, Nat.le_of_ble_eq_true rfl, Nat.le_of_ble_eq_true rfl⟩ hcs (nx_0 n1) k_0 (by decide) rfl hl.1 (Nat.le_of_ble_eq_true rfl) rfl dL_law_2019 (fun H locs hG hS => ?_)
  have hG : gW z M H := hG
  refine lv_aload_n hx hb dL_law_2022 rfl (lv_at hl 2 rfl) ?_
  refine lv_aload_n hx hb dL_law_2023 rfl (lv_at hl 0 rfl) ?_
  refine lv_iload_n hx hb dL_law_2024 rfl (lv_at hl 3 rfl) ?_
  refine lv_iconst (v := 1) hx hb dL_law_2025 (by decide) ?_
  refine lv_iadd hx hb dL_law_2026 ?_
  refine va_sld hx hb hX hbl hbA hS g1 dL_law_2027 ?_
  refine g_cVI (a := 119) (ci := 7) (T := TX7) (N := 37) (av := [.int (xs (i + 1).toNatClampNeg)]) (rest := [.int r]) X hG hS (ct_X7_status l z k_119 n2 h2) mt_X7_status ml_L_235 rfl ⟨rfl, rfl, Nat.le_of_ble_eq_true rfl, Nat.le_of_ble_eq_true rfl⟩ hcs (nx_0 n2) k_119 (by decide) rfl hl.1 (Nat.le_of_ble_eq_true rfl) rfl dL_law_2028 (fun H locs hG hS => ?_)
  have hG : gW z M H := hG
  refine lv_icmp_eq (tgt := 2036) hx hb dL_law_2031 (by decide) (fun _ => ?_) (fun q => absurd rfl q)
  exact kk H locs hG hS
end LAWC
