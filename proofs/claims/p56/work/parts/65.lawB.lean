/-! ===== what holds at the end, of a street ===== -/
set_option maxRecDepth 100000 in
set_option maxHeartbeats 4000000 in
theorem ct_L_holds (l : Launch) (z : gZ) {M : Mem} {v2 : Int32} {k t n : Nat} {C : Nat → Nat → Int32} (n1 : 0 + 119 ≤ gn z) (hz : gn z ≤ 119) (hI : LI M) (hV : SV M 0 k t n C) : CtEI l z yL_holds cL_holds 12 (some .boolean) { frames := 7, cells := 0, slots := 0, locals := 162 } [.ref (gad z 0), .int (nI t), .int v2] M (fun (r : Int32) (M' : Mem) => r = 1 ∧ LI M' ∧ M'.1 (0 + 4) 3 = nI k) := by
  refine Ct_of rfl (Nat.le_of_ble_eq_true rfl) ?_
  intro p e s m below meth c ls X hr hlk hG hS hl
  have X : gX p m c _ _ s _ RL z := X
  have hx := X.1
  have hb := X.2.1
  have hl : lv_has ls 12 [(0, .ref (gad z 0)), (1, .int (nI t)), (2, .int v2)] := hl
  have hC := hV.2.2.2.1
  have hn := hC.1.2
  have h31 := pow31 hn
  obtain ⟨ct, ect⟩ : ∃ ct, ct = fb_ct (fun s => rst C n (nI s)) (2 ^ n) := ⟨_, rfl⟩
  have hct : ct ≤ 2 ^ n := by rw [ect]; exact fb_ct_le _ _
  obtain ⟨cm, ecm⟩ : ∃ cm, cm = C 0 9 := ⟨_, rfl⟩
  obtain ⟨g, hg, eg, mg, -⟩ := h_good hC
  have hmg : nI g &&& cm = cm := by
    rw [ecm]
    apply b_ext
    intro i _
    rw [b_and]
    cases e : bt (C 0 9) i
    · simp
    · rw [(must_in _).mp mg i e]; rfl
  have t305 : ∀ (s0 : Nat) (M : Mem) (H : Heap) (locs : List Loc) (ls : Array Slot), s0 < 2 ^ n → LI M → SV M 0 k t n C → gW z M H → va_S (gA z) s.heap H locs → lv_has ls 12 [(8, .int (nI s0)), (4, .int cm), (3, .int (nI n)), (0, .ref (gad z 0)), (1, .int (nI t)), (2, .int v2)] → W p l e { frames := 7, cells := 0, slots := 0, locals := 162 } s m ([.ref (gad z 0), .int (nI t), .int v2] : List Value).toArray below meth c H locs 0 0 (MQ below (va_Qi (fun r' (M' : Mem) => ((fun (r : Int32) (M' : Mem) => r = 1 ∧ LI M' ∧ M'.1 (0 + 4) 3 = nI k)) r' M') (fun M' t => gW z M' t.heap) (gA z)) ([.ref (gad z 0), .int (nI t), .int v2] : List Value).toArray s 0 0 (gA z)) (F0 m 305 ls []) := by
    intro s0 M H locs ls hs0 hI hV hG hS hl
    obtain ⟨s1, hs1, es1⟩ := of_bits (show n ≤ 32 by omega) (or_lt hC hs0)
    rw [← ecm] at es1
    have hm1 : ∀ i, bt (C 0 9) i = true → bt (nI s1) i = true := by
      rw [← es1, ecm]; exact or_must _
    obtain ⟨vP, eP⟩ : ∃ v, v = isum (fun p => ndS C p (nI s1)) n := ⟨_, rfl⟩
    obtain ⟨vF, eF⟩ : ∃ v, v = isum (fun p => if ndS C p (nI s1) ≤ 0 then (0 : Int32) else 1) n := ⟨_, rfl⟩
    obtain ⟨vJ, eJ⟩ : ∃ v, v = fst1 (rsl C (nI s1)) n := ⟨_, rfl⟩
    have c1 : fX6_pay 4098 M 0 (nI t) (nI s1) = some (vP, M) := by rw [eP]; exact q_pay rfl hV hs1 ((must_in _).mpr hm1) hN0
    have c2 : fX6_few 4098 M 0 (nI t) (nI s1) = some (vF, M) := by rw [eF]; exact q_few rfl hV hs1 ((must_in _).mpr hm1) hN0
    have c3 : fX6_judge 4098 M 0 (nI t) (nI s1) = some (vJ, M) := by rw [eJ]; exact q_judge rfl hV hs1 hN0
    have c4 : fX6_light 4098 M 0 (nI t) 2 = some (nI (lgh C n 2), M) := q_light rfl hV (v := 2) (by decide) (by decide) hN0
    have c5 : fX6_light 4098 M 0 (nI t) 1 = some (nI (lgh C n 1), M) := q_light rfl hV (v := 1) (by decide) (by decide) hN0
    have wP := pay_0 hC (nI s1)
    have wF := few_0 hC (nI s1)
    have wJ := judge_0 hC hm1
    rw [← eP] at wP
    rw [← eF] at wF
    rw [← eJ] at wJ
    have gF : ¬ nI n < vF := by
      obtain ⟨mm, hmm, emm⟩ := few_n hC (nI s1)
      rw [eF, emm]
      exact nI_nlt (by omega) (by omega)
    have gL : ¬ nI (lgh C n 1) < nI (lgh C n 2) := nI_nlt (lgt_le C _ _ n) (by have := lgh_le C n 1; omega)
    by_cases w0 : ∀ p, p < n → wld C p (nI s1) = false
    · have pP := wP.mpr w0
      have pF := wF.mpr w0
      have pJ := wJ.mpr w0
      refine lv_aload_n hx hb dL_holds_305 rfl (lv_at hl 3 rfl) ?_
      refine lv_iload_n hx hb dL_holds_306 rfl (lv_at hl 4 rfl) ?_
      refine lv_iload hx hb dL_holds_307 (lv_at hl 0 rfl) ?_
      refine lv_iload hx hb dL_holds_309 (lv_at hl 1 rfl) ?_
      refine lv_ior hx hb dL_holds_311 ?_
      rw [es1]
      refine g_cVI (a := 0) (ci := 6) (T := TX6) (N := 8) (av := [.int (nI t), .int (nI s1)]) (rest := []) X hG hS (ct_X6_pay l z k_0 n1 c1) mt_X6_pay ml_L_157 rfl ⟨rfl, rfl, Nat.le_of_ble_eq_true rfl, Nat.le_of_ble_eq_true rfl⟩ ⟨Nat.le_refl 0, Nat.le_refl 0⟩ (nx_0 n1) k_0 (by decide) rfl hl.1 (Nat.le_of_ble_eq_true rfl) rfl dL_holds_312 (fun H locs hG hS => ?_)
      have hG : gW z M H := hG
      refine lv_istore (lv' := [(10, .int vP), (8, .int (nI s0)), (4, .int cm), (3, .int (nI n)), (0, .ref (gad z 0)), (1, .int (nI t)), (2, .int v2)]) hx hb dL_holds_315 hl (by decide) rfl (fun ls hl => ?_)
      refine lv_aload_n hx hb dL_holds_317 rfl (lv_at hl 4 rfl) ?_
      refine lv_iload_n hx hb dL_holds_318 rfl (lv_at hl 5 rfl) ?_
      refine lv_iload hx hb dL_holds_319 (lv_at hl 1 rfl) ?_
      refine lv_iload hx hb dL_holds_321 (lv_at hl 2 rfl) ?_
      refine lv_ior hx hb dL_holds_323 ?_
      rw [es1]
      refine g_cVI (a := 0) (ci := 6) (T := TX6) (N := 8) (av := [.int (nI t), .int (nI s1)]) (rest := []) X hG hS (ct_X6_few l z k_0 n1 c2) mt_X6_few ml_L_160 rfl ⟨rfl, rfl, Nat.le_of_ble_eq_true rfl, Nat.le_of_ble_eq_true rfl⟩ ⟨Nat.le_refl 0, Nat.le_refl 0⟩ (nx_0 n1) k_0 (by decide) rfl hl.1 (Nat.le_of_ble_eq_true rfl) rfl dL_holds_324 (fun H locs hG hS => ?_)
      have hG : gW z M H := hG
      refine lv_istore (lv' := [(11, .int vF), (10, .int vP), (8, .int (nI s0)), (4, .int cm), (3, .int (nI n)), (0, .ref (gad z 0)), (1, .int (nI t)), (2, .int v2)]) hx hb dL_holds_327 hl (by decide) rfl (fun ls hl => ?_)
      refine lv_iload hx hb dL_holds_329 (lv_at hl 1 rfl) ?_
      refine lv_if_ne (tgt := 338) hx hb dL_holds_331 (by decide) (fun q => absurd q (fun w => w pP)) (fun q => ?_)
      refine lv_iconst (v := 1) hx hb dL_holds_334 (by decide) ?_
      refine lv_goto (tgt := 339) hx hb dL_holds_335 (by decide) ?_
      refine lv_iload hx hb dL_holds_339 (lv_at hl 0 rfl) ?_
      refine lv_if_ne (tgt := 348) hx hb dL_holds_341 (by decide) (fun q => absurd q (fun w => w pF)) (fun q => ?_)
      refine lv_iconst (v := 1) hx hb dL_holds_344 (by decide) ?_
      refine lv_goto (tgt := 349) hx hb dL_holds_345 (by decide) ?_
      refine lv_icmp_ne (tgt := 409) hx hb dL_holds_349 (by decide) (fun q => absurd q (show ¬ (¬ (1 : Int32) = (1 : Int32)) by decide)) (fun _ => ?_)
      refine lv_iload hx hb dL_holds_352 (lv_at hl 0 rfl) ?_
      refine lv_iload_n hx hb dL_holds_354 rfl (lv_at hl 4 rfl) ?_
      refine lv_icmp_gt (tgt := 409) hx hb dL_holds_355 (by decide) (fun q => absurd q gF) (fun q => ?_)
      refine lv_iload hx hb dL_holds_358 (lv_at hl 0 rfl) ?_
      refine lv_if_ne (tgt := 367) hx hb dL_holds_360 (by decide) (fun q => absurd q (fun w => w pF)) (fun q => ?_)
      refine lv_iconst (v := 1) hx hb dL_holds_363 (by decide) ?_
      refine lv_goto (tgt := 368) hx hb dL_holds_364 (by decide) ?_
      refine lv_aload_n hx hb dL_holds_368 rfl (lv_at hl 5 rfl) ?_
      refine lv_iload_n hx hb dL_holds_369 rfl (lv_at hl 6 rfl) ?_
      refine lv_iload hx hb dL_holds_370 (lv_at hl 2 rfl) ?_
      refine lv_iload hx hb dL_holds_372 (lv_at hl 3 rfl) ?_
      refine lv_ior hx hb dL_holds_374 ?_
      rw [es1]
      refine g_cVI (a := 0) (ci := 6) (T := TX6) (N := 8) (av := [.int (nI t), .int (nI s1)]) (rest := [.int 1]) X hG hS (ct_X6_judge l z k_0 n1 c3) mt_X6_judge ml_L_154 rfl ⟨rfl, rfl, Nat.le_of_ble_eq_true rfl, Nat.le_of_ble_eq_true rfl⟩ ⟨Nat.le_refl 0, Nat.le_refl 0⟩ (nx_0 n1) k_0 (by decide) rfl hl.1 (Nat.le_of_ble_eq_true rfl) rfl dL_holds_375 (fun H locs hG hS => ?_)
      have hG : gW z M H := hG
      refine lv_iconst (v := (-1)) hx hb dL_holds_378 (by decide) ?_
      refine lv_icmp_ne (tgt := 386) hx hb dL_holds_379 (by decide) (fun q => absurd q (fun w => w pJ)) (fun q => ?_)
      refine lv_iconst (v := 1) hx hb dL_holds_382 (by decide) ?_
      refine lv_goto (tgt := 387) hx hb dL_holds_383 (by decide) ?_
      refine lv_icmp_ne (tgt := 409) hx hb dL_holds_387 (by decide) (fun q => absurd q (show ¬ (¬ (1 : Int32) = (1 : Int32)) by decide)) (fun _ => ?_)
      refine lv_aload_n hx hb dL_holds_390 rfl (lv_at hl 5 rfl) ?_
      refine lv_iload_n hx hb dL_holds_391 rfl (lv_at hl 6 rfl) ?_
      refine lv_iconst (v := 2) hx hb dL_holds_392 (by decide) ?_
      refine g_cVI (a := 0) (ci := 6) (T := TX6) (N := 8) (av := [.int (nI t), .int 2]) (rest := []) X hG hS (ct_X6_light l z k_0 n1 c4) mt_X6_light ml_L_172 rfl ⟨rfl, rfl, Nat.le_of_ble_eq_true rfl, Nat.le_of_ble_eq_true rfl⟩ ⟨Nat.le_refl 0, Nat.le_refl 0⟩ (nx_0 n1) k_0 (by decide) rfl hl.1 (Nat.le_of_ble_eq_true rfl) rfl dL_holds_393 (fun H locs hG hS => ?_)
      have hG : gW z M H := hG
      refine lv_aload_n hx hb dL_holds_396 rfl (lv_at hl 5 rfl) ?_
      refine lv_iload_n hx hb dL_holds_397 rfl (lv_at hl 6 rfl) ?_
      refine lv_iconst (v := 1) hx hb dL_holds_398 (by decide) ?_
      refine g_cVI (a := 0) (ci := 6) (T := TX6) (N := 8) (av := [.int (nI t), .int 1]) (rest := [.int (nI (lgh C n 2))]) X hG hS (ct_X6_light l z k_0 n1 c5) mt_X6_light ml_L_172 rfl ⟨rfl, rfl, Nat.le_of_ble_eq_true rfl, Nat.le_of_ble_eq_true rfl⟩ ⟨Nat.le_refl 0, Nat.le_refl 0⟩ (nx_0 n1) k_0 (by decide) rfl hl.1 (Nat.le_of_ble_eq_true rfl) rfl dL_holds_399 (fun H locs hG hS => ?_)
      have hG : gW z M H := hG
      refine lv_icmp_gt (tgt := 409) hx hb dL_holds_402 (by decide) (fun q => absurd q gL) (fun q => ?_)
      refine lv_iconst (v := 1) hx hb dL_holds_405 (by decide) ?_
      refine lv_goto (tgt := 410) hx hb dL_holds_406 (by decide) ?_
      exact g_ezret (P := (fun (r : Int32) (M' : Mem) => r = 1 ∧ LI M' ∧ M'.1 (0 + 4) 3 = nI k)) (Or.inr rfl) ⟨rfl, hI, hV.2.2.1⟩ X hr hlk hG hS dL_holds_410
    · have pP : ¬ vP = 0 := fun w => w0 (wP.mp w)
      have pF : ¬ vF = 0 := fun w => w0 (wF.mp w)
      have pJ : ¬ vJ = -1 := fun w => w0 (wJ.mp w)
      refine lv_aload_n hx hb dL_holds_305 rfl (lv_at hl 3 rfl) ?_
      refine lv_iload_n hx hb dL_holds_306 rfl (lv_at hl 4 rfl) ?_
      refine lv_iload hx hb dL_holds_307 (lv_at hl 0 rfl) ?_
      refine lv_iload hx hb dL_holds_309 (lv_at hl 1 rfl) ?_
      refine lv_ior hx hb dL_holds_311 ?_
      rw [es1]
      refine g_cVI (a := 0) (ci := 6) (T := TX6) (N := 8) (av := [.int (nI t), .int (nI s1)]) (rest := []) X hG hS (ct_X6_pay l z k_0 n1 c1) mt_X6_pay ml_L_157 rfl ⟨rfl, rfl, Nat.le_of_ble_eq_true rfl, Nat.le_of_ble_eq_true rfl⟩ ⟨Nat.le_refl 0, Nat.le_refl 0⟩ (nx_0 n1) k_0 (by decide) rfl hl.1 (Nat.le_of_ble_eq_true rfl) rfl dL_holds_312 (fun H locs hG hS => ?_)
      have hG : gW z M H := hG
      refine lv_istore (lv' := [(10, .int vP), (8, .int (nI s0)), (4, .int cm), (3, .int (nI n)), (0, .ref (gad z 0)), (1, .int (nI t)), (2, .int v2)]) hx hb dL_holds_315 hl (by decide) rfl (fun ls hl => ?_)
      refine lv_aload_n hx hb dL_holds_317 rfl (lv_at hl 4 rfl) ?_
      refine lv_iload_n hx hb dL_holds_318 rfl (lv_at hl 5 rfl) ?_
      refine lv_iload hx hb dL_holds_319 (lv_at hl 1 rfl) ?_
      refine lv_iload hx hb dL_holds_321 (lv_at hl 2 rfl) ?_
      refine lv_ior hx hb dL_holds_323 ?_
      rw [es1]
      refine g_cVI (a := 0) (ci := 6) (T := TX6) (N := 8) (av := [.int (nI t), .int (nI s1)]) (rest := []) X hG hS (ct_X6_few l z k_0 n1 c2) mt_X6_few ml_L_160 rfl ⟨rfl, rfl, Nat.le_of_ble_eq_true rfl, Nat.le_of_ble_eq_true rfl⟩ ⟨Nat.le_refl 0, Nat.le_refl 0⟩ (nx_0 n1) k_0 (by decide) rfl hl.1 (Nat.le_of_ble_eq_true rfl) rfl dL_holds_324 (fun H locs hG hS => ?_)
      have hG : gW z M H := hG
      refine lv_istore (lv' := [(11, .int vF), (10, .int vP), (8, .int (nI s0)), (4, .int cm), (3, .int (nI n)), (0, .ref (gad z 0)), (1, .int (nI t)), (2, .int v2)]) hx hb dL_holds_327 hl (by decide) rfl (fun ls hl => ?_)
      refine lv_iload hx hb dL_holds_329 (lv_at hl 1 rfl) ?_
      refine lv_if_ne (tgt := 338) hx hb dL_holds_331 (by decide) (fun q => ?_) (fun q => absurd q pP)
      refine lv_iconst (v := 0) hx hb dL_holds_338 (by decide) ?_
      refine lv_iload hx hb dL_holds_339 (lv_at hl 0 rfl) ?_
      refine lv_if_ne (tgt := 348) hx hb dL_holds_341 (by decide) (fun q => ?_) (fun q => absurd q pF)
      refine lv_iconst (v := 0) hx hb dL_holds_348 (by decide) ?_
      refine lv_icmp_ne (tgt := 409) hx hb dL_holds_349 (by decide) (fun q => absurd q (show ¬ (¬ (0 : Int32) = (0 : Int32)) by decide)) (fun _ => ?_)
      refine lv_iload hx hb dL_holds_352 (lv_at hl 0 rfl) ?_
      refine lv_iload_n hx hb dL_holds_354 rfl (lv_at hl 4 rfl) ?_
      refine lv_icmp_gt (tgt := 409) hx hb dL_holds_355 (by decide) (fun q => absurd q gF) (fun q => ?_)
      refine lv_iload hx hb dL_holds_358 (lv_at hl 0 rfl) ?_
      refine lv_if_ne (tgt := 367) hx hb dL_holds_360 (by decide) (fun q => ?_) (fun q => absurd q pF)
      refine lv_iconst (v := 0) hx hb dL_holds_367 (by decide) ?_
      refine lv_aload_n hx hb dL_holds_368 rfl (lv_at hl 5 rfl) ?_
      refine lv_iload_n hx hb dL_holds_369 rfl (lv_at hl 6 rfl) ?_
      refine lv_iload hx hb dL_holds_370 (lv_at hl 2 rfl) ?_
      refine lv_iload hx hb dL_holds_372 (lv_at hl 3 rfl) ?_
      refine lv_ior hx hb dL_holds_374 ?_
      rw [es1]
      refine g_cVI (a := 0) (ci := 6) (T := TX6) (N := 8) (av := [.int (nI t), .int (nI s1)]) (rest := [.int 0]) X hG hS (ct_X6_judge l z k_0 n1 c3) mt_X6_judge ml_L_154 rfl ⟨rfl, rfl, Nat.le_of_ble_eq_true rfl, Nat.le_of_ble_eq_true rfl⟩ ⟨Nat.le_refl 0, Nat.le_refl 0⟩ (nx_0 n1) k_0 (by decide) rfl hl.1 (Nat.le_of_ble_eq_true rfl) rfl dL_holds_375 (fun H locs hG hS => ?_)
      have hG : gW z M H := hG
      refine lv_iconst (v := (-1)) hx hb dL_holds_378 (by decide) ?_
      refine lv_icmp_ne (tgt := 386) hx hb dL_holds_379 (by decide) (fun q => ?_) (fun q => absurd q pJ)
      refine lv_iconst (v := 0) hx hb dL_holds_386 (by decide) ?_
      refine lv_icmp_ne (tgt := 409) hx hb dL_holds_387 (by decide) (fun q => absurd q (show ¬ (¬ (0 : Int32) = (0 : Int32)) by decide)) (fun _ => ?_)
      refine lv_aload_n hx hb dL_holds_390 rfl (lv_at hl 5 rfl) ?_
      refine lv_iload_n hx hb dL_holds_391 rfl (lv_at hl 6 rfl) ?_
      refine lv_iconst (v := 2) hx hb dL_holds_392 (by decide) ?_
      refine g_cVI (a := 0) (ci := 6) (T := TX6) (N := 8) (av := [.int (nI t), .int 2]) (rest := []) X hG hS (ct_X6_light l z k_0 n1 c4) mt_X6_light ml_L_172 rfl ⟨rfl, rfl, Nat.le_of_ble_eq_true rfl, Nat.le_of_ble_eq_true rfl⟩ ⟨Nat.le_refl 0, Nat.le_refl 0⟩ (nx_0 n1) k_0 (by decide) rfl hl.1 (Nat.le_of_ble_eq_true rfl) rfl dL_holds_393 (fun H locs hG hS => ?_)
      have hG : gW z M H := hG
      refine lv_aload_n hx hb dL_holds_396 rfl (lv_at hl 5 rfl) ?_
      refine lv_iload_n hx hb dL_holds_397 rfl (lv_at hl 6 rfl) ?_
      refine lv_iconst (v := 1) hx hb dL_holds_398 (by decide) ?_
      refine g_cVI (a := 0) (ci := 6) (T := TX6) (N := 8) (av := [.int (nI t), .int 1]) (rest := [.int (nI (lgh C n 2))]) X hG hS (ct_X6_light l z k_0 n1 c5) mt_X6_light ml_L_172 rfl ⟨rfl, rfl, Nat.le_of_ble_eq_true rfl, Nat.le_of_ble_eq_true rfl⟩ ⟨Nat.le_refl 0, Nat.le_refl 0⟩ (nx_0 n1) k_0 (by decide) rfl hl.1 (Nat.le_of_ble_eq_true rfl) rfl dL_holds_399 (fun H locs hG hS => ?_)
      have hG : gW z M H := hG
      refine lv_icmp_gt (tgt := 409) hx hb dL_holds_402 (by decide) (fun q => absurd q gL) (fun q => ?_)
      refine lv_iconst (v := 1) hx hb dL_holds_405 (by decide) ?_
      refine lv_goto (tgt := 410) hx hb dL_holds_406 (by decide) ?_
      exact g_ezret (P := (fun (r : Int32) (M' : Mem) => r = 1 ∧ LI M' ∧ M'.1 (0 + 4) 3 = nI k)) (Or.inr rfl) ⟨rfl, hI, hV.2.2.1⟩ X hr hlk hG hS dL_holds_410
  have t231 : ∀ (M : Mem) (H : Heap) (locs : List Loc) (ls : Array Slot), LI M → SV M 0 k t n C → gW z M H → va_S (gA z) s.heap H locs → lv_has ls 12 [(4, .int cm), (3, .int (nI n)), (0, .ref (gad z 0)), (1, .int (nI t)), (2, .int v2)] → W p l e { frames := 7, cells := 0, slots := 0, locals := 162 } s m ([.ref (gad z 0), .int (nI t), .int v2] : List Value).toArray below meth c H locs 0 0 (MQ below (va_Qi (fun r' (M' : Mem) => ((fun (r : Int32) (M' : Mem) => r = 1 ∧ LI M' ∧ M'.1 (0 + 4) 3 = nI k)) r' M') (fun M' t => gW z M' t.heap) (gA z)) ([.ref (gad z 0), .int (nI t), .int v2] : List Value).toArray s 0 0 (gA z)) (F0 m 231 ls []) := by
    intro M H locs ls hI hV hG hS hl
    obtain ⟨s0, hs0, es0⟩ := pick_set hn v2
    obtain ⟨e, j, he, hj, h2, hno⟩ := course C hn (or_lt hC hs0)
    obtain ⟨M1, r1, r2⟩ := q_runE (N := 4098) hV hs0 he hj h2 hno hN0
    obtain ⟨hI1, f1⟩ := run_LI hI r2
    have hV1 := SV_fr hV f1
    by_cases je : j = e
    · subst je
      obtain ⟨M3, r3, r4⟩ := q_runE (N := 4098) hV1 hs0 he hj h2 hno hN0
      obtain ⟨hI3, f3⟩ := run_LI hI1 r4
      have hV3 := SV_fr hV1 f3
      obtain ⟨s9, hs9, es9, rs9⟩ := end_rest hC (or_lt hC hs0) (or_must (nI s0)) h2
      have m9 : nI s9 &&& cm = cm := by
        rw [ecm]
        apply b_ext
        intro i _
        rw [b_and]
        cases q : bt (C 0 9) i
        · simp
        · rw [((rst_iff hC _).mp rs9).1 i q]; rfl
      have c1 : fX6_go 4098 M 0 (nI t) (nI s0) = some (nI s9, M1) := by rw [q_go rfl hV hs0 r1 r2, es9]
      have c2 : fX6_ring 4098 M1 0 (nI t) (nI s0) = some (0, M3) := by rw [q_ring rfl hV1 hs0 r3 r4, if_pos rfl]; rfl
      have c3 : fX6_judge 4098 M3 0 (nI t) (nI s9) = some (-1, M3) := by rw [q_judge rfl hV3 hs9 hN0, (fst1_rst (by omega) _).mpr rs9]
      refine lv_iload_n hx hb dL_holds_231 rfl (lv_at hl 4 rfl) ?_
      refine lv_iconst (v := 1) hx hb dL_holds_232 (by decide) ?_
      refine lv_iload_n hx hb dL_holds_233 rfl (lv_at hl 1 rfl) ?_
      refine lv_ishl hx hb dL_holds_234 ?_
      refine lv_iconst (v := 1) hx hb dL_holds_235 (by decide) ?_
      refine lv_isub hx hb dL_holds_236 ?_
      refine lv_iand hx hb dL_holds_237 ?_
      rw [es0]
      refine lv_istore (lv' := [(8, .int (nI s0)), (4, .int cm), (3, .int (nI n)), (0, .ref (gad z 0)), (1, .int (nI t)), (2, .int v2)]) hx hb dL_holds_238 hl (by decide) rfl (fun ls hl => ?_)
      refine lv_aload_n hx hb dL_holds_240 rfl (lv_at hl 3 rfl) ?_
      refine lv_iload_n hx hb dL_holds_241 rfl (lv_at hl 4 rfl) ?_
      refine lv_iload hx hb dL_holds_242 (lv_at hl 0 rfl) ?_
      refine g_cVI (a := 0) (ci := 6) (T := TX6) (N := 8) (av := [.int (nI t), .int (nI s0)]) (rest := []) X hG hS (ct_X6_go l z k_0 n1 c1) mt_X6_go ml_L_163 rfl ⟨rfl, rfl, Nat.le_of_ble_eq_true rfl, Nat.le_of_ble_eq_true rfl⟩ ⟨Nat.le_refl 0, Nat.le_refl 0⟩ (nx_0 n1) k_0 (by decide) rfl hl.1 (Nat.le_of_ble_eq_true rfl) rfl dL_holds_244 (fun H locs hG hS => ?_)
      have hG : gW z M1 H := hG
      refine lv_istore (lv' := [(9, .int (nI s9)), (8, .int (nI s0)), (4, .int cm), (3, .int (nI n)), (0, .ref (gad z 0)), (1, .int (nI t)), (2, .int v2)]) hx hb dL_holds_247 hl (by decide) rfl (fun ls hl => ?_)
      refine lv_iload hx hb dL_holds_249 (lv_at hl 0 rfl) ?_
      refine lv_if_ge (tgt := 258) hx hb dL_holds_251 (by decide) (fun q => ?_) (fun q => absurd q (fun w => w (nI_pos' (by omega))))
      refine lv_iconst (v := 0) hx hb dL_holds_258 (by decide) ?_
      refine lv_aload_n hx hb dL_holds_259 rfl (lv_at hl 4 rfl) ?_
      refine lv_iload_n hx hb dL_holds_260 rfl (lv_at hl 5 rfl) ?_
      refine lv_iload hx hb dL_holds_261 (lv_at hl 1 rfl) ?_
      refine g_cVI (a := 0) (ci := 6) (T := TX6) (N := 8) (av := [.int (nI t), .int (nI s0)]) (rest := [.int 0]) X hG hS (ct_X6_ring l z k_0 n1 c2) mt_X6_ring ml_L_169 rfl ⟨rfl, rfl, Nat.le_of_ble_eq_true rfl, Nat.le_of_ble_eq_true rfl⟩ ⟨Nat.le_refl 0, Nat.le_refl 0⟩ (nx_0 n1) k_0 (by decide) rfl hl.1 (Nat.le_of_ble_eq_true rfl) rfl dL_holds_263 (fun H locs hG hS => ?_)
      have hG : gW z M3 H := hG
      refine lv_if_le (tgt := 273) hx hb dL_holds_266 (by decide) (fun _ => ?_) (fun q => absurd q (show ¬ (¬ (0 : Int32) ≤ (0 : Int32)) by decide))
      refine lv_iconst (v := 0) hx hb dL_holds_273 (by decide) ?_
      refine lv_icmp_ne (tgt := 303) hx hb dL_holds_274 (by decide) (fun q => absurd q (show ¬ (¬ (0 : Int32) = (0 : Int32)) by decide)) (fun _ => ?_)
      refine lv_iload hx hb dL_holds_277 (lv_at hl 0 rfl) ?_
      refine lv_if_lt (tgt := 305) hx hb dL_holds_279 (by decide) (fun q => absurd q (nI_pos (by omega))) (fun q => ?_)
      refine lv_aload_n hx hb dL_holds_282 rfl (lv_at hl 4 rfl) ?_
      refine lv_iload_n hx hb dL_holds_283 rfl (lv_at hl 5 rfl) ?_
      refine lv_iload hx hb dL_holds_284 (lv_at hl 0 rfl) ?_
      refine g_cVI (a := 0) (ci := 6) (T := TX6) (N := 8) (av := [.int (nI t), .int (nI s9)]) (rest := []) X hG hS (ct_X6_judge l z k_0 n1 c3) mt_X6_judge ml_L_154 rfl ⟨rfl, rfl, Nat.le_of_ble_eq_true rfl, Nat.le_of_ble_eq_true rfl⟩ ⟨Nat.le_refl 0, Nat.le_refl 0⟩ (nx_0 n1) k_0 (by decide) rfl hl.1 (Nat.le_of_ble_eq_true rfl) rfl dL_holds_286 (fun H locs hG hS => ?_)
      have hG : gW z M3 H := hG
      refine lv_iconst (v := (-1)) hx hb dL_holds_289 (by decide) ?_
      refine lv_icmp_ne (tgt := 303) hx hb dL_holds_290 (by decide) (fun q => absurd q (show ¬ (¬ (-1 : Int32) = (-1 : Int32)) by decide)) (fun _ => ?_)
      refine lv_iload hx hb dL_holds_293 (lv_at hl 0 rfl) ?_
      refine lv_iload hx hb dL_holds_295 (lv_at hl 2 rfl) ?_
      refine lv_iand hx hb dL_holds_297 ?_
      refine lv_iload hx hb dL_holds_298 (lv_at hl 2 rfl) ?_
      refine lv_icmp_eq (tgt := 305) hx hb dL_holds_300 (by decide) (fun q => ?_) (fun q => absurd q (fun w => w m9))
      exact t305 s0 M3 H locs ls hs0 hI3 hV3 hG hS (lv_sub hl [1, 2, 3, 4, 5, 6] rfl)
    · obtain ⟨hI2, d2, f2⟩ := refuse_LI hI1
      obtain ⟨M2, eM2⟩ : ∃ M2, M2 = rM 119 (rC 0 M1 5) 5 := ⟨_, rfl⟩
      rw [← eM2] at hI2 d2 f2
      have hV2 := SV_fr hV1 f2
      obtain ⟨M3, r3, r4⟩ := q_runE (N := 4098) hV2 hs0 he hj h2 hno hN0
      obtain ⟨hI3, f3⟩ := run_LI hI2 r4
      have hV3 := SV_fr hV2 f3
      have c1 : fX6_go 4098 M 0 (nI t) (nI s0) = some (-5, rC 0 M1 5) := q_goR rfl hV hs0 he hj je r1 r2
      have c2 : fX6_ring 4098 M2 0 (nI t) (nI s0) = some (nI (e + 1 - j), M3) := by rw [q_ring rfl hV2 hs0 r3 r4, if_neg je]
      refine lv_iload_n hx hb dL_holds_231 rfl (lv_at hl 4 rfl) ?_
      refine lv_iconst (v := 1) hx hb dL_holds_232 (by decide) ?_
      refine lv_iload_n hx hb dL_holds_233 rfl (lv_at hl 1 rfl) ?_
      refine lv_ishl hx hb dL_holds_234 ?_
      refine lv_iconst (v := 1) hx hb dL_holds_235 (by decide) ?_
      refine lv_isub hx hb dL_holds_236 ?_
      refine lv_iand hx hb dL_holds_237 ?_
      rw [es0]
      refine lv_istore (lv' := [(8, .int (nI s0)), (4, .int cm), (3, .int (nI n)), (0, .ref (gad z 0)), (1, .int (nI t)), (2, .int v2)]) hx hb dL_holds_238 hl (by decide) rfl (fun ls hl => ?_)
      refine lv_aload_n hx hb dL_holds_240 rfl (lv_at hl 3 rfl) ?_
      refine lv_iload_n hx hb dL_holds_241 rfl (lv_at hl 4 rfl) ?_
      refine lv_iload hx hb dL_holds_242 (lv_at hl 0 rfl) ?_
      refine g_cVI (a := 0) (ci := 6) (T := TX6) (N := 8) (av := [.int (nI t), .int (nI s0)]) (rest := []) X hG hS (ct_X6_go l z k_0 n1 c1) mt_X6_go ml_L_163 rfl ⟨rfl, rfl, Nat.le_of_ble_eq_true rfl, Nat.le_of_ble_eq_true rfl⟩ ⟨Nat.le_refl 0, Nat.le_refl 0⟩ (nx_0 n1) k_0 (by decide) rfl hl.1 (Nat.le_of_ble_eq_true rfl) rfl dL_holds_244 (fun H locs hG hS => ?_)
      have hG : gW z M2 H := gW_sw (M := rC 0 M1 5) (fun x hx => d2 x (Nat.lt_of_lt_of_le hx hz)) hG
      refine lv_istore (lv' := [(9, .int (-5)), (8, .int (nI s0)), (4, .int cm), (3, .int (nI n)), (0, .ref (gad z 0)), (1, .int (nI t)), (2, .int v2)]) hx hb dL_holds_247 hl (by decide) rfl (fun ls hl => ?_)
      refine lv_iload hx hb dL_holds_249 (lv_at hl 0 rfl) ?_
      refine lv_if_ge (tgt := 258) hx hb dL_holds_251 (by decide) (fun q => absurd q (show ¬ (0 : Int32) ≤ (-5 : Int32) by decide)) (fun _ => ?_)
      refine lv_iconst (v := 1) hx hb dL_holds_254 (by decide) ?_
      refine lv_goto (tgt := 259) hx hb dL_holds_255 (by decide) ?_
      refine lv_aload_n hx hb dL_holds_259 rfl (lv_at hl 4 rfl) ?_
      refine lv_iload_n hx hb dL_holds_260 rfl (lv_at hl 5 rfl) ?_
      refine lv_iload hx hb dL_holds_261 (lv_at hl 1 rfl) ?_
      refine g_cVI (a := 0) (ci := 6) (T := TX6) (N := 8) (av := [.int (nI t), .int (nI s0)]) (rest := [.int 1]) X hG hS (ct_X6_ring l z k_0 n1 c2) mt_X6_ring ml_L_169 rfl ⟨rfl, rfl, Nat.le_of_ble_eq_true rfl, Nat.le_of_ble_eq_true rfl⟩ ⟨Nat.le_refl 0, Nat.le_refl 0⟩ (nx_0 n1) k_0 (by decide) rfl hl.1 (Nat.le_of_ble_eq_true rfl) rfl dL_holds_263 (fun H locs hG hS => ?_)
      have hG : gW z M3 H := hG
      refine lv_if_le (tgt := 273) hx hb dL_holds_266 (by decide) (fun q => absurd q (nI_nle (by omega) (by omega))) (fun q => ?_)
      refine lv_iconst (v := 1) hx hb dL_holds_269 (by decide) ?_
      refine lv_goto (tgt := 274) hx hb dL_holds_270 (by decide) ?_
      refine lv_icmp_ne (tgt := 303) hx hb dL_holds_274 (by decide) (fun q => absurd q (show ¬ (¬ (1 : Int32) = (1 : Int32)) by decide)) (fun _ => ?_)
      refine lv_iload hx hb dL_holds_277 (lv_at hl 0 rfl) ?_
      refine lv_if_lt (tgt := 305) hx hb dL_holds_279 (by decide) (fun _ => ?_) (fun q => absurd q (show ¬ (¬ (-5 : Int32) < (0 : Int32)) by decide))
      exact t305 s0 M3 H locs ls hs0 hI3 hV3 hG hS (lv_sub hl [1, 2, 3, 4, 5, 6] rfl)
  have loop : ∀ (d i : Nat) (M : Mem) (H : Heap) (locs : List Loc) (ls : Array Slot), i + d = 4 → LI M → SV M 0 k t n C → gW z M H → va_S (gA z) s.heap H locs → lv_has ls 12 [(8, .int (nI i)), (5, .int (nI ct)), (4, .int cm), (3, .int (nI n)), (0, .ref (gad z 0)), (1, .int (nI t)), (2, .int v2)] → W p l e { frames := 7, cells := 0, slots := 0, locals := 162 } s m ([.ref (gad z 0), .int (nI t), .int v2] : List Value).toArray below meth c H locs 0 0 (MQ below (va_Qi (fun r' (M' : Mem) => ((fun (r : Int32) (M' : Mem) => r = 1 ∧ LI M' ∧ M'.1 (0 + 4) 3 = nI k)) r' M') (fun M' t => gW z M' t.heap) (gA z)) ([.ref (gad z 0), .int (nI t), .int v2] : List Value).toArray s 0 0 (gA z)) (F0 m 148 ls []) := by
    intro d
    induction d with
    | zero =>
      intro i M H locs ls ei hI hV hG hS hl
      refine lv_iload hx hb dL_holds_148 (lv_at hl 0 rfl) ?_
      refine lv_iload hx hb dL_holds_150 (lv_at hl 1 rfl) ?_
      refine lv_icmp_ge (tgt := 231) hx hb dL_holds_152 (by decide) (fun q152 => ?_) (fun q152 => ?_)
      · skip
        exact t231 M H locs ls hI hV hG hS (lv_sub hl [2, 3, 4, 5, 6] rfl)
      · skip
        refine lv_iload hx hb dL_holds_155 (lv_at hl 0 rfl) ?_
        refine lv_iconst (v := 4) hx hb dL_holds_157 (by decide) ?_
        refine lv_icmp_ge (tgt := 231) hx hb dL_holds_158 (by decide) (fun q => ?_) (fun q => absurd q (fun w => w (show (4 : Int32) ≤ nI i from nI_le (a := 4) (by omega) (by omega))))
        exact t231 M H locs ls hI hV hG hS (lv_sub hl [2, 3, 4, 5, 6] rfl)
    | succ d ih =>
      intro i M H locs ls ei hI hV hG hS hl
      refine lv_iload hx hb dL_holds_148 (lv_at hl 0 rfl) ?_
      refine lv_iload hx hb dL_holds_150 (lv_at hl 1 rfl) ?_
      refine lv_icmp_ge (tgt := 231) hx hb dL_holds_152 (by decide) (fun q152 => ?_) (fun q152 => ?_)
      · skip
        exact t231 M H locs ls hI hV hG hS (lv_sub hl [2, 3, 4, 5, 6] rfl)
      · skip
        have hi : i < fb_ct (fun s => rst C n (nI s)) (2 ^ n) := by
          rw [← ect]
          rcases Nat.lt_or_ge i ct with w | w
          · exact w
          · exact absurd (nI_le w (by omega)) q152
        obtain ⟨r, hr_, rr, c1⟩ := q_rest rfl hV hN0 hi
        have c2 : fX6_judge 4098 M 0 (nI t) (nI r) = some (-1, M) := by rw [q_judge rfl hV hr_ hN0, (fst1_rst (by omega) _).mpr rr]
        have w0 := ((rst_iff hC _).mp rr).2
        have c3 : fX6_pay 4098 M 0 (nI t) (nI r) = some (0, M) := by rw [q_pay rfl hV hr_ (rst_must hC rr) hN0, (pay_0 hC _).mpr w0]
        have c4 : fX6_few 4098 M 0 (nI t) (nI r) = some (0, M) := by rw [q_few rfl hV hr_ (rst_must hC rr) hN0, (few_0 hC _).mpr w0]
        obtain ⟨M1, c5, -, hI1, hV1⟩ := rest_go hI hV hr_ rr
        obtain ⟨M3, -, c6, hI3, hV3⟩ := rest_go hI1 hV1 hr_ rr
        refine lv_iload hx hb dL_holds_155 (lv_at hl 0 rfl) ?_
        refine lv_iconst (v := 4) hx hb dL_holds_157 (by decide) ?_
        refine lv_icmp_ge (tgt := 231) hx hb dL_holds_158 (by decide) (fun q => absurd q (show ¬ (4 : Int32) ≤ nI i from nI_ge (b := 4) (by omega) (by decide))) (fun q => ?_)
        refine lv_aload_n hx hb dL_holds_161 rfl (lv_at hl 4 rfl) ?_
        refine lv_iload_n hx hb dL_holds_162 rfl (lv_at hl 5 rfl) ?_
        refine lv_iload hx hb dL_holds_163 (lv_at hl 0 rfl) ?_
        refine g_cVI (a := 0) (ci := 6) (T := TX6) (N := 8) (av := [.int (nI t), .int (nI i)]) (rest := []) X hG hS (ct_X6_rest l z k_0 n1 c1) mt_X6_rest ml_L_151 rfl ⟨rfl, rfl, Nat.le_of_ble_eq_true rfl, Nat.le_of_ble_eq_true rfl⟩ ⟨Nat.le_refl 0, Nat.le_refl 0⟩ (nx_0 n1) k_0 (by decide) rfl hl.1 (Nat.le_of_ble_eq_true rfl) rfl dL_holds_165 (fun H locs hG hS => ?_)
        have hG : gW z M H := hG
        refine lv_istore (lv' := [(9, .int (nI r)), (8, .int (nI i)), (5, .int (nI ct)), (4, .int cm), (3, .int (nI n)), (0, .ref (gad z 0)), (1, .int (nI t)), (2, .int v2)]) hx hb dL_holds_168 hl (by decide) rfl (fun ls hl => ?_)
        refine lv_aload_n hx hb dL_holds_170 rfl (lv_at hl 5 rfl) ?_
        refine lv_iload_n hx hb dL_holds_171 rfl (lv_at hl 6 rfl) ?_
        refine lv_iload hx hb dL_holds_172 (lv_at hl 0 rfl) ?_
        refine g_cVI (a := 0) (ci := 6) (T := TX6) (N := 8) (av := [.int (nI t), .int (nI r)]) (rest := []) X hG hS (ct_X6_judge l z k_0 n1 c2) mt_X6_judge ml_L_154 rfl ⟨rfl, rfl, Nat.le_of_ble_eq_true rfl, Nat.le_of_ble_eq_true rfl⟩ ⟨Nat.le_refl 0, Nat.le_refl 0⟩ (nx_0 n1) k_0 (by decide) rfl hl.1 (Nat.le_of_ble_eq_true rfl) rfl dL_holds_174 (fun H locs hG hS => ?_)
        have hG : gW z M H := hG
        refine lv_iconst (v := (-1)) hx hb dL_holds_177 (by decide) ?_
        refine lv_icmp_ne (tgt := 223) hx hb dL_holds_178 (by decide) (fun q => absurd q (show ¬ (¬ (-1 : Int32) = (-1 : Int32)) by decide)) (fun _ => ?_)
        refine lv_aload_n hx hb dL_holds_181 rfl (lv_at hl 5 rfl) ?_
        refine lv_iload_n hx hb dL_holds_182 rfl (lv_at hl 6 rfl) ?_
        refine lv_iload hx hb dL_holds_183 (lv_at hl 0 rfl) ?_
        refine g_cVI (a := 0) (ci := 6) (T := TX6) (N := 8) (av := [.int (nI t), .int (nI r)]) (rest := []) X hG hS (ct_X6_pay l z k_0 n1 c3) mt_X6_pay ml_L_157 rfl ⟨rfl, rfl, Nat.le_of_ble_eq_true rfl, Nat.le_of_ble_eq_true rfl⟩ ⟨Nat.le_refl 0, Nat.le_refl 0⟩ (nx_0 n1) k_0 (by decide) rfl hl.1 (Nat.le_of_ble_eq_true rfl) rfl dL_holds_185 (fun H locs hG hS => ?_)
        have hG : gW z M H := hG
        refine lv_if_ne (tgt := 223) hx hb dL_holds_188 (by decide) (fun q => absurd q (show ¬ (¬ (0 : Int32) = (0 : Int32)) by decide)) (fun _ => ?_)
        refine lv_aload_n hx hb dL_holds_191 rfl (lv_at hl 5 rfl) ?_
        refine lv_iload_n hx hb dL_holds_192 rfl (lv_at hl 6 rfl) ?_
        refine lv_iload hx hb dL_holds_193 (lv_at hl 0 rfl) ?_
        refine g_cVI (a := 0) (ci := 6) (T := TX6) (N := 8) (av := [.int (nI t), .int (nI r)]) (rest := []) X hG hS (ct_X6_few l z k_0 n1 c4) mt_X6_few ml_L_160 rfl ⟨rfl, rfl, Nat.le_of_ble_eq_true rfl, Nat.le_of_ble_eq_true rfl⟩ ⟨Nat.le_refl 0, Nat.le_refl 0⟩ (nx_0 n1) k_0 (by decide) rfl hl.1 (Nat.le_of_ble_eq_true rfl) rfl dL_holds_195 (fun H locs hG hS => ?_)
        have hG : gW z M H := hG
        refine lv_if_ne (tgt := 223) hx hb dL_holds_198 (by decide) (fun q => absurd q (show ¬ (¬ (0 : Int32) = (0 : Int32)) by decide)) (fun _ => ?_)
        refine lv_aload_n hx hb dL_holds_201 rfl (lv_at hl 5 rfl) ?_
        refine lv_iload_n hx hb dL_holds_202 rfl (lv_at hl 6 rfl) ?_
        refine lv_iload hx hb dL_holds_203 (lv_at hl 0 rfl) ?_
        refine g_cVI (a := 0) (ci := 6) (T := TX6) (N := 8) (av := [.int (nI t), .int (nI r)]) (rest := []) X hG hS (ct_X6_go l z k_0 n1 c5) mt_X6_go ml_L_163 rfl ⟨rfl, rfl, Nat.le_of_ble_eq_true rfl, Nat.le_of_ble_eq_true rfl⟩ ⟨Nat.le_refl 0, Nat.le_refl 0⟩ (nx_0 n1) k_0 (by decide) rfl hl.1 (Nat.le_of_ble_eq_true rfl) rfl dL_holds_205 (fun H locs hG hS => ?_)
        have hG : gW z M1 H := hG
        refine lv_iload hx hb dL_holds_208 (lv_at hl 0 rfl) ?_
        refine lv_icmp_ne (tgt := 223) hx hb dL_holds_210 (by decide) (fun q => absurd q (fun w => w rfl)) (fun q => ?_)
        refine lv_aload_n hx hb dL_holds_213 rfl (lv_at hl 5 rfl) ?_
        refine lv_iload_n hx hb dL_holds_214 rfl (lv_at hl 6 rfl) ?_
        refine lv_iload hx hb dL_holds_215 (lv_at hl 0 rfl) ?_
        refine g_cVI (a := 0) (ci := 6) (T := TX6) (N := 8) (av := [.int (nI t), .int (nI r)]) (rest := []) X hG hS (ct_X6_turns l z k_0 n1 c6) mt_X6_turns ml_L_166 rfl ⟨rfl, rfl, Nat.le_of_ble_eq_true rfl, Nat.le_of_ble_eq_true rfl⟩ ⟨Nat.le_refl 0, Nat.le_refl 0⟩ (nx_0 n1) k_0 (by decide) rfl hl.1 (Nat.le_of_ble_eq_true rfl) rfl dL_holds_217 (fun H locs hG hS => ?_)
        have hG : gW z M3 H := hG
        refine lv_if_eq (tgt := 225) hx hb dL_holds_220 (by decide) (fun _ => ?_) (fun q => absurd q (show ¬ (¬ (0 : Int32) = (0 : Int32)) by decide))
        refine lv_iinc (v := (nI (i + 1))) (lv' := [(8, .int (nI (i + 1))), (9, .int (nI r)), (5, .int (nI ct)), (4, .int cm), (3, .int (nI n)), (0, .ref (gad z 0)), (1, .int (nI t)), (2, .int v2)]) hx hb dL_holds_225 hl (k := 1) rfl (inc_nI _) (by decide) rfl (fun ls hl => ?_)
        refine lv_goto (tgt := 148) hx hb dL_holds_228 (by decide) ?_
        exact ih (i + 1) M3 H locs ls (by omega) hI3 hV3 hG hS (lv_sub hl [0, 2, 3, 4, 5, 6, 7] rfl)
  have b2 : fX6_streetOf 4098 M 0 (nI t) 3 = some (cm, M) := by rw [ecm]; exact q_musts rfl hV
  have b3 : fX6_count 4098 M 0 (nI t) = some (nI ct, M) := by rw [ect]; exact q_count rfl hV hN0
  have b5 : fX6_good 4098 M 0 (nI t) = some (nI g, M) := by rw [q_good rfl hV hN0, eg]
  by_cases c0 : ct = 0
  · have b4 : fX6_best 4098 M 0 (nI t) = some (-1, M) := by
      rcases h_pick hC 3 with ⟨w, -⟩ | ⟨w, -⟩
      · rw [q_best rfl hV hN0, w]
      · omega
    have z0 : nI ct = 0 := by rw [c0]; rfl
    have z1 : nI ct ≤ 0 := by rw [c0]; decide
    refine lv_aload_n hx hb dL_holds_0 rfl (lv_at hl 0 rfl) ?_
    refine lv_iload_n hx hb dL_holds_1 rfl (lv_at hl 1 rfl) ?_
    refine lv_iconst (v := 0) hx hb dL_holds_2 (by decide) ?_
    refine g_cVI (a := 0) (ci := 6) (T := TX6) (N := 8) (av := [.int (nI t), .int 0]) (rest := []) X hG hS (ct_X6_streetOf l z k_0 n1 (q_people (N := 4098) rfl hV)) mt_X6_streetOf ml_L_100 rfl ⟨rfl, rfl, Nat.le_of_ble_eq_true rfl, Nat.le_of_ble_eq_true rfl⟩ ⟨Nat.le_refl 0, Nat.le_refl 0⟩ (nx_0 n1) k_0 (by decide) rfl hl.1 (Nat.le_of_ble_eq_true rfl) rfl dL_holds_3 (fun H locs hG hS => ?_)
    have hG : gW z M H := hG
    refine lv_istore_n (lv' := [(3, .int (nI n)), (0, .ref (gad z 0)), (1, .int (nI t)), (2, .int v2)]) hx hb dL_holds_6 rfl hl (by decide) rfl (fun ls hl => ?_)
    refine lv_aload_n hx hb dL_holds_7 rfl (lv_at hl 1 rfl) ?_
    refine lv_iload_n hx hb dL_holds_8 rfl (lv_at hl 2 rfl) ?_
    refine lv_iconst (v := 3) hx hb dL_holds_9 (by decide) ?_
    refine g_cVI (a := 0) (ci := 6) (T := TX6) (N := 8) (av := [.int (nI t), .int 3]) (rest := []) X hG hS (ct_X6_streetOf l z k_0 n1 b2) mt_X6_streetOf ml_L_100 rfl ⟨rfl, rfl, Nat.le_of_ble_eq_true rfl, Nat.le_of_ble_eq_true rfl⟩ ⟨Nat.le_refl 0, Nat.le_refl 0⟩ (nx_0 n1) k_0 (by decide) rfl hl.1 (Nat.le_of_ble_eq_true rfl) rfl dL_holds_10 (fun H locs hG hS => ?_)
    have hG : gW z M H := hG
    refine lv_istore (lv' := [(4, .int cm), (3, .int (nI n)), (0, .ref (gad z 0)), (1, .int (nI t)), (2, .int v2)]) hx hb dL_holds_13 hl (by decide) rfl (fun ls hl => ?_)
    refine lv_aload_n hx hb dL_holds_15 rfl (lv_at hl 2 rfl) ?_
    refine lv_iload_n hx hb dL_holds_16 rfl (lv_at hl 3 rfl) ?_
    refine g_cVI (a := 0) (ci := 6) (T := TX6) (N := 8) (av := [.int (nI t)]) (rest := []) X hG hS (ct_X6_count l z k_0 n1 b3) mt_X6_count ml_L_124 rfl ⟨rfl, rfl, Nat.le_of_ble_eq_true rfl, Nat.le_of_ble_eq_true rfl⟩ ⟨Nat.le_refl 0, Nat.le_refl 0⟩ (nx_0 n1) k_0 (by decide) rfl hl.1 (Nat.le_of_ble_eq_true rfl) rfl dL_holds_17 (fun H locs hG hS => ?_)
    have hG : gW z M H := hG
    refine lv_istore (lv' := [(5, .int (nI ct)), (4, .int cm), (3, .int (nI n)), (0, .ref (gad z 0)), (1, .int (nI t)), (2, .int v2)]) hx hb dL_holds_20 hl (by decide) rfl (fun ls hl => ?_)
    refine lv_aload_n hx hb dL_holds_22 rfl (lv_at hl 3 rfl) ?_
    refine lv_iload_n hx hb dL_holds_23 rfl (lv_at hl 4 rfl) ?_
    refine g_cVI (a := 0) (ci := 6) (T := TX6) (N := 8) (av := [.int (nI t)]) (rest := []) X hG hS (ct_X6_best l z k_0 n1 b4) mt_X6_best ml_L_127 rfl ⟨rfl, rfl, Nat.le_of_ble_eq_true rfl, Nat.le_of_ble_eq_true rfl⟩ ⟨Nat.le_refl 0, Nat.le_refl 0⟩ (nx_0 n1) k_0 (by decide) rfl hl.1 (Nat.le_of_ble_eq_true rfl) rfl dL_holds_24 (fun H locs hG hS => ?_)
    have hG : gW z M H := hG
    refine lv_istore (lv' := [(6, .int (-1)), (5, .int (nI ct)), (4, .int cm), (3, .int (nI n)), (0, .ref (gad z 0)), (1, .int (nI t)), (2, .int v2)]) hx hb dL_holds_27 hl (by decide) rfl (fun ls hl => ?_)
    refine lv_aload_n hx hb dL_holds_29 rfl (lv_at hl 4 rfl) ?_
    refine lv_iload_n hx hb dL_holds_30 rfl (lv_at hl 5 rfl) ?_
    refine g_cVI (a := 0) (ci := 6) (T := TX6) (N := 8) (av := [.int (nI t)]) (rest := []) X hG hS (ct_X6_good l z k_0 n1 b5) mt_X6_good ml_L_130 rfl ⟨rfl, rfl, Nat.le_of_ble_eq_true rfl, Nat.le_of_ble_eq_true rfl⟩ ⟨Nat.le_refl 0, Nat.le_refl 0⟩ (nx_0 n1) k_0 (by decide) rfl hl.1 (Nat.le_of_ble_eq_true rfl) rfl dL_holds_31 (fun H locs hG hS => ?_)
    have hG : gW z M H := hG
    refine lv_istore (lv' := [(7, .int (nI g)), (6, .int (-1)), (5, .int (nI ct)), (4, .int cm), (3, .int (nI n)), (0, .ref (gad z 0)), (1, .int (nI t)), (2, .int v2)]) hx hb dL_holds_34 hl (by decide) rfl (fun ls hl => ?_)
    refine lv_iload hx hb dL_holds_36 (lv_at hl 2 rfl) ?_
    refine lv_if_lt (tgt := 143) hx hb dL_holds_38 (by decide) (fun q => absurd q (nI_pos (by omega))) (fun q => ?_)
    refine lv_iload hx hb dL_holds_41 (lv_at hl 2 rfl) ?_
    refine lv_if_ne (tgt := 50) hx hb dL_holds_43 (by decide) (fun q => absurd q (fun w => w z0)) (fun q => ?_)
    refine lv_iconst (v := 1) hx hb dL_holds_46 (by decide) ?_
    refine lv_goto (tgt := 51) hx hb dL_holds_47 (by decide) ?_
    refine lv_iload hx hb dL_holds_51 (lv_at hl 1 rfl) ?_
    refine lv_iconst (v := (-1)) hx hb dL_holds_53 (by decide) ?_
    refine lv_icmp_ne (tgt := 61) hx hb dL_holds_54 (by decide) (fun q => absurd q (show ¬ (¬ (-1 : Int32) = (-1 : Int32)) by decide)) (fun _ => ?_)
    refine lv_iconst (v := 1) hx hb dL_holds_57 (by decide) ?_
    refine lv_goto (tgt := 62) hx hb dL_holds_58 (by decide) ?_
    refine lv_icmp_ne (tgt := 143) hx hb dL_holds_62 (by decide) (fun q => absurd q (show ¬ (¬ (1 : Int32) = (1 : Int32)) by decide)) (fun _ => ?_)
    refine lv_iload hx hb dL_holds_65 (lv_at hl 0 rfl) ?_
    refine lv_iload hx hb dL_holds_67 (lv_at hl 3 rfl) ?_
    refine lv_iand hx hb dL_holds_69 ?_
    refine lv_iload hx hb dL_holds_70 (lv_at hl 3 rfl) ?_
    refine lv_icmp_ne (tgt := 143) hx hb dL_holds_72 (by decide) (fun q => absurd q (fun w => w hmg)) (fun q => ?_)
    refine lv_iload hx hb dL_holds_75 (lv_at hl 2 rfl) ?_
    refine lv_if_le (tgt := 145) hx hb dL_holds_77 (by decide) (fun q => ?_) (fun q => absurd q (fun w => w z1))
    refine lv_iconst (v := 0) hx hb dL_holds_145 (by decide) ?_
    refine lv_istore (lv' := [(8, .int 0), (7, .int (nI g)), (6, .int (-1)), (5, .int (nI ct)), (4, .int cm), (3, .int (nI n)), (0, .ref (gad z 0)), (1, .int (nI t)), (2, .int v2)]) hx hb dL_holds_146 hl (by decide) rfl (fun ls hl => ?_)
    exact loop 4 0 M H locs ls rfl hI hV hG hS (lv_sub hl [0, 3, 4, 5, 6, 7, 8] rfl)
  · have cp : 0 < fb_ct (fun s => rst C n (nI s)) (2 ^ n) := by omega
    obtain ⟨sb, g', hsb, -, esb, eg', -, e3, l3, l4⟩ := h_below hC cp
    have gg : nI g' = nI g := eg'.symm.trans eg
    have gn : g' = g ∨ True := Or.inr trivial
    obtain ⟨sf, sm, hsf, hsm, esf, esm, lbm⟩ := h_bits hC cp
    have b4 : fX6_best 4098 M 0 (nI t) = some (nI sb, M) := by rw [q_best rfl hV hN0, esb]
    obtain ⟨vL, eL⟩ : ∃ v, v = blw C n 3 := ⟨_, rfl⟩
    obtain ⟨vE, eE⟩ : ∃ v, v = blw C n 4 := ⟨_, rfl⟩
    obtain ⟨vT, eT⟩ : ∃ v, v = gG C n g := ⟨_, rfl⟩
    obtain ⟨vU, eU⟩ : ∃ v, v = gG C n sb := ⟨_, rfl⟩
    have c1 : fX6_lost 4098 M 0 (nI t) = some (vL, M) := by rw [eL]; exact q_lost rfl hV hN0
    have c2 : fX6_beside 4098 M 0 (nI t) = some (vE, M) := by rw [eE]; exact q_beside rfl hV hN0
    have c3 : fX6_total 4098 M 0 (nI t) (nI g) = some (vT, M) := by rw [eT]; exact q_total rfl hV hg hN0
    have c4 : fX6_total 4098 M 0 (nI t) (nI sb) = some (vU, M) := by rw [eU]; exact q_total rfl hV hsb hN0
    have c5 : fX6_fewest 4098 M 0 (nI t) = some (nI sf, M) := by rw [q_fewest rfl hV hN0, esf]
    have c6 : fX6_most 4098 M 0 (nI t) = some (nI sm, M) := by rw [q_most rfl hV hN0, esm]
    have y1 : ¬ vL < 0 := by rw [eL]; exact l3
    have y2 : ¬ vE < vL := by rw [eL, eE]; exact l4
    have y3 : vT - vU = vL := by
      rw [eT, eU, eL, e3]
      unfold gG
      rw [gg]
    have y4 : nI (fb_ct (bt (nI sf)) 12) ≤ nI (fb_ct (bt (nI sm)) 12) := fa_of_nlt lbm
    have z0 : ¬ nI ct = 0 := nI_ne0 (by omega) (by omega)
    have z1 : ¬ nI ct ≤ 0 := nI_nle (by omega) (by omega)
    refine lv_aload_n hx hb dL_holds_0 rfl (lv_at hl 0 rfl) ?_
    refine lv_iload_n hx hb dL_holds_1 rfl (lv_at hl 1 rfl) ?_
    refine lv_iconst (v := 0) hx hb dL_holds_2 (by decide) ?_
    refine g_cVI (a := 0) (ci := 6) (T := TX6) (N := 8) (av := [.int (nI t), .int 0]) (rest := []) X hG hS (ct_X6_streetOf l z k_0 n1 (q_people (N := 4098) rfl hV)) mt_X6_streetOf ml_L_100 rfl ⟨rfl, rfl, Nat.le_of_ble_eq_true rfl, Nat.le_of_ble_eq_true rfl⟩ ⟨Nat.le_refl 0, Nat.le_refl 0⟩ (nx_0 n1) k_0 (by decide) rfl hl.1 (Nat.le_of_ble_eq_true rfl) rfl dL_holds_3 (fun H locs hG hS => ?_)
    have hG : gW z M H := hG
    refine lv_istore_n (lv' := [(3, .int (nI n)), (0, .ref (gad z 0)), (1, .int (nI t)), (2, .int v2)]) hx hb dL_holds_6 rfl hl (by decide) rfl (fun ls hl => ?_)
    refine lv_aload_n hx hb dL_holds_7 rfl (lv_at hl 1 rfl) ?_
    refine lv_iload_n hx hb dL_holds_8 rfl (lv_at hl 2 rfl) ?_
    refine lv_iconst (v := 3) hx hb dL_holds_9 (by decide) ?_
    refine g_cVI (a := 0) (ci := 6) (T := TX6) (N := 8) (av := [.int (nI t), .int 3]) (rest := []) X hG hS (ct_X6_streetOf l z k_0 n1 b2) mt_X6_streetOf ml_L_100 rfl ⟨rfl, rfl, Nat.le_of_ble_eq_true rfl, Nat.le_of_ble_eq_true rfl⟩ ⟨Nat.le_refl 0, Nat.le_refl 0⟩ (nx_0 n1) k_0 (by decide) rfl hl.1 (Nat.le_of_ble_eq_true rfl) rfl dL_holds_10 (fun H locs hG hS => ?_)
    have hG : gW z M H := hG
    refine lv_istore (lv' := [(4, .int cm), (3, .int (nI n)), (0, .ref (gad z 0)), (1, .int (nI t)), (2, .int v2)]) hx hb dL_holds_13 hl (by decide) rfl (fun ls hl => ?_)
    refine lv_aload_n hx hb dL_holds_15 rfl (lv_at hl 2 rfl) ?_
    refine lv_iload_n hx hb dL_holds_16 rfl (lv_at hl 3 rfl) ?_
    refine g_cVI (a := 0) (ci := 6) (T := TX6) (N := 8) (av := [.int (nI t)]) (rest := []) X hG hS (ct_X6_count l z k_0 n1 b3) mt_X6_count ml_L_124 rfl ⟨rfl, rfl, Nat.le_of_ble_eq_true rfl, Nat.le_of_ble_eq_true rfl⟩ ⟨Nat.le_refl 0, Nat.le_refl 0⟩ (nx_0 n1) k_0 (by decide) rfl hl.1 (Nat.le_of_ble_eq_true rfl) rfl dL_holds_17 (fun H locs hG hS => ?_)
    have hG : gW z M H := hG
    refine lv_istore (lv' := [(5, .int (nI ct)), (4, .int cm), (3, .int (nI n)), (0, .ref (gad z 0)), (1, .int (nI t)), (2, .int v2)]) hx hb dL_holds_20 hl (by decide) rfl (fun ls hl => ?_)
    refine lv_aload_n hx hb dL_holds_22 rfl (lv_at hl 3 rfl) ?_
    refine lv_iload_n hx hb dL_holds_23 rfl (lv_at hl 4 rfl) ?_
    refine g_cVI (a := 0) (ci := 6) (T := TX6) (N := 8) (av := [.int (nI t)]) (rest := []) X hG hS (ct_X6_best l z k_0 n1 b4) mt_X6_best ml_L_127 rfl ⟨rfl, rfl, Nat.le_of_ble_eq_true rfl, Nat.le_of_ble_eq_true rfl⟩ ⟨Nat.le_refl 0, Nat.le_refl 0⟩ (nx_0 n1) k_0 (by decide) rfl hl.1 (Nat.le_of_ble_eq_true rfl) rfl dL_holds_24 (fun H locs hG hS => ?_)
    have hG : gW z M H := hG
    refine lv_istore (lv' := [(6, .int (nI sb)), (5, .int (nI ct)), (4, .int cm), (3, .int (nI n)), (0, .ref (gad z 0)), (1, .int (nI t)), (2, .int v2)]) hx hb dL_holds_27 hl (by decide) rfl (fun ls hl => ?_)
    refine lv_aload_n hx hb dL_holds_29 rfl (lv_at hl 4 rfl) ?_
    refine lv_iload_n hx hb dL_holds_30 rfl (lv_at hl 5 rfl) ?_
    refine g_cVI (a := 0) (ci := 6) (T := TX6) (N := 8) (av := [.int (nI t)]) (rest := []) X hG hS (ct_X6_good l z k_0 n1 b5) mt_X6_good ml_L_130 rfl ⟨rfl, rfl, Nat.le_of_ble_eq_true rfl, Nat.le_of_ble_eq_true rfl⟩ ⟨Nat.le_refl 0, Nat.le_refl 0⟩ (nx_0 n1) k_0 (by decide) rfl hl.1 (Nat.le_of_ble_eq_true rfl) rfl dL_holds_31 (fun H locs hG hS => ?_)
    have hG : gW z M H := hG
    refine lv_istore (lv' := [(7, .int (nI g)), (6, .int (nI sb)), (5, .int (nI ct)), (4, .int cm), (3, .int (nI n)), (0, .ref (gad z 0)), (1, .int (nI t)), (2, .int v2)]) hx hb dL_holds_34 hl (by decide) rfl (fun ls hl => ?_)
    refine lv_iload hx hb dL_holds_36 (lv_at hl 2 rfl) ?_
    refine lv_if_lt (tgt := 143) hx hb dL_holds_38 (by decide) (fun q => absurd q (nI_pos (by omega))) (fun q => ?_)
    refine lv_iload hx hb dL_holds_41 (lv_at hl 2 rfl) ?_
    refine lv_if_ne (tgt := 50) hx hb dL_holds_43 (by decide) (fun q => ?_) (fun q => absurd q z0)
    refine lv_iconst (v := 0) hx hb dL_holds_50 (by decide) ?_
    refine lv_iload hx hb dL_holds_51 (lv_at hl 1 rfl) ?_
    refine lv_iconst (v := (-1)) hx hb dL_holds_53 (by decide) ?_
    refine lv_icmp_ne (tgt := 61) hx hb dL_holds_54 (by decide) (fun q => ?_) (fun q => absurd q (nI_ne_m1 (by omega)))
    refine lv_iconst (v := 0) hx hb dL_holds_61 (by decide) ?_
    refine lv_icmp_ne (tgt := 143) hx hb dL_holds_62 (by decide) (fun q => absurd q (show ¬ (¬ (0 : Int32) = (0 : Int32)) by decide)) (fun _ => ?_)
    refine lv_iload hx hb dL_holds_65 (lv_at hl 0 rfl) ?_
    refine lv_iload hx hb dL_holds_67 (lv_at hl 3 rfl) ?_
    refine lv_iand hx hb dL_holds_69 ?_
    refine lv_iload hx hb dL_holds_70 (lv_at hl 3 rfl) ?_
    refine lv_icmp_ne (tgt := 143) hx hb dL_holds_72 (by decide) (fun q => absurd q (fun w => w hmg)) (fun q => ?_)
    refine lv_iload hx hb dL_holds_75 (lv_at hl 2 rfl) ?_
    refine lv_if_le (tgt := 145) hx hb dL_holds_77 (by decide) (fun q => absurd q z1) (fun q => ?_)
    refine lv_aload_n hx hb dL_holds_80 rfl (lv_at hl 5 rfl) ?_
    refine lv_iload_n hx hb dL_holds_81 rfl (lv_at hl 6 rfl) ?_
    refine g_cVI (a := 0) (ci := 6) (T := TX6) (N := 8) (av := [.int (nI t)]) (rest := []) X hG hS (ct_X6_lost l z k_0 n1 c1) mt_X6_lost ml_L_133 rfl ⟨rfl, rfl, Nat.le_of_ble_eq_true rfl, Nat.le_of_ble_eq_true rfl⟩ ⟨Nat.le_refl 0, Nat.le_refl 0⟩ (nx_0 n1) k_0 (by decide) rfl hl.1 (Nat.le_of_ble_eq_true rfl) rfl dL_holds_82 (fun H locs hG hS => ?_)
    have hG : gW z M H := hG
    refine lv_if_lt (tgt := 143) hx hb dL_holds_85 (by decide) (fun q => absurd q y1) (fun q => ?_)
    refine lv_aload_n hx hb dL_holds_88 rfl (lv_at hl 5 rfl) ?_
    refine lv_iload_n hx hb dL_holds_89 rfl (lv_at hl 6 rfl) ?_
    refine g_cVI (a := 0) (ci := 6) (T := TX6) (N := 8) (av := [.int (nI t)]) (rest := []) X hG hS (ct_X6_beside l z k_0 n1 c2) mt_X6_beside ml_L_136 rfl ⟨rfl, rfl, Nat.le_of_ble_eq_true rfl, Nat.le_of_ble_eq_true rfl⟩ ⟨Nat.le_refl 0, Nat.le_refl 0⟩ (nx_0 n1) k_0 (by decide) rfl hl.1 (Nat.le_of_ble_eq_true rfl) rfl dL_holds_90 (fun H locs hG hS => ?_)
    have hG : gW z M H := hG
    refine lv_aload_n hx hb dL_holds_93 rfl (lv_at hl 5 rfl) ?_
    refine lv_iload_n hx hb dL_holds_94 rfl (lv_at hl 6 rfl) ?_
    refine g_cVI (a := 0) (ci := 6) (T := TX6) (N := 8) (av := [.int (nI t)]) (rest := [.int vE]) X hG hS (ct_X6_lost l z k_0 n1 c1) mt_X6_lost ml_L_133 rfl ⟨rfl, rfl, Nat.le_of_ble_eq_true rfl, Nat.le_of_ble_eq_true rfl⟩ ⟨Nat.le_refl 0, Nat.le_refl 0⟩ (nx_0 n1) k_0 (by decide) rfl hl.1 (Nat.le_of_ble_eq_true rfl) rfl dL_holds_95 (fun H locs hG hS => ?_)
    have hG : gW z M H := hG
    refine lv_icmp_lt (tgt := 143) hx hb dL_holds_98 (by decide) (fun q => absurd q y2) (fun q => ?_)
    refine lv_aload_n hx hb dL_holds_101 rfl (lv_at hl 5 rfl) ?_
    refine lv_iload_n hx hb dL_holds_102 rfl (lv_at hl 6 rfl) ?_
    refine lv_iload hx hb dL_holds_103 (lv_at hl 0 rfl) ?_
    refine g_cVI (a := 0) (ci := 6) (T := TX6) (N := 8) (av := [.int (nI t), .int (nI g)]) (rest := []) X hG hS (ct_X6_total l z k_0 n1 c3) mt_X6_total ml_L_139 rfl ⟨rfl, rfl, Nat.le_of_ble_eq_true rfl, Nat.le_of_ble_eq_true rfl⟩ ⟨Nat.le_refl 0, Nat.le_refl 0⟩ (nx_0 n1) k_0 (by decide) rfl hl.1 (Nat.le_of_ble_eq_true rfl) rfl dL_holds_105 (fun H locs hG hS => ?_)
    have hG : gW z M H := hG
    refine lv_aload_n hx hb dL_holds_108 rfl (lv_at hl 5 rfl) ?_
    refine lv_iload_n hx hb dL_holds_109 rfl (lv_at hl 6 rfl) ?_
    refine lv_iload hx hb dL_holds_110 (lv_at hl 1 rfl) ?_
    refine g_cVI (a := 0) (ci := 6) (T := TX6) (N := 8) (av := [.int (nI t), .int (nI sb)]) (rest := [.int vT]) X hG hS (ct_X6_total l z k_0 n1 c4) mt_X6_total ml_L_139 rfl ⟨rfl, rfl, Nat.le_of_ble_eq_true rfl, Nat.le_of_ble_eq_true rfl⟩ ⟨Nat.le_refl 0, Nat.le_refl 0⟩ (nx_0 n1) k_0 (by decide) rfl hl.1 (Nat.le_of_ble_eq_true rfl) rfl dL_holds_112 (fun H locs hG hS => ?_)
    have hG : gW z M H := hG
    refine lv_isub hx hb dL_holds_115 ?_
    refine lv_aload_n hx hb dL_holds_116 rfl (lv_at hl 5 rfl) ?_
    refine lv_iload_n hx hb dL_holds_117 rfl (lv_at hl 6 rfl) ?_
    refine g_cVI (a := 0) (ci := 6) (T := TX6) (N := 8) (av := [.int (nI t)]) (rest := [.int (vT - vU)]) X hG hS (ct_X6_lost l z k_0 n1 c1) mt_X6_lost ml_L_133 rfl ⟨rfl, rfl, Nat.le_of_ble_eq_true rfl, Nat.le_of_ble_eq_true rfl⟩ ⟨Nat.le_refl 0, Nat.le_refl 0⟩ (nx_0 n1) k_0 (by decide) rfl hl.1 (Nat.le_of_ble_eq_true rfl) rfl dL_holds_118 (fun H locs hG hS => ?_)
    have hG : gW z M H := hG
    refine lv_icmp_ne (tgt := 143) hx hb dL_holds_121 (by decide) (fun q => absurd q (fun w => w y3)) (fun q => ?_)
    refine lv_aload_n hx hb dL_holds_124 rfl (lv_at hl 5 rfl) ?_
    refine lv_iload_n hx hb dL_holds_125 rfl (lv_at hl 6 rfl) ?_
    refine g_cVI (a := 0) (ci := 6) (T := TX6) (N := 8) (av := [.int (nI t)]) (rest := []) X hG hS (ct_X6_fewest l z k_0 n1 c5) mt_X6_fewest ml_L_142 rfl ⟨rfl, rfl, Nat.le_of_ble_eq_true rfl, Nat.le_of_ble_eq_true rfl⟩ ⟨Nat.le_refl 0, Nat.le_refl 0⟩ (nx_0 n1) k_0 (by decide) rfl hl.1 (Nat.le_of_ble_eq_true rfl) rfl dL_holds_126 (fun H locs hG hS => ?_)
    have hG : gW z M H := hG
    refine g_cSI (av := [.int (nI sf)]) (rest := []) X hG hS (ct_L_bits l z (bits_v 4098 M (nI sf) hN0)) mt_L_bits ml_L_145 rfl ⟨rfl, rfl, Nat.le_of_ble_eq_true rfl, Nat.le_of_ble_eq_true rfl⟩ ⟨Nat.le_refl 0, Nat.le_refl 0⟩ hl.1 (Nat.le_of_ble_eq_true rfl) rfl dL_holds_129 (fun H locs hG hS => ?_)
    have hG : gW z M H := hG
    refine lv_aload_n hx hb dL_holds_132 rfl (lv_at hl 5 rfl) ?_
    refine lv_iload_n hx hb dL_holds_133 rfl (lv_at hl 6 rfl) ?_
    refine g_cVI (a := 0) (ci := 6) (T := TX6) (N := 8) (av := [.int (nI t)]) (rest := [.int (nI (fb_ct (bt (nI sf)) 12))]) X hG hS (ct_X6_most l z k_0 n1 c6) mt_X6_most ml_L_148 rfl ⟨rfl, rfl, Nat.le_of_ble_eq_true rfl, Nat.le_of_ble_eq_true rfl⟩ ⟨Nat.le_refl 0, Nat.le_refl 0⟩ (nx_0 n1) k_0 (by decide) rfl hl.1 (Nat.le_of_ble_eq_true rfl) rfl dL_holds_134 (fun H locs hG hS => ?_)
    have hG : gW z M H := hG
    refine g_cSI (av := [.int (nI sm)]) (rest := [.int (nI (fb_ct (bt (nI sf)) 12))]) X hG hS (ct_L_bits l z (bits_v 4098 M (nI sm) hN0)) mt_L_bits ml_L_145 rfl ⟨rfl, rfl, Nat.le_of_ble_eq_true rfl, Nat.le_of_ble_eq_true rfl⟩ ⟨Nat.le_refl 0, Nat.le_refl 0⟩ hl.1 (Nat.le_of_ble_eq_true rfl) rfl dL_holds_137 (fun H locs hG hS => ?_)
    have hG : gW z M H := hG
    refine lv_icmp_le (tgt := 145) hx hb dL_holds_140 (by decide) (fun q => ?_) (fun q => absurd q (fun w => w y4))
    refine lv_iconst (v := 0) hx hb dL_holds_145 (by decide) ?_
    refine lv_istore (lv' := [(8, .int 0), (7, .int (nI g)), (6, .int (nI sb)), (5, .int (nI ct)), (4, .int cm), (3, .int (nI n)), (0, .ref (gad z 0)), (1, .int (nI t)), (2, .int v2)]) hx hb dL_holds_146 hl (by decide) rfl (fun ls hl => ?_)
    exact loop 4 0 M H locs ls rfl hI hV hG hS (lv_sub hl [0, 3, 4, 5, 6, 7, 8] rfl)
