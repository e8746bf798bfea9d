set_option maxRecDepth 100000 in
set_option maxHeartbeats 4000000 in
theorem ct_X7_refuse (l : Launch) (z : gZ) {N : Nat} {M : Mem} {a : Nat} {v1 : Int32} {o : Int32 × Mem} (k_a : kd a = 7) (n_a : a + 59 ≤ gn z) (h : fX7_refuse N M a v1 = some o) : CtI l z yX7_refuse cX7_refuse 2 (some .int) { frames := 0, cells := 0, slots := 0, locals := 0 } [.ref (gad z a), .int v1] M o.1 o.2 := by
  refine Ct_of rfl (Nat.le_of_ble_eq_true rfl) ?_
  intro p e s m below meth c ls X hr hlk hG hS hl
  have X : gX p m c _ _ s _ RX7 z := X
  have hl : lv_has ls 2 [(0, .ref (gad z a)), (1, .int v1)] := hl
  have hx := X.1
  have hb := X.2.1
  unfold fX7_refuse at h
  refine lv_aload_n hx hb dX7_refuse_0 rfl (lv_at hl 0 rfl) ?_
  refine gf_X7_9 X hG (nx_0 n_a) k_a fl_X7_37 dX7_refuse_1 ?_
  refine lv_iload_n hx hb dX7_refuse_4 rfl (lv_at hl 1 rfl) ?_
  refine lv_ineg hx hb dX7_refuse_5 ?_
  refine lv_dup2_11 hx hb dX7_refuse_6 rfl rfl ?_
  obtain ⟨i1, h⟩ := gd_y h
  refine g_iald X hG (nx_a (a := a) (k := 17) (n := 59) n_a (Nat.le_of_ble_eq_true rfl)) (kx_7_17 k_a) (by decide) i1 dX7_refuse_7 ?_
  refine lv_iconst (v := 1) hx hb dX7_refuse_8 (by decide) ?_
  refine lv_iadd hx hb dX7_refuse_9 ?_
  refine g_iast X hG hS (nx_a (a := a) (k := 17) (n := 59) n_a (Nat.le_of_ble_eq_true rfl)) (kx_7_17 k_a) (by decide) i1 dX7_refuse_10 (fun H locs hG hS => ?_)
  obtain ⟨M2, eM2⟩ : ∃ y, y = sI M (a + 17) ((-v1) : Int32).toNatClampNeg ((M.1 (a + 17) ((-v1) : Int32).toNatClampNeg) + 1) := ⟨_, rfl⟩
  rw [← eM2] at hG
  have h := nm_y h M2 eM2
  refine lv_iload_n hx hb dX7_refuse_11 rfl (lv_at hl 1 rfl) ?_
  obtain rfl := Option.some.inj h
  exact g_iret X hr hlk hG hS dX7_refuse_12
set_option maxRecDepth 100000 in
set_option maxHeartbeats 4000000 in
theorem ct_X7_in (l : Launch) (z : gZ) {N : Nat} {M : Mem} {v0 : Int64} {v2 : Int64} {v4 : Int64} {o : Int32}  (h : fX7_in N M v0 v2 v4 = some o) : CtI l z yX7_in cX7_in 6 (some .boolean) { frames := 0, cells := 0, slots := 0, locals := 0 } [.long v0, .long v2, .long v4] M o M := by
  refine Ct_of rfl (Nat.le_of_ble_eq_true rfl) ?_
  intro p e s m below meth c ls X hr hlk hG hS hl
  have X : gX p m c _ _ s _ RX7 z := X
  have hl : lv_has ls 6 [(0, .long v0), (2, .long v2), (4, .long v4)] := hl
  have hx := X.1
  have hb := X.2.1
  unfold fX7_in at h
  refine lv_lload_n hx hb dX7_in_0 rfl (lv_at hl 0 rfl) ?_
  refine lv_lload_n hx hb dX7_in_1 rfl (lv_at hl 1 rfl) ?_
  refine W.lcmp hx hb dX7_in_2 ?_
  refine lv_if_lt (tgt := 17) hx hb dX7_in_3 (by decide) (fun q1 => ?_) (fun q1 => ?_)
  · have h := ite_y h q1
    refine lv_iconst (v := 0) hx hb dX7_in_17 (by decide) ?_
    obtain rfl := Option.some.inj h
    exact g_zret (zn (Or.inl rfl)) X hr hlk hG hS dX7_in_18
  · have h := ite_n h q1
    refine lv_lload_n hx hb dX7_in_6 rfl (lv_at hl 0 rfl) ?_
    refine lv_lload hx hb dX7_in_7 (lv_at hl 2 rfl) ?_
    refine W.lcmp hx hb dX7_in_9 ?_
    refine lv_if_gt (tgt := 17) hx hb dX7_in_10 (by decide) (fun q2 => ?_) (fun q2 => ?_)
    · have h := ite_y h q2
      refine lv_iconst (v := 0) hx hb dX7_in_17 (by decide) ?_
      obtain rfl := Option.some.inj h
      exact g_zret (zn (Or.inl rfl)) X hr hlk hG hS dX7_in_18
    · have h := ite_n h q2
      refine lv_iconst (v := 1) hx hb dX7_in_13 (by decide) ?_
      refine lv_goto (tgt := 18) hx hb dX7_in_14 (by decide) ?_
      obtain rfl := Option.some.inj h
      exact g_zret (zn (Or.inr rfl)) X hr hlk hG hS dX7_in_18
set_option maxRecDepth 100000 in
set_option maxHeartbeats 4000000 in
theorem ct_X7_isStreet (l : Launch) (z : gZ) {N : Nat} {M : Mem} {a : Nat} {v1 : Int32} {o : Int32} (k_a : kd a = 7) (n_a : a + 59 ≤ gn z) (h : fX7_isStreet N M a v1 = some o) : CtI l z yX7_isStreet cX7_isStreet 2 (some .boolean) { frames := 1, cells := 0, slots := 0, locals := 25 } [.ref (gad z a), .int v1] M o M := by
  refine Ct_of rfl (Nat.le_of_ble_eq_true rfl) ?_
  intro p e s m below meth c ls X hr hlk hG hS hl
  have X : gX p m c _ _ s _ RX7 z := X
  have hl : lv_has ls 2 [(0, .ref (gad z a)), (1, .int v1)] := hl
  have hx := X.1
  have hb := X.2.1
  unfold fX7_isStreet at h
  refine lv_iload_n hx hb dX7_isStreet_0 rfl (lv_at hl 1 rfl) ?_
  refine lv_i2l hx hb dX7_isStreet_1 rfl ?_
  refine lv_lconst (v := 0) hx hb dX7_isStreet_2 (by decide) ?_
  refine lv_aload_n hx hb dX7_isStreet_3 rfl (lv_at hl 0 rfl) ?_
  refine gf_X7_10 X hG (nx_0 n_a) k_a fl_X7_85 dX7_isStreet_4 ?_
  refine lv_iconst (v := 1) hx hb dX7_isStreet_7 (by decide) ?_
  refine lv_isub hx hb dX7_isStreet_8 ?_
  refine lv_i2l hx hb dX7_isStreet_9 rfl ?_
  obtain ⟨r1, hcr1, h⟩ := bd_y h
  refine g_cSI (av := [.long ((v1 : Int32).toInt64), .long 0, .long ((((M.1 a 10) - 1) : Int32).toInt64)]) (rest := []) X hG hS (ct_X7_in l z  hcr1) mt_X7_in ml_X7_88 rfl ⟨rfl, rfl, Nat.le_of_ble_eq_true rfl, Nat.le_of_ble_eq_true rfl⟩ ⟨Nat.le_refl 0, Nat.le_refl 0⟩ hl.1 (Nat.le_of_ble_eq_true rfl) rfl dX7_isStreet_10 (fun H locs hG hS => ?_)
  obtain ⟨q2, h⟩ := gc_y h
  obtain rfl := Option.some.inj h
  exact g_zret (zn q2) X hr hlk hG hS dX7_isStreet_13
set_option maxRecDepth 100000 in
set_option maxHeartbeats 4000000 in
theorem ct_X7_isPerson (l : Launch) (z : gZ) {N : Nat} {M : Mem} {a : Nat} {v1 : Int32} {v2 : Int32} {o : Int32} (k_a : kd a = 7) (n_a : a + 59 ≤ gn z) (h : fX7_isPerson N M a v1 v2 = some o) : CtI l z yX7_isPerson cX7_isPerson 3 (some .boolean) { frames := 2, cells := 0, slots := 0, locals := 46 } [.ref (gad z a), .int v1, .int v2] M o M := by
  refine Ct_of rfl (Nat.le_of_ble_eq_true rfl) ?_
  intro p e s m below meth c ls X hr hlk hG hS hl
  have X : gX p m c _ _ s _ RX7 z := X
  have hl : lv_has ls 3 [(0, .ref (gad z a)), (1, .int v1), (2, .int v2)] := hl
  have hx := X.1
  have hb := X.2.1
  unfold fX7_isPerson at h
  refine lv_aload_n hx hb dX7_isPerson_0 rfl (lv_at hl 0 rfl) ?_
  refine lv_iload_n hx hb dX7_isPerson_1 rfl (lv_at hl 1 rfl) ?_
  obtain ⟨r1, hcr1, h⟩ := bd_y h
  refine g_cVI (a := a) (ci := 7) (T := TX7) (N := 37) (av := [.int v1]) (rest := []) X hG hS (ct_X7_isStreet l z k_a n_a hcr1) mt_X7_isStreet ml_X7_92 rfl ⟨rfl, rfl, Nat.le_of_ble_eq_true rfl, Nat.le_of_ble_eq_true rfl⟩ ⟨Nat.le_refl 0, Nat.le_refl 0⟩ (nx_0 n_a) k_a (by decide) rfl hl.1 (Nat.le_of_ble_eq_true rfl) rfl dX7_isPerson_2 (fun H locs hG hS => ?_)
  refine lv_if_eq (tgt := 30) hx hb dX7_isPerson_5 (by decide) (fun q2 => ?_) (fun q2 => ?_)
  · have h := ite_y h q2
    refine lv_iconst (v := 0) hx hb dX7_isPerson_30 (by decide) ?_
    obtain rfl := Option.some.inj h
    exact g_zret (zn (Or.inl rfl)) X hr hlk hG hS dX7_isPerson_31
  · have h := ite_n h q2
    refine lv_iload_n hx hb dX7_isPerson_8 rfl (lv_at hl 2 rfl) ?_
    refine lv_i2l hx hb dX7_isPerson_9 rfl ?_
    refine lv_lconst (v := 0) hx hb dX7_isPerson_10 (by decide) ?_
    refine lv_aload_n hx hb dX7_isPerson_11 rfl (lv_at hl 0 rfl) ?_
    refine gf_X7_11 X hG (nx_0 n_a) k_a fl_X7_40 dX7_isPerson_12 ?_
    refine lv_iload_n hx hb dX7_isPerson_15 rfl (lv_at hl 1 rfl) ?_
    obtain ⟨i3, h⟩ := gd_y h
    refine g_iald X hG (nx_a (a := a) (k := 18) (n := 59) n_a (Nat.le_of_ble_eq_true rfl)) (kx_7_18 k_a) (by decide) i3 dX7_isPerson_16 ?_
    refine lv_iconst (v := 1) hx hb dX7_isPerson_17 (by decide) ?_
    refine lv_isub hx hb dX7_isPerson_18 ?_
    refine lv_i2l hx hb dX7_isPerson_19 rfl ?_
    obtain ⟨r4, hcr4, h⟩ := bd_y h
    refine g_cSI (av := [.long ((v2 : Int32).toInt64), .long 0, .long ((((M.1 (a + 18) (v1 : Int32).toNatClampNeg) - 1) : Int32).toInt64)]) (rest := []) X hG hS (ct_X7_in l z  hcr4) mt_X7_in ml_X7_88 rfl ⟨rfl, rfl, Nat.le_of_ble_eq_true rfl, Nat.le_of_ble_eq_true rfl⟩ ⟨Nat.le_refl 0, Nat.le_refl 0⟩ hl.1 (Nat.le_of_ble_eq_true rfl) rfl dX7_isPerson_20 (fun H locs hG hS => ?_)
    refine lv_if_eq (tgt := 30) hx hb dX7_isPerson_23 (by decide) (fun q5 => ?_) (fun q5 => ?_)
    · have h := ite_y h q5
      refine lv_iconst (v := 0) hx hb dX7_isPerson_30 (by decide) ?_
      obtain rfl := Option.some.inj h
      exact g_zret (zn (Or.inl rfl)) X hr hlk hG hS dX7_isPerson_31
    · have h := ite_n h q5
      refine lv_iconst (v := 1) hx hb dX7_isPerson_26 (by decide) ?_
      refine lv_goto (tgt := 31) hx hb dX7_isPerson_27 (by decide) ?_
      obtain rfl := Option.some.inj h
      exact g_zret (zn (Or.inr rfl)) X hr hlk hG hS dX7_isPerson_31
set_option maxRecDepth 100000 in
set_option maxHeartbeats 4000000 in
theorem ct_X7_all (l : Launch) (z : gZ) {N : Nat} {M : Mem} {a : Nat} {v1 : Int32} {o : Int32} (k_a : kd a = 7) (n_a : a + 59 ≤ gn z) (h : fX7_all N M a v1 = some o) : CtI l z yX7_all cX7_all 2 (some .int) { frames := 0, cells := 0, slots := 0, locals := 0 } [.ref (gad z a), .int v1] M o M := by
  refine Ct_of rfl (Nat.le_of_ble_eq_true rfl) ?_
  intro p e s m below meth c ls X hr hlk hG hS hl
  have X : gX p m c _ _ s _ RX7 z := X
  have hl : lv_has ls 2 [(0, .ref (gad z a)), (1, .int v1)] := hl
  have hx := X.1
  have hb := X.2.1
  unfold fX7_all at h
  refine lv_iconst (v := 1) hx hb dX7_all_0 (by decide) ?_
  refine lv_aload_n hx hb dX7_all_1 rfl (lv_at hl 0 rfl) ?_
  refine gf_X7_11 X hG (nx_0 n_a) k_a fl_X7_40 dX7_all_2 ?_
  refine lv_iload_n hx hb dX7_all_5 rfl (lv_at hl 1 rfl) ?_
  obtain ⟨i1, h⟩ := gd_y h
  refine g_iald X hG (nx_a (a := a) (k := 18) (n := 59) n_a (Nat.le_of_ble_eq_true rfl)) (kx_7_18 k_a) (by decide) i1 dX7_all_6 ?_
  refine lv_ishl hx hb dX7_all_7 ?_
  refine lv_iconst (v := 1) hx hb dX7_all_8 (by decide) ?_
  refine lv_isub hx hb dX7_all_9 ?_
  obtain rfl := Option.some.inj h
  exact g_iret X hr hlk hG hS dX7_all_10
set_option maxRecDepth 100000 in
set_option maxHeartbeats 4000000 in
theorem ct_X7_isSet (l : Launch) (z : gZ) {N : Nat} {M : Mem} {a : Nat} {v1 : Int32} {v2 : Int64} {o : Int32} (k_a : kd a = 7) (n_a : a + 59 ≤ gn z) (h : fX7_isSet N M a v1 v2 = some o) : CtI l z yX7_isSet cX7_isSet 4 (some .boolean) { frames := 2, cells := 0, slots := 0, locals := 46 } [.ref (gad z a), .int v1, .long v2] M o M := by
  refine Ct_of rfl (Nat.le_of_ble_eq_true rfl) ?_
  intro p e s m below meth c ls X hr hlk hG hS hl
  have X : gX p m c _ _ s _ RX7 z := X
  have hl : lv_has ls 4 [(0, .ref (gad z a)), (1, .int v1), (2, .long v2)] := hl
  have hx := X.1
  have hb := X.2.1
  unfold fX7_isSet at h
  refine lv_aload_n hx hb dX7_isSet_0 rfl (lv_at hl 0 rfl) ?_
  refine lv_iload_n hx hb dX7_isSet_1 rfl (lv_at hl 1 rfl) ?_
  obtain ⟨r1, hcr1, h⟩ := bd_y h
  refine g_cVI (a := a) (ci := 7) (T := TX7) (N := 37) (av := [.int v1]) (rest := []) X hG hS (ct_X7_isStreet l z k_a n_a hcr1) mt_X7_isStreet ml_X7_92 rfl ⟨rfl, rfl, Nat.le_of_ble_eq_true rfl, Nat.le_of_ble_eq_true rfl⟩ ⟨Nat.le_refl 0, Nat.le_refl 0⟩ (nx_0 n_a) k_a (by decide) rfl hl.1 (Nat.le_of_ble_eq_true rfl) rfl dX7_isSet_2 (fun H locs hG hS => ?_)
  refine lv_if_eq (tgt := 26) hx hb dX7_isSet_5 (by decide) (fun q2 => ?_) (fun q2 => ?_)
  · have h := ite_y h q2
    refine lv_iconst (v := 0) hx hb dX7_isSet_26 (by decide) ?_
    obtain rfl := Option.some.inj h
    exact g_zret (zn (Or.inl rfl)) X hr hlk hG hS dX7_isSet_27
  · have h := ite_n h q2
    refine lv_lload_n hx hb dX7_isSet_8 rfl (lv_at hl 2 rfl) ?_
    refine lv_lconst (v := 0) hx hb dX7_isSet_9 (by decide) ?_
    refine lv_aload_n hx hb dX7_isSet_10 rfl (lv_at hl 0 rfl) ?_
    refine lv_iload_n hx hb dX7_isSet_11 rfl (lv_at hl 1 rfl) ?_
    obtain ⟨r3, hcr3, h⟩ := bd_y h
    refine g_cVI (a := a) (ci := 7) (T := TX7) (N := 37) (av := [.int v1]) (rest := [.long 0, .long v2]) X hG hS (ct_X7_all l z k_a n_a hcr3) mt_X7_all ml_X7_96 rfl ⟨rfl, rfl, Nat.le_of_ble_eq_true rfl, Nat.le_of_ble_eq_true rfl⟩ ⟨Nat.le_refl 0, Nat.le_refl 0⟩ (nx_0 n_a) k_a (by decide) rfl hl.1 (Nat.le_of_ble_eq_true rfl) rfl dX7_isSet_12 (fun H locs hG hS => ?_)
    refine lv_i2l hx hb dX7_isSet_15 rfl ?_
    obtain ⟨r4, hcr4, h⟩ := bd_y h
    refine g_cSI (av := [.long v2, .long 0, .long ((r3 : Int32).toInt64)]) (rest := []) X hG hS (ct_X7_in l z  hcr4) mt_X7_in ml_X7_88 rfl ⟨rfl, rfl, Nat.le_of_ble_eq_true rfl, Nat.le_of_ble_eq_true rfl⟩ ⟨Nat.le_refl 0, Nat.le_refl 0⟩ hl.1 (Nat.le_of_ble_eq_true rfl) rfl dX7_isSet_16 (fun H locs hG hS => ?_)
    refine lv_if_eq (tgt := 26) hx hb dX7_isSet_19 (by decide) (fun q5 => ?_) (fun q5 => ?_)
    · have h := ite_y h q5
      refine lv_iconst (v := 0) hx hb dX7_isSet_26 (by decide) ?_
      obtain rfl := Option.some.inj h
      exact g_zret (zn (Or.inl rfl)) X hr hlk hG hS dX7_isSet_27
    · have h := ite_n h q5
      refine lv_iconst (v := 1) hx hb dX7_isSet_22 (by decide) ?_
      refine lv_goto (tgt := 27) hx hb dX7_isSet_23 (by decide) ?_
      obtain rfl := Option.some.inj h
      exact g_zret (zn (Or.inr rfl)) X hr hlk hG hS dX7_isSet_27
set_option maxRecDepth 100000 in
set_option maxHeartbeats 4000000 in
theorem wX7_row_67 {N : Nat} {p : Program} {l : Launch} {e : Env} {s : State} {m : MethodId} {args : Array Value} {below : List Frame} {meth : Method} {c : Code} {z : gZ} {a : Nat} {u1 : Int32} {o : Int32 × Mem} (X : gX p m c cX7_row 5 s args RX7 z) (hr : meth.sig.returnType = (some .int)) (hlk : meth.locks = false) (k_a : kd a = 7) (n_a : a + 59 ≤ gn z)  : ∀ (n : Nat) (Mw : Mem) (w4 : Int32) (H : Heap) (locs : List Loc) (ls : Array Slot), fX7_row_67 N a u1  n Mw w4 = some o → gW z Mw H → va_S (gA z) s.heap H locs → lv_has ls 5 [(0, .ref (gad z a)), (1, .int u1), (4, .int w4)] → W p l e { frames := 1, cells := 0, slots := 0, locals := 25 } s m args below meth c H locs 0 0 (MQ below (va_Qi (fun r' (_ : Unit) => r' = o.1) (fun _ t => gW z o.2 t.heap) (gA z)) args s 0 0 (gA z)) (F0 m 67 ls []) := by
  have hx := X.1
  have hb := X.2.1
  intro n
  induction n with
  | zero => intro Mw w4 H locs ls h; cases h
  | succ n ih =>
    intro Mw w4 H locs ls h hG hS hl
    rw [fX7_row_67] at h
    refine lv_iload hx hb dX7_row_67 (lv_at hl 2 rfl) ?_
    refine lv_bipush (v := 40) hx hb dX7_row_69 (by decide) ?_
    refine lv_icmp_ge (tgt := 90) hx hb dX7_row_71 (by decide) (fun q1 => ?_) (fun q1 => ?_)
    · have h := ite_y h q1
      refine lv_iconst (v := 1) hx hb dX7_row_90 (by decide) ?_
      obtain rfl := Option.some.inj h
      exact g_iret X hr hlk hG hS dX7_row_91
    · have h := ite_n h q1
      refine lv_aload_n hx hb dX7_row_74 rfl (lv_at hl 0 rfl) ?_
      refine gf_X7_3 X hG (nx_0 n_a) k_a fl_X7_21 dX7_row_75 ?_
      refine lv_iload_n hx hb dX7_row_78 rfl (lv_at hl 1 rfl) ?_
      obtain ⟨i2, h⟩ := gd_y h
      refine g_aldJJ X hG (nx_a (a := a) (k := 4) (n := 59) n_a (Nat.le_of_ble_eq_true rfl)) (kx_7_4 k_a) i2 dX7_row_79 ?_
      refine lv_iload hx hb dX7_row_80 (lv_at hl 2 rfl) ?_
      refine lv_lconst (v := 0) hx hb dX7_row_82 (by decide) ?_
      obtain ⟨i3, h⟩ := gd_y h
      refine g_last X hG hS (nE n_a i2 (Nat.le_of_ble_eq_true rfl)) (ke_7_4 k_a i2) (by decide) i3 dX7_row_83 (fun H locs hG hS => ?_)
      obtain ⟨M4, eM4⟩ : ∃ y, y = sJ Mw ((a + 4) + 1 + (u1 : Int32).toNatClampNeg) (w4 : Int32).toNatClampNeg 0 := ⟨_, rfl⟩
      rw [← eM4] at hG
      have h := nm_y h M4 eM4
      refine lv_iinc (v := (w4 + 1)) (lv' := [(4, .int (w4 + 1)), (0, .ref (gad z a)), (1, .int u1)]) hx hb dX7_row_84 hl (k := 2) rfl rfl (by decide) rfl (fun ls hl => ?_)
      refine lv_goto (tgt := 67) hx hb dX7_row_87 (by decide) ?_
      exact ih M4 (w4 + 1) _ _ _ h hG hS (lv_sub hl [1, 2, 0] rfl)
set_option maxRecDepth 100000 in
set_option maxHeartbeats 4000000 in
theorem ct_X7_row (l : Launch) (z : gZ) {N : Nat} {M : Mem} {a : Nat} {v1 : Int32} {v2 : Int32} {v3 : Int32} {o : Int32 × Mem} (k_a : kd a = 7) (n_a : a + 59 ≤ gn z) (h : fX7_row N M a v1 v2 v3 = some o) : CtI l z yX7_row cX7_row 5 (some .int) { frames := 1, cells := 0, slots := 0, locals := 25 } [.ref (gad z a), .int v1, .int v2, .int v3] M o.1 o.2 := by
  refine Ct_of rfl (Nat.le_of_ble_eq_true rfl) ?_
  intro p e s m below meth c ls X hr hlk hG hS hl
  have X : gX p m c _ _ s _ RX7 z := X
  have hl : lv_has ls 5 [(0, .ref (gad z a)), (1, .int v1), (2, .int v2), (3, .int v3)] := hl
  have hx := X.1
  have hb := X.2.1
  unfold fX7_row at h
  refine lv_iload_n hx hb dX7_row_0 rfl (lv_at hl 1 rfl) ?_
  refine lv_i2l hx hb dX7_row_1 rfl ?_
  refine lv_lconst (v := 0) hx hb dX7_row_2 (by decide) ?_
  refine lv_ldc2 (v := 7) hx hb X.2.2.2.1 (X.2.2.2.2.1 _ cn_X7_100) dX7_row_3 ?_
  obtain ⟨r1, hcr1, h⟩ := bd_y h
  refine g_cSI (av := [.long ((v1 : Int32).toInt64), .long 0, .long 7]) (rest := []) X hG hS (ct_X7_in l z  hcr1) mt_X7_in ml_X7_88 rfl ⟨rfl, rfl, Nat.le_of_ble_eq_true rfl, Nat.le_of_ble_eq_true rfl⟩ ⟨Nat.le_refl 0, Nat.le_refl 0⟩ hl.1 (Nat.le_of_ble_eq_true rfl) rfl dX7_row_6 (fun H locs hG hS => ?_)
  refine lv_if_eq (tgt := 36) hx hb dX7_row_9 (by decide) (fun q2 => ?_) (fun q2 => ?_)
  · have h := ite_y h q2
    refine lv_aload_n hx hb dX7_row_36 rfl (lv_at hl 0 rfl) ?_
    refine lv_bipush (v := (-2)) hx hb dX7_row_37 (by decide) ?_
    obtain ⟨r3, hcr3, h⟩ := bd_y h
    refine g_cVI (a := a) (ci := 7) (T := TX7) (N := 37) (av := [.int (-2)]) (rest := []) X hG hS (ct_X7_refuse l z k_a n_a hcr3) mt_X7_refuse ml_X7_106 rfl ⟨rfl, rfl, Nat.le_of_ble_eq_true rfl, Nat.le_of_ble_eq_true rfl⟩ ⟨Nat.le_refl 0, Nat.le_refl 0⟩ (nx_0 n_a) k_a (by decide) rfl hl.1 (Nat.le_of_ble_eq_true rfl) rfl dX7_row_39 (fun H locs hG hS => ?_)
    obtain rfl := Option.some.inj h
    exact g_iret X hr hlk hG hS dX7_row_42
  · have h := ite_n h q2
    refine lv_iload_n hx hb dX7_row_12 rfl (lv_at hl 2 rfl) ?_
    refine lv_i2l hx hb dX7_row_13 rfl ?_
    refine lv_lconst (v := 0) hx hb dX7_row_14 (by decide) ?_
    refine lv_ldc2 (v := 4) hx hb X.2.2.2.1 (X.2.2.2.2.1 _ cn_X7_102) dX7_row_15 ?_
    obtain ⟨r4, hcr4, h⟩ := bd_y h
    refine g_cSI (av := [.long ((v2 : Int32).toInt64), .long 0, .long 4]) (rest := []) X hG hS (ct_X7_in l z  hcr4) mt_X7_in ml_X7_88 rfl ⟨rfl, rfl, Nat.le_of_ble_eq_true rfl, Nat.le_of_ble_eq_true rfl⟩ ⟨Nat.le_refl 0, Nat.le_refl 0⟩ hl.1 (Nat.le_of_ble_eq_true rfl) rfl dX7_row_18 (fun H locs hG hS => ?_)
    refine lv_if_eq (tgt := 36) hx hb dX7_row_21 (by decide) (fun q5 => ?_) (fun q5 => ?_)
    · have h := ite_y h q5
      refine lv_aload_n hx hb dX7_row_36 rfl (lv_at hl 0 rfl) ?_
      refine lv_bipush (v := (-2)) hx hb dX7_row_37 (by decide) ?_
      obtain ⟨r6, hcr6, h⟩ := bd_y h
      refine g_cVI (a := a) (ci := 7) (T := TX7) (N := 37) (av := [.int (-2)]) (rest := []) X hG hS (ct_X7_refuse l z k_a n_a hcr6) mt_X7_refuse ml_X7_106 rfl ⟨rfl, rfl, Nat.le_of_ble_eq_true rfl, Nat.le_of_ble_eq_true rfl⟩ ⟨Nat.le_refl 0, Nat.le_refl 0⟩ (nx_0 n_a) k_a (by decide) rfl hl.1 (Nat.le_of_ble_eq_true rfl) rfl dX7_row_39 (fun H locs hG hS => ?_)
      obtain rfl := Option.some.inj h
      exact g_iret X hr hlk hG hS dX7_row_42
    · have h := ite_n h q5
      refine lv_iload_n hx hb dX7_row_24 rfl (lv_at hl 3 rfl) ?_
      refine lv_i2l hx hb dX7_row_25 rfl ?_
      refine lv_lconst (v := 0) hx hb dX7_row_26 (by decide) ?_
      refine lv_ldc2 (v := 40) hx hb X.2.2.2.1 (X.2.2.2.2.1 _ cn_X7_104) dX7_row_27 ?_
      obtain ⟨r7, hcr7, h⟩ := bd_y h
      refine g_cSI (av := [.long ((v3 : Int32).toInt64), .long 0, .long 40]) (rest := []) X hG hS (ct_X7_in l z  hcr7) mt_X7_in ml_X7_88 rfl ⟨rfl, rfl, Nat.le_of_ble_eq_true rfl, Nat.le_of_ble_eq_true rfl⟩ ⟨Nat.le_refl 0, Nat.le_refl 0⟩ hl.1 (Nat.le_of_ble_eq_true rfl) rfl dX7_row_30 (fun H locs hG hS => ?_)
      refine lv_if_ne (tgt := 43) hx hb dX7_row_33 (by decide) (fun q8 => ?_) (fun q8 => ?_)
      · have h := ite_n h q8
        refine lv_aload_n hx hb dX7_row_43 rfl (lv_at hl 0 rfl) ?_
        refine gf_X7_0 X hG (nx_0 n_a) k_a fl_X7_7 dX7_row_44 ?_
        refine lv_iload_n hx hb dX7_row_47 rfl (lv_at hl 1 rfl) ?_
        refine lv_iconst (v := 1) hx hb dX7_row_48 (by decide) ?_
        obtain ⟨i9, h⟩ := gd_y h
        refine g_iast X hG hS (nx_a (a := a) (k := 1) (n := 59) n_a (Nat.le_of_ble_eq_true rfl)) (kx_7_1 k_a) (by decide) i9 dX7_row_49 (fun H locs hG hS => ?_)
        obtain ⟨M10, eM10⟩ : ∃ y, y = sI M (a + 1) (v1 : Int32).toNatClampNeg 1 := ⟨_, rfl⟩
        rw [← eM10] at hG
        have h := nm_y h M10 eM10
        refine lv_aload_n hx hb dX7_row_50 rfl (lv_at hl 0 rfl) ?_
        refine gf_X7_1 X hG (nx_0 n_a) k_a fl_X7_13 dX7_row_51 ?_
        refine lv_iload_n hx hb dX7_row_54 rfl (lv_at hl 1 rfl) ?_
        refine lv_iload_n hx hb dX7_row_55 rfl (lv_at hl 2 rfl) ?_
        refine g_iast X hG hS (nx_a (a := a) (k := 2) (n := 59) n_a (Nat.le_of_ble_eq_true rfl)) (kx_7_2 k_a) (by decide) i9 dX7_row_56 (fun H locs hG hS => ?_)
        obtain ⟨M11, eM11⟩ : ∃ y, y = sI M10 (a + 2) (v1 : Int32).toNatClampNeg v2 := ⟨_, rfl⟩
        rw [← eM11] at hG
        have h := nm_y h M11 eM11
        refine lv_aload_n hx hb dX7_row_57 rfl (lv_at hl 0 rfl) ?_
        refine gf_X7_2 X hG (nx_0 n_a) k_a fl_X7_16 dX7_row_58 ?_
        refine lv_iload_n hx hb dX7_row_61 rfl (lv_at hl 1 rfl) ?_
        refine lv_iload_n hx hb dX7_row_62 rfl (lv_at hl 3 rfl) ?_
        refine g_iast X hG hS (nx_a (a := a) (k := 3) (n := 59) n_a (Nat.le_of_ble_eq_true rfl)) (kx_7_3 k_a) (by decide) i9 dX7_row_63 (fun H locs hG hS => ?_)
        obtain ⟨M12, eM12⟩ : ∃ y, y = sI M11 (a + 3) (v1 : Int32).toNatClampNeg v3 := ⟨_, rfl⟩
        rw [← eM12] at hG
        have h := nm_y h M12 eM12
        refine lv_iconst (v := 0) hx hb dX7_row_64 (by decide) ?_
        refine lv_istore (lv' := [(4, .int 0), (0, .ref (gad z a)), (1, .int v1), (2, .int v2), (3, .int v3)]) hx hb dX7_row_65 hl (by decide) rfl (fun ls hl => ?_)
        refine wX7_row_67 X hr hlk k_a n_a _ _ _ _ _ _ h hG hS (lv_sub hl [1, 2, 0] rfl)
      · have h := ite_y h q8
        refine lv_aload_n hx hb dX7_row_36 rfl (lv_at hl 0 rfl) ?_
        refine lv_bipush (v := (-2)) hx hb dX7_row_37 (by decide) ?_
        obtain ⟨r13, hcr13, h⟩ := bd_y h
        refine g_cVI (a := a) (ci := 7) (T := TX7) (N := 37) (av := [.int (-2)]) (rest := []) X hG hS (ct_X7_refuse l z k_a n_a hcr13) mt_X7_refuse ml_X7_106 rfl ⟨rfl, rfl, Nat.le_of_ble_eq_true rfl, Nat.le_of_ble_eq_true rfl⟩ ⟨Nat.le_refl 0, Nat.le_refl 0⟩ (nx_0 n_a) k_a (by decide) rfl hl.1 (Nat.le_of_ble_eq_true rfl) rfl dX7_row_39 (fun H locs hG hS => ?_)
        obtain rfl := Option.some.inj h
        exact g_iret X hr hlk hG hS dX7_row_42
set_option maxRecDepth 100000 in
set_option maxHeartbeats 4000000 in
theorem ct_X7_fit (l : Launch) (z : gZ) {N : Nat} {M : Mem} {v0 : Int32} {v1 : Int64} {o : Int64}  (h : fX7_fit N M v0 v1 = some o) : CtL l z yX7_fit cX7_fit 3 (some .long) { frames := 0, cells := 0, slots := 0, locals := 0 } [.int v0, .long v1] M o M := by
  refine Ct_of rfl (Nat.le_of_ble_eq_true rfl) ?_
  intro p e s m below meth c ls X hr hlk hG hS hl
  have X : gX p m c _ _ s _ RX7 z := X
  have hl : lv_has ls 3 [(0, .int v0), (1, .long v1)] := hl
  have hx := X.1
  have hb := X.2.1
  unfold fX7_fit at h
  refine lv_iload_n hx hb dX7_fit_0 rfl (lv_at hl 0 rfl) ?_
  by_cases q1 : v0 = 0
  · have h := ite_y h q1
    refine lv_tableIn (tgt := 32) hx hb dX7_fit_1 (by rw [q1]; decide) (by rw [q1]; decide) (by rw [q1]; rfl) (by decide) ?_
    refine lv_lload_n hx hb dX7_fit_32 rfl (lv_at hl 1 rfl) ?_
    refine lv_l2i hx hb dX7_fit_33 rfl ?_
    refine lv_i2b hx hb dX7_fit_34 rfl ?_
    refine lv_i2l hx hb dX7_fit_35 rfl ?_
    obtain rfl := Option.some.inj h
    exact g_lret X hr hlk hG hS dX7_fit_36
  · have h := ite_n h q1
    by_cases q2 : v0 = 1
    · have h := ite_y h q2
      refine lv_tableIn (tgt := 37) hx hb dX7_fit_1 (by rw [q2]; decide) (by rw [q2]; decide) (by rw [q2]; rfl) (by decide) ?_
      refine lv_lload_n hx hb dX7_fit_37 rfl (lv_at hl 1 rfl) ?_
      refine lv_l2i hx hb dX7_fit_38 rfl ?_
      refine lv_i2s hx hb dX7_fit_39 rfl ?_
      refine lv_i2l hx hb dX7_fit_40 rfl ?_
      obtain rfl := Option.some.inj h
      exact g_lret X hr hlk hG hS dX7_fit_41
    · have h := ite_n h q2
      by_cases q3 : v0 = 2
      · have h := ite_y h q3
        refine lv_tableIn (tgt := 42) hx hb dX7_fit_1 (by rw [q3]; decide) (by rw [q3]; decide) (by rw [q3]; rfl) (by decide) ?_
        refine lv_lload_n hx hb dX7_fit_42 rfl (lv_at hl 1 rfl) ?_
        refine lv_l2i hx hb dX7_fit_43 rfl ?_
        refine lv_i2l hx hb dX7_fit_44 rfl ?_
        obtain rfl := Option.some.inj h
        exact g_lret X hr hlk hG hS dX7_fit_45
      · have h := ite_n h q3
        by_cases q4 : v0 = 3
        · have h := ite_y h q4
          refine lv_tableIn (tgt := 46) hx hb dX7_fit_1 (by rw [q4]; decide) (by rw [q4]; decide) (by rw [q4]; rfl) (by decide) ?_
          refine lv_lload_n hx hb dX7_fit_46 rfl (lv_at hl 1 rfl) ?_
          obtain rfl := Option.some.inj h
          exact g_lret X hr hlk hG hS dX7_fit_47
        · have h := ite_n h q4
          refine lv_tableOut (tgt := 48) hx hb dX7_fit_1 (by have eq1 := lv_neT (a := 0) q1 (by decide); have eq2 := lv_neT (a := 1) q2 (by decide); have eq3 := lv_neT (a := 2) q3 (by decide); have eq4 := lv_neT (a := 3) q4 (by decide); omega) (by decide) ?_
          refine lv_lload_n hx hb dX7_fit_48 rfl (lv_at hl 1 rfl) ?_
          refine lv_lconst (v := 0) hx hb dX7_fit_49 (by decide) ?_
          refine W.lcmp hx hb dX7_fit_50 ?_
          refine lv_if_eq (tgt := 58) hx hb dX7_fit_51 (by decide) (fun q5 => ?_) (fun q5 => ?_)
          · have h := ite_y h q5
            refine lv_lconst (v := 0) hx hb dX7_fit_58 (by decide) ?_
            obtain rfl := Option.some.inj h
            exact g_lret X hr hlk hG hS dX7_fit_59
          · have h := ite_n h q5
            refine lv_lconst (v := 1) hx hb dX7_fit_54 (by decide) ?_
            refine lv_goto (tgt := 59) hx hb dX7_fit_55 (by decide) ?_
            obtain rfl := Option.some.inj h
            exact g_lret X hr hlk hG hS dX7_fit_59
set_option maxRecDepth 100000 in
set_option maxHeartbeats 4000000 in
theorem ct_X7_set (l : Launch) (z : gZ) {N : Nat} {M : Mem} {a : Nat} {v1 : Int32} {v2 : Int32} {v3 : Int64} {o : Int32 × Mem} (k_a : kd a = 7) (n_a : a + 59 ≤ gn z) (h : fX7_set N M a v1 v2 v3 = some o) : CtI l z yX7_set cX7_set 5 (some .int) { frames := 1, cells := 0, slots := 0, locals := 25 } [.ref (gad z a), .int v1, .int v2, .long v3] M o.1 o.2 := by
  refine Ct_of rfl (Nat.le_of_ble_eq_true rfl) ?_
  intro p e s m below meth c ls X hr hlk hG hS hl
  have X : gX p m c _ _ s _ RX7 z := X
  have hl : lv_has ls 5 [(0, .ref (gad z a)), (1, .int v1), (2, .int v2), (3, .long v3)] := hl
  have hx := X.1
  have hb := X.2.1
  unfold fX7_set at h
  refine lv_iload_n hx hb dX7_set_0 rfl (lv_at hl 1 rfl) ?_
  refine lv_i2l hx hb dX7_set_1 rfl ?_
  refine lv_lconst (v := 0) hx hb dX7_set_2 (by decide) ?_
  refine lv_ldc2 (v := 7) hx hb X.2.2.2.1 (X.2.2.2.2.1 _ cn_X7_100) dX7_set_3 ?_
  obtain ⟨r1, hcr1, h⟩ := bd_y h
  refine g_cSI (av := [.long ((v1 : Int32).toInt64), .long 0, .long 7]) (rest := []) X hG hS (ct_X7_in l z  hcr1) mt_X7_in ml_X7_88 rfl ⟨rfl, rfl, Nat.le_of_ble_eq_true rfl, Nat.le_of_ble_eq_true rfl⟩ ⟨Nat.le_refl 0, Nat.le_refl 0⟩ hl.1 (Nat.le_of_ble_eq_true rfl) rfl dX7_set_6 (fun H locs hG hS => ?_)
  refine lv_if_ne (tgt := 19) hx hb dX7_set_9 (by decide) (fun q2 => ?_) (fun q2 => ?_)
  · have h := ite_n h q2
    refine lv_aload_n hx hb dX7_set_19 rfl (lv_at hl 0 rfl) ?_
    refine gf_X7_0 X hG (nx_0 n_a) k_a fl_X7_7 dX7_set_20 ?_
    refine lv_iload_n hx hb dX7_set_23 rfl (lv_at hl 1 rfl) ?_
    obtain ⟨i3, h⟩ := gd_y h
    refine g_iald X hG (nx_a (a := a) (k := 1) (n := 59) n_a (Nat.le_of_ble_eq_true rfl)) (kx_7_1 k_a) (by decide) i3 dX7_set_24 ?_
    refine lv_iconst (v := 2) hx hb dX7_set_25 (by decide) ?_
    refine lv_icmp_ne (tgt := 36) hx hb dX7_set_26 (by decide) (fun q4 => ?_) (fun q4 => ?_)
    · have h := ite_n h q4
      refine lv_aload_n hx hb dX7_set_36 rfl (lv_at hl 0 rfl) ?_
      refine gf_X7_0 X hG (nx_0 n_a) k_a fl_X7_7 dX7_set_37 ?_
      refine lv_iload_n hx hb dX7_set_40 rfl (lv_at hl 1 rfl) ?_
      refine g_iald X hG (nx_a (a := a) (k := 1) (n := 59) n_a (Nat.le_of_ble_eq_true rfl)) (kx_7_1 k_a) (by decide) i3 dX7_set_41 ?_
      refine lv_if_ne (tgt := 52) hx hb dX7_set_42 (by decide) (fun q5 => ?_) (fun q5 => ?_)
      · have h := ite_n h q5
        refine lv_iload_n hx hb dX7_set_52 rfl (lv_at hl 2 rfl) ?_
        refine lv_i2l hx hb dX7_set_53 rfl ?_
        refine lv_lconst (v := 0) hx hb dX7_set_54 (by decide) ?_
        refine lv_aload_n hx hb dX7_set_55 rfl (lv_at hl 0 rfl) ?_
        refine gf_X7_2 X hG (nx_0 n_a) k_a fl_X7_16 dX7_set_56 ?_
        refine lv_iload_n hx hb dX7_set_59 rfl (lv_at hl 1 rfl) ?_
        refine g_iald X hG (nx_a (a := a) (k := 3) (n := 59) n_a (Nat.le_of_ble_eq_true rfl)) (kx_7_3 k_a) (by decide) i3 dX7_set_60 ?_
        refine lv_iconst (v := 1) hx hb dX7_set_61 (by decide) ?_
        refine lv_isub hx hb dX7_set_62 ?_
        refine lv_i2l hx hb dX7_set_63 rfl ?_
        obtain ⟨r6, hcr6, h⟩ := bd_y h
        refine g_cSI (av := [.long ((v2 : Int32).toInt64), .long 0, .long ((((M.1 (a + 3) (v1 : Int32).toNatClampNeg) - 1) : Int32).toInt64)]) (rest := []) X hG hS (ct_X7_in l z  hcr6) mt_X7_in ml_X7_88 rfl ⟨rfl, rfl, Nat.le_of_ble_eq_true rfl, Nat.le_of_ble_eq_true rfl⟩ ⟨Nat.le_refl 0, Nat.le_refl 0⟩ hl.1 (Nat.le_of_ble_eq_true rfl) rfl dX7_set_64 (fun H locs hG hS => ?_)
        refine lv_if_ne (tgt := 77) hx hb dX7_set_67 (by decide) (fun q7 => ?_) (fun q7 => ?_)
        · have h := ite_n h q7
          refine lv_aload_n hx hb dX7_set_77 rfl (lv_at hl 0 rfl) ?_
          refine gf_X7_3 X hG (nx_0 n_a) k_a fl_X7_21 dX7_set_78 ?_
          refine lv_iload_n hx hb dX7_set_81 rfl (lv_at hl 1 rfl) ?_
          refine g_aldJJ X hG (nx_a (a := a) (k := 4) (n := 59) n_a (Nat.le_of_ble_eq_true rfl)) (kx_7_4 k_a) i3 dX7_set_82 ?_
          refine lv_iload_n hx hb dX7_set_83 rfl (lv_at hl 2 rfl) ?_
          refine lv_aload_n hx hb dX7_set_84 rfl (lv_at hl 0 rfl) ?_
          refine gf_X7_1 X hG (nx_0 n_a) k_a fl_X7_13 dX7_set_85 ?_
          refine lv_iload_n hx hb dX7_set_88 rfl (lv_at hl 1 rfl) ?_
          refine g_iald X hG (nx_a (a := a) (k := 2) (n := 59) n_a (Nat.le_of_ble_eq_true rfl)) (kx_7_2 k_a) (by decide) i3 dX7_set_89 ?_
          refine lv_lload_n hx hb dX7_set_90 rfl (lv_at hl 3 rfl) ?_
          obtain ⟨r8, hcr8, h⟩ := bd_y h
          refine g_cSL (av := [.int (M.1 (a + 2) (v1 : Int32).toNatClampNeg), .long v3]) (rest := [.int v2, .ref (gad z ((a + 4) + 1 + (v1 : Int32).toNatClampNeg))]) X hG hS (ct_X7_fit l z  hcr8) mt_X7_fit ml_X7_109 rfl ⟨rfl, rfl, Nat.le_of_ble_eq_true rfl, Nat.le_of_ble_eq_true rfl⟩ ⟨Nat.le_refl 0, Nat.le_refl 0⟩ hl.1 (Nat.le_of_ble_eq_true rfl) rfl dX7_set_91 (fun H locs hG hS => ?_)
          obtain ⟨i9, h⟩ := gd_y h
          refine g_last X hG hS (nE n_a i3 (Nat.le_of_ble_eq_true rfl)) (ke_7_4 k_a i3) (by decide) i9 dX7_set_94 (fun H locs hG hS => ?_)
          obtain ⟨M10, eM10⟩ : ∃ y, y = sJ M ((a + 4) + 1 + (v1 : Int32).toNatClampNeg) (v2 : Int32).toNatClampNeg r8 := ⟨_, rfl⟩
          rw [← eM10] at hG
          have h := nm_y h M10 eM10
          refine lv_iconst (v := 1) hx hb dX7_set_95 (by decide) ?_
          obtain rfl := Option.some.inj h
          exact g_iret X hr hlk hG hS dX7_set_96
        · have h := ite_y h q7
          refine lv_aload_n hx hb dX7_set_70 rfl (lv_at hl 0 rfl) ?_
          refine lv_bipush (v := (-2)) hx hb dX7_set_71 (by decide) ?_
          obtain ⟨r11, hcr11, h⟩ := bd_y h
          refine g_cVI (a := a) (ci := 7) (T := TX7) (N := 37) (av := [.int (-2)]) (rest := []) X hG hS (ct_X7_refuse l z k_a n_a hcr11) mt_X7_refuse ml_X7_106 rfl ⟨rfl, rfl, Nat.le_of_ble_eq_true rfl, Nat.le_of_ble_eq_true rfl⟩ ⟨Nat.le_refl 0, Nat.le_refl 0⟩ (nx_0 n_a) k_a (by decide) rfl hl.1 (Nat.le_of_ble_eq_true rfl) rfl dX7_set_73 (fun H locs hG hS => ?_)
          obtain rfl := Option.some.inj h
          exact g_iret X hr hlk hG hS dX7_set_76
      · have h := ite_y h q5
        refine lv_aload_n hx hb dX7_set_45 rfl (lv_at hl 0 rfl) ?_
        refine lv_bipush (v := (-4)) hx hb dX7_set_46 (by decide) ?_
        obtain ⟨r12, hcr12, h⟩ := bd_y h
        refine g_cVI (a := a) (ci := 7) (T := TX7) (N := 37) (av := [.int (-4)]) (rest := []) X hG hS (ct_X7_refuse l z k_a n_a hcr12) mt_X7_refuse ml_X7_106 rfl ⟨rfl, rfl, Nat.le_of_ble_eq_true rfl, Nat.le_of_ble_eq_true rfl⟩ ⟨Nat.le_refl 0, Nat.le_refl 0⟩ (nx_0 n_a) k_a (by decide) rfl hl.1 (Nat.le_of_ble_eq_true rfl) rfl dX7_set_48 (fun H locs hG hS => ?_)
        obtain rfl := Option.some.inj h
        exact g_iret X hr hlk hG hS dX7_set_51
    · have h := ite_y h q4
      refine lv_aload_n hx hb dX7_set_29 rfl (lv_at hl 0 rfl) ?_
      refine lv_bipush (v := (-3)) hx hb dX7_set_30 (by decide) ?_
      obtain ⟨r13, hcr13, h⟩ := bd_y h
      refine g_cVI (a := a) (ci := 7) (T := TX7) (N := 37) (av := [.int (-3)]) (rest := []) X hG hS (ct_X7_refuse l z k_a n_a hcr13) mt_X7_refuse ml_X7_106 rfl ⟨rfl, rfl, Nat.le_of_ble_eq_true rfl, Nat.le_of_ble_eq_true rfl⟩ ⟨Nat.le_refl 0, Nat.le_refl 0⟩ (nx_0 n_a) k_a (by decide) rfl hl.1 (Nat.le_of_ble_eq_true rfl) rfl dX7_set_32 (fun H locs hG hS => ?_)
      obtain rfl := Option.some.inj h
      exact g_iret X hr hlk hG hS dX7_set_35
  · have h := ite_y h q2
    refine lv_aload_n hx hb dX7_set_12 rfl (lv_at hl 0 rfl) ?_
    refine lv_bipush (v := (-2)) hx hb dX7_set_13 (by decide) ?_
    obtain ⟨r14, hcr14, h⟩ := bd_y h
    refine g_cVI (a := a) (ci := 7) (T := TX7) (N := 37) (av := [.int (-2)]) (rest := []) X hG hS (ct_X7_refuse l z k_a n_a hcr14) mt_X7_refuse ml_X7_106 rfl ⟨rfl, rfl, Nat.le_of_ble_eq_true rfl, Nat.le_of_ble_eq_true rfl⟩ ⟨Nat.le_refl 0, Nat.le_refl 0⟩ (nx_0 n_a) k_a (by decide) rfl hl.1 (Nat.le_of_ble_eq_true rfl) rfl dX7_set_15 (fun H locs hG hS => ?_)
    obtain rfl := Option.some.inj h
    exact g_iret X hr hlk hG hS dX7_set_18
set_option maxRecDepth 100000 in
set_option maxHeartbeats 4000000 in
theorem wX7_copy_225 {N : Nat} {p : Program} {l : Launch} {e : Env} {s : State} {m : MethodId} {args : Array Value} {below : List Frame} {meth : Method} {c : Code} {z : gZ} {a : Nat} {u2 : Int32} {u4 : Int32} {u5 : Int32} {o : Int32 × Mem} (X : gX p m c cX7_copy 7 s args RX7 z) (hr : meth.sig.returnType = (some .int)) (hlk : meth.locks = false) (k_a : kd a = 7) (n_a : a + 59 ≤ gn z)  : ∀ (n : Nat) (Mw : Mem) (w6 : Int32) (H : Heap) (locs : List Loc) (ls : Array Slot), fX7_copy_225 N a u2 u4 u5  n Mw w6 = some o → gW z Mw H → va_S (gA z) s.heap H locs → lv_has ls 7 [(0, .ref (gad z a)), (2, .int u2), (4, .int u4), (5, .int u5), (6, .int w6)] → W p l e { frames := 1, cells := 0, slots := 0, locals := 25 } s m args below meth c H locs 0 0 (MQ below (va_Qi (fun r' (_ : Unit) => r' = o.1) (fun _ t => gW z o.2 t.heap) (gA z)) args s 0 0 (gA z)) (F0 m 225 ls []) := by
  have hx := X.1
  have hb := X.2.1
  intro n
  induction n with
  | zero => intro Mw w6 H locs ls h; cases h
  | succ n ih =>
    intro Mw w6 H locs ls h hG hS hl
    rw [fX7_copy_225] at h
    refine lv_iload hx hb dX7_copy_225 (lv_at hl 4 rfl) ?_
    refine lv_iload hx hb dX7_copy_227 (lv_at hl 3 rfl) ?_
    refine lv_icmp_ge (tgt := 257) hx hb dX7_copy_229 (by decide) (fun q1 => ?_) (fun q1 => ?_)
    · have h := ite_y h q1
      refine lv_iload hx hb dX7_copy_257 (lv_at hl 3 rfl) ?_
      obtain rfl := Option.some.inj h
      exact g_iret X hr hlk hG hS dX7_copy_259
    · have h := ite_n h q1
      refine lv_aload_n hx hb dX7_copy_232 rfl (lv_at hl 0 rfl) ?_
      refine gf_X7_3 X hG (nx_0 n_a) k_a fl_X7_21 dX7_copy_233 ?_
      refine lv_iload_n hx hb dX7_copy_236 rfl (lv_at hl 1 rfl) ?_
      obtain ⟨i2, h⟩ := gd_y h
      refine g_aldJJ X hG (nx_a (a := a) (k := 4) (n := 59) n_a (Nat.le_of_ble_eq_true rfl)) (kx_7_4 k_a) i2 dX7_copy_237 ?_
      refine lv_iload hx hb dX7_copy_238 (lv_at hl 2 rfl) ?_
      refine lv_iload hx hb dX7_copy_240 (lv_at hl 4 rfl) ?_
      refine lv_iadd hx hb dX7_copy_242 ?_
      refine lv_aload_n hx hb dX7_copy_243 rfl (lv_at hl 0 rfl) ?_
      refine gf_X7_6 X hG (nx_0 n_a) k_a fl_X7_30 dX7_copy_244 ?_
      refine lv_iload hx hb dX7_copy_247 (lv_at hl 4 rfl) ?_
      obtain ⟨i3, h⟩ := gd_y h
      refine g_lald X hG (nx_a (a := a) (k := 15) (n := 59) n_a (Nat.le_of_ble_eq_true rfl)) (kx_7_15 k_a) (by decide) i3 dX7_copy_249 ?_
      obtain ⟨i4, h⟩ := gd_y h
      refine g_last X hG hS (nE n_a i2 (Nat.le_of_ble_eq_true rfl)) (ke_7_4 k_a i2) (by decide) i4 dX7_copy_250 (fun H locs hG hS => ?_)
      obtain ⟨M5, eM5⟩ : ∃ y, y = sJ Mw ((a + 4) + 1 + (u2 : Int32).toNatClampNeg) ((u4 + w6) : Int32).toNatClampNeg (Mw.2 (a + 15) (w6 : Int32).toNatClampNeg) := ⟨_, rfl⟩
      rw [← eM5] at hG
      have h := nm_y h M5 eM5
      refine lv_iinc (v := (w6 + 1)) (lv' := [(6, .int (w6 + 1)), (0, .ref (gad z a)), (2, .int u2), (4, .int u4), (5, .int u5)]) hx hb dX7_copy_251 hl (k := 4) rfl rfl (by decide) rfl (fun ls hl => ?_)
      refine lv_goto (tgt := 225) hx hb dX7_copy_254 (by decide) ?_
      exact ih M5 (w6 + 1) _ _ _ h hG hS (lv_sub hl [1, 2, 3, 4, 0] rfl)
set_option maxRecDepth 100000 in
set_option maxHeartbeats 4000000 in
theorem wX7_copy_191 {N : Nat} {p : Program} {l : Launch} {e : Env} {s : State} {m : MethodId} {args : Array Value} {below : List Frame} {meth : Method} {c : Code} {z : gZ} {a : Nat} {u1 : Int32} {u2 : Int32} {u3 : Int32} {u4 : Int32} {u5 : Int32} {o : Int32 × Mem} (X : gX p m c cX7_copy 7 s args RX7 z) (hr : meth.sig.returnType = (some .int)) (hlk : meth.locks = false) (k_a : kd a = 7) (n_a : a + 59 ≤ gn z)  : ∀ (n : Nat) (Mw : Mem) (w6 : Int32) (H : Heap) (locs : List Loc) (ls : Array Slot), fX7_copy_191 N a u1 u2 u3 u4 u5  n Mw w6 = some o → gW z Mw H → va_S (gA z) s.heap H locs → lv_has ls 7 [(0, .ref (gad z a)), (1, .int u1), (2, .int u2), (3, .int u3), (4, .int u4), (5, .int u5), (6, .int w6)] → W p l e { frames := 1, cells := 0, slots := 0, locals := 25 } s m args below meth c H locs 0 0 (MQ below (va_Qi (fun r' (_ : Unit) => r' = o.1) (fun _ t => gW z o.2 t.heap) (gA z)) args s 0 0 (gA z)) (F0 m 191 ls []) := by
  have hx := X.1
  have hb := X.2.1
  intro n
  induction n with
  | zero => intro Mw w6 H locs ls h; cases h
  | succ n ih =>
    intro Mw w6 H locs ls h hG hS hl
    rw [fX7_copy_191] at h
    refine lv_iload hx hb dX7_copy_191 (lv_at hl 6 rfl) ?_
    refine lv_iload hx hb dX7_copy_193 (lv_at hl 5 rfl) ?_
    refine lv_icmp_ge (tgt := 222) hx hb dX7_copy_195 (by decide) (fun q1 => ?_) (fun q1 => ?_)
    · have h := ite_y h q1
      refine lv_iconst (v := 0) hx hb dX7_copy_222 (by decide) ?_
      refine lv_istore (lv' := [(6, .int 0), (0, .ref (gad z a)), (1, .int u1), (2, .int u2), (3, .int u3), (4, .int u4), (5, .int u5)]) hx hb dX7_copy_223 hl (by decide) rfl (fun ls hl => ?_)
      refine wX7_copy_225 X hr hlk k_a n_a _ _ _ _ _ _ h hG hS (lv_sub hl [1, 3, 5, 6, 0] rfl)
    · have h := ite_n h q1
      refine lv_aload_n hx hb dX7_copy_198 rfl (lv_at hl 0 rfl) ?_
      refine gf_X7_6 X hG (nx_0 n_a) k_a fl_X7_30 dX7_copy_199 ?_
      refine lv_iload hx hb dX7_copy_202 (lv_at hl 6 rfl) ?_
      refine lv_aload_n hx hb dX7_copy_204 rfl (lv_at hl 0 rfl) ?_
      refine gf_X7_3 X hG (nx_0 n_a) k_a fl_X7_21 dX7_copy_205 ?_
      refine lv_iload_n hx hb dX7_copy_208 rfl (lv_at hl 1 rfl) ?_
      obtain ⟨i6, h⟩ := gd_y h
      refine g_aldJJ X hG (nx_a (a := a) (k := 4) (n := 59) n_a (Nat.le_of_ble_eq_true rfl)) (kx_7_4 k_a) i6 dX7_copy_209 ?_
      refine lv_iload_n hx hb dX7_copy_210 rfl (lv_at hl 3 rfl) ?_
      refine lv_iload hx hb dX7_copy_211 (lv_at hl 6 rfl) ?_
      refine lv_iadd hx hb dX7_copy_213 ?_
      obtain ⟨i7, h⟩ := gd_y h
      refine g_lald X hG (nE n_a i6 (Nat.le_of_ble_eq_true rfl)) (ke_7_4 k_a i6) (by decide) i7 dX7_copy_214 ?_
      obtain ⟨i8, h⟩ := gd_y h
      refine g_last X hG hS (nx_a (a := a) (k := 15) (n := 59) n_a (Nat.le_of_ble_eq_true rfl)) (kx_7_15 k_a) (by decide) i8 dX7_copy_215 (fun H locs hG hS => ?_)
      obtain ⟨M9, eM9⟩ : ∃ y, y = sJ Mw (a + 15) (w6 : Int32).toNatClampNeg (Mw.2 ((a + 4) + 1 + (u1 : Int32).toNatClampNeg) ((u3 + w6) : Int32).toNatClampNeg) := ⟨_, rfl⟩
      rw [← eM9] at hG
      have h := nm_y h M9 eM9
      refine lv_iinc (v := (w6 + 1)) (lv' := [(6, .int (w6 + 1)), (0, .ref (gad z a)), (1, .int u1), (2, .int u2), (3, .int u3), (4, .int u4), (5, .int u5)]) hx hb dX7_copy_216 hl (k := 6) rfl rfl (by decide) rfl (fun ls hl => ?_)
      refine lv_goto (tgt := 191) hx hb dX7_copy_219 (by decide) ?_
      exact ih M9 (w6 + 1) _ _ _ h hG hS (lv_sub hl [1, 2, 3, 4, 5, 6, 0] rfl)
set_option maxRecDepth 100000 in
set_option maxHeartbeats 4000000 in
theorem ct_X7_copy (l : Launch) (z : gZ) {N : Nat} {M : Mem} {a : Nat} {v1 : Int32} {v2 : Int32} {v3 : Int32} {v4 : Int32} {v5 : Int32} {o : Int32 × Mem} (k_a : kd a = 7) (n_a : a + 59 ≤ gn z) (h : fX7_copy N M a v1 v2 v3 v4 v5 = some o) : CtI l z yX7_copy cX7_copy 7 (some .int) { frames := 1, cells := 0, slots := 0, locals := 25 } [.ref (gad z a), .int v1, .int v2, .int v3, .int v4, .int v5] M o.1 o.2 := by
  refine Ct_of rfl (Nat.le_of_ble_eq_true rfl) ?_
  intro p e s m below meth c ls X hr hlk hG hS hl
  have X : gX p m c _ _ s _ RX7 z := X
  have hl : lv_has ls 7 [(0, .ref (gad z a)), (1, .int v1), (2, .int v2), (3, .int v3), (4, .int v4), (5, .int v5)] := hl
  have hx := X.1
  have hb := X.2.1
  unfold fX7_copy at h
  refine lv_iload_n hx hb dX7_copy_0 rfl (lv_at hl 1 rfl) ?_
  refine lv_i2l hx hb dX7_copy_1 rfl ?_
  refine lv_lconst (v := 0) hx hb dX7_copy_2 (by decide) ?_
  refine lv_ldc2 (v := 7) hx hb X.2.2.2.1 (X.2.2.2.2.1 _ cn_X7_100) dX7_copy_3 ?_
  obtain ⟨r1, hcr1, h⟩ := bd_y h
  refine g_cSI (av := [.long ((v1 : Int32).toInt64), .long 0, .long 7]) (rest := []) X hG hS (ct_X7_in l z  hcr1) mt_X7_in ml_X7_88 rfl ⟨rfl, rfl, Nat.le_of_ble_eq_true rfl, Nat.le_of_ble_eq_true rfl⟩ ⟨Nat.le_refl 0, Nat.le_refl 0⟩ hl.1 (Nat.le_of_ble_eq_true rfl) rfl dX7_copy_6 (fun H locs hG hS => ?_)
  refine lv_if_eq (tgt := 24) hx hb dX7_copy_9 (by decide) (fun q2 => ?_) (fun q2 => ?_)
  · have h := ite_y h q2
    refine lv_aload_n hx hb dX7_copy_24 rfl (lv_at hl 0 rfl) ?_
    refine lv_bipush (v := (-2)) hx hb dX7_copy_25 (by decide) ?_
    obtain ⟨r3, hcr3, h⟩ := bd_y h
    refine g_cVI (a := a) (ci := 7) (T := TX7) (N := 37) (av := [.int (-2)]) (rest := []) X hG hS (ct_X7_refuse l z k_a n_a hcr3) mt_X7_refuse ml_X7_106 rfl ⟨rfl, rfl, Nat.le_of_ble_eq_true rfl, Nat.le_of_ble_eq_true rfl⟩ ⟨Nat.le_refl 0, Nat.le_refl 0⟩ (nx_0 n_a) k_a (by decide) rfl hl.1 (Nat.le_of_ble_eq_true rfl) rfl dX7_copy_27 (fun H locs hG hS => ?_)
    obtain rfl := Option.some.inj h
    exact g_iret X hr hlk hG hS dX7_copy_30
  · have h := ite_n h q2
    refine lv_iload_n hx hb dX7_copy_12 rfl (lv_at hl 2 rfl) ?_
    refine lv_i2l hx hb dX7_copy_13 rfl ?_
    refine lv_lconst (v := 0) hx hb dX7_copy_14 (by decide) ?_
    refine lv_ldc2 (v := 7) hx hb X.2.2.2.1 (X.2.2.2.2.1 _ cn_X7_100) dX7_copy_15 ?_
    obtain ⟨r4, hcr4, h⟩ := bd_y h
    refine g_cSI (av := [.long ((v2 : Int32).toInt64), .long 0, .long 7]) (rest := []) X hG hS (ct_X7_in l z  hcr4) mt_X7_in ml_X7_88 rfl ⟨rfl, rfl, Nat.le_of_ble_eq_true rfl, Nat.le_of_ble_eq_true rfl⟩ ⟨Nat.le_refl 0, Nat.le_refl 0⟩ hl.1 (Nat.le_of_ble_eq_true rfl) rfl dX7_copy_18 (fun H locs hG hS => ?_)
    refine lv_if_ne (tgt := 31) hx hb dX7_copy_21 (by decide) (fun q5 => ?_) (fun q5 => ?_)
    · have h := ite_n h q5
      refine lv_aload_n hx hb dX7_copy_31 rfl (lv_at hl 0 rfl) ?_
      refine gf_X7_0 X hG (nx_0 n_a) k_a fl_X7_7 dX7_copy_32 ?_
      refine lv_iload_n hx hb dX7_copy_35 rfl (lv_at hl 1 rfl) ?_
      obtain ⟨i6, h⟩ := gd_y h
      refine g_iald X hG (nx_a (a := a) (k := 1) (n := 59) n_a (Nat.le_of_ble_eq_true rfl)) (kx_7_1 k_a) (by decide) i6 dX7_copy_36 ?_
      refine lv_iconst (v := 2) hx hb dX7_copy_37 (by decide) ?_
      refine lv_icmp_eq (tgt := 86) hx hb dX7_copy_38 (by decide) (fun q7 => ?_) (fun q7 => ?_)
      · have h := ite_y h q7
        refine lv_aload_n hx hb dX7_copy_86 rfl (lv_at hl 0 rfl) ?_
        refine lv_bipush (v := (-3)) hx hb dX7_copy_87 (by decide) ?_
        obtain ⟨r8, hcr8, h⟩ := bd_y h
        refine g_cVI (a := a) (ci := 7) (T := TX7) (N := 37) (av := [.int (-3)]) (rest := []) X hG hS (ct_X7_refuse l z k_a n_a hcr8) mt_X7_refuse ml_X7_106 rfl ⟨rfl, rfl, Nat.le_of_ble_eq_true rfl, Nat.le_of_ble_eq_true rfl⟩ ⟨Nat.le_refl 0, Nat.le_refl 0⟩ (nx_0 n_a) k_a (by decide) rfl hl.1 (Nat.le_of_ble_eq_true rfl) rfl dX7_copy_89 (fun H locs hG hS => ?_)
        obtain rfl := Option.some.inj h
        exact g_iret X hr hlk hG hS dX7_copy_92
      · have h := ite_n h q7
        refine lv_aload_n hx hb dX7_copy_41 rfl (lv_at hl 0 rfl) ?_
        refine gf_X7_0 X hG (nx_0 n_a) k_a fl_X7_7 dX7_copy_42 ?_
        refine lv_iload_n hx hb dX7_copy_45 rfl (lv_at hl 2 rfl) ?_
        obtain ⟨i9, h⟩ := gd_y h
        refine g_iald X hG (nx_a (a := a) (k := 1) (n := 59) n_a (Nat.le_of_ble_eq_true rfl)) (kx_7_1 k_a) (by decide) i9 dX7_copy_46 ?_
        refine lv_iconst (v := 2) hx hb dX7_copy_47 (by decide) ?_
        refine lv_icmp_eq (tgt := 86) hx hb dX7_copy_48 (by decide) (fun q10 => ?_) (fun q10 => ?_)
        · have h := ite_y h q10
          refine lv_aload_n hx hb dX7_copy_86 rfl (lv_at hl 0 rfl) ?_
          refine lv_bipush (v := (-3)) hx hb dX7_copy_87 (by decide) ?_
          obtain ⟨r11, hcr11, h⟩ := bd_y h
          refine g_cVI (a := a) (ci := 7) (T := TX7) (N := 37) (av := [.int (-3)]) (rest := []) X hG hS (ct_X7_refuse l z k_a n_a hcr11) mt_X7_refuse ml_X7_106 rfl ⟨rfl, rfl, Nat.le_of_ble_eq_true rfl, Nat.le_of_ble_eq_true rfl⟩ ⟨Nat.le_refl 0, Nat.le_refl 0⟩ (nx_0 n_a) k_a (by decide) rfl hl.1 (Nat.le_of_ble_eq_true rfl) rfl dX7_copy_89 (fun H locs hG hS => ?_)
          obtain rfl := Option.some.inj h
          exact g_iret X hr hlk hG hS dX7_copy_92
        · have h := ite_n h q10
          refine lv_aload_n hx hb dX7_copy_51 rfl (lv_at hl 0 rfl) ?_
          refine gf_X7_0 X hG (nx_0 n_a) k_a fl_X7_7 dX7_copy_52 ?_
          refine lv_iload_n hx hb dX7_copy_55 rfl (lv_at hl 1 rfl) ?_
          refine g_iald X hG (nx_a (a := a) (k := 1) (n := 59) n_a (Nat.le_of_ble_eq_true rfl)) (kx_7_1 k_a) (by decide) i6 dX7_copy_56 ?_
          refine lv_iconst (v := 1) hx hb dX7_copy_57 (by decide) ?_
          refine lv_icmp_ne (tgt := 93) hx hb dX7_copy_58 (by decide) (fun q12 => ?_) (fun q12 => ?_)
          · have h := ite_n h q12
            refine lv_aload_n hx hb dX7_copy_93 rfl (lv_at hl 0 rfl) ?_
            refine gf_X7_0 X hG (nx_0 n_a) k_a fl_X7_7 dX7_copy_94 ?_
            refine lv_iload_n hx hb dX7_copy_97 rfl (lv_at hl 1 rfl) ?_
            refine g_iald X hG (nx_a (a := a) (k := 1) (n := 59) n_a (Nat.le_of_ble_eq_true rfl)) (kx_7_1 k_a) (by decide) i6 dX7_copy_98 ?_
            refine lv_if_eq (tgt := 111) hx hb dX7_copy_99 (by decide) (fun q13 => ?_) (fun q13 => ?_)
            · have h := ite_y h q13
              refine lv_aload_n hx hb dX7_copy_111 rfl (lv_at hl 0 rfl) ?_
              refine lv_bipush (v := (-4)) hx hb dX7_copy_112 (by decide) ?_
              obtain ⟨r14, hcr14, h⟩ := bd_y h
              refine g_cVI (a := a) (ci := 7) (T := TX7) (N := 37) (av := [.int (-4)]) (rest := []) X hG hS (ct_X7_refuse l z k_a n_a hcr14) mt_X7_refuse ml_X7_106 rfl ⟨rfl, rfl, Nat.le_of_ble_eq_true rfl, Nat.le_of_ble_eq_true rfl⟩ ⟨Nat.le_refl 0, Nat.le_refl 0⟩ (nx_0 n_a) k_a (by decide) rfl hl.1 (Nat.le_of_ble_eq_true rfl) rfl dX7_copy_114 (fun H locs hG hS => ?_)
              obtain rfl := Option.some.inj h
              exact g_iret X hr hlk hG hS dX7_copy_117
            · have h := ite_n h q13
              refine lv_aload_n hx hb dX7_copy_102 rfl (lv_at hl 0 rfl) ?_
              refine gf_X7_0 X hG (nx_0 n_a) k_a fl_X7_7 dX7_copy_103 ?_
              refine lv_iload_n hx hb dX7_copy_106 rfl (lv_at hl 2 rfl) ?_
              refine g_iald X hG (nx_a (a := a) (k := 1) (n := 59) n_a (Nat.le_of_ble_eq_true rfl)) (kx_7_1 k_a) (by decide) i9 dX7_copy_107 ?_
              refine lv_if_ne (tgt := 118) hx hb dX7_copy_108 (by decide) (fun q15 => ?_) (fun q15 => ?_)
              · have h := ite_n h q15
                refine lv_iload hx hb dX7_copy_118 (lv_at hl 5 rfl) ?_
                refine lv_if_lt (tgt := 181) hx hb dX7_copy_120 (by decide) (fun q16 => ?_) (fun q16 => ?_)
                · have h := ite_y h q16
                  refine lv_aload_n hx hb dX7_copy_181 rfl (lv_at hl 0 rfl) ?_
                  refine lv_bipush (v := (-2)) hx hb dX7_copy_182 (by decide) ?_
                  obtain ⟨r17, hcr17, h⟩ := bd_y h
                  refine g_cVI (a := a) (ci := 7) (T := TX7) (N := 37) (av := [.int (-2)]) (rest := []) X hG hS (ct_X7_refuse l z k_a n_a hcr17) mt_X7_refuse ml_X7_106 rfl ⟨rfl, rfl, Nat.le_of_ble_eq_true rfl, Nat.le_of_ble_eq_true rfl⟩ ⟨Nat.le_refl 0, Nat.le_refl 0⟩ (nx_0 n_a) k_a (by decide) rfl hl.1 (Nat.le_of_ble_eq_true rfl) rfl dX7_copy_184 (fun H locs hG hS => ?_)
                  obtain rfl := Option.some.inj h
                  exact g_iret X hr hlk hG hS dX7_copy_187
                · have h := ite_n h q16
                  refine lv_iload_n hx hb dX7_copy_123 rfl (lv_at hl 3 rfl) ?_
                  refine lv_if_lt (tgt := 181) hx hb dX7_copy_124 (by decide) (fun q18 => ?_) (fun q18 => ?_)
                  · have h := ite_y h q18
                    refine lv_aload_n hx hb dX7_copy_181 rfl (lv_at hl 0 rfl) ?_
                    refine lv_bipush (v := (-2)) hx hb dX7_copy_182 (by decide) ?_
                    obtain ⟨r19, hcr19, h⟩ := bd_y h
                    refine g_cVI (a := a) (ci := 7) (T := TX7) (N := 37) (av := [.int (-2)]) (rest := []) X hG hS (ct_X7_refuse l z k_a n_a hcr19) mt_X7_refuse ml_X7_106 rfl ⟨rfl, rfl, Nat.le_of_ble_eq_true rfl, Nat.le_of_ble_eq_true rfl⟩ ⟨Nat.le_refl 0, Nat.le_refl 0⟩ (nx_0 n_a) k_a (by decide) rfl hl.1 (Nat.le_of_ble_eq_true rfl) rfl dX7_copy_184 (fun H locs hG hS => ?_)
                    obtain rfl := Option.some.inj h
                    exact g_iret X hr hlk hG hS dX7_copy_187
                  · have h := ite_n h q18
                    refine lv_iload hx hb dX7_copy_127 (lv_at hl 4 rfl) ?_
                    refine lv_if_lt (tgt := 181) hx hb dX7_copy_129 (by decide) (fun q20 => ?_) (fun q20 => ?_)
                    · have h := ite_y h q20
                      refine lv_aload_n hx hb dX7_copy_181 rfl (lv_at hl 0 rfl) ?_
                      refine lv_bipush (v := (-2)) hx hb dX7_copy_182 (by decide) ?_
                      obtain ⟨r21, hcr21, h⟩ := bd_y h
                      refine g_cVI (a := a) (ci := 7) (T := TX7) (N := 37) (av := [.int (-2)]) (rest := []) X hG hS (ct_X7_refuse l z k_a n_a hcr21) mt_X7_refuse ml_X7_106 rfl ⟨rfl, rfl, Nat.le_of_ble_eq_true rfl, Nat.le_of_ble_eq_true rfl⟩ ⟨Nat.le_refl 0, Nat.le_refl 0⟩ (nx_0 n_a) k_a (by decide) rfl hl.1 (Nat.le_of_ble_eq_true rfl) rfl dX7_copy_184 (fun H locs hG hS => ?_)
                      obtain rfl := Option.some.inj h
                      exact g_iret X hr hlk hG hS dX7_copy_187
                    · have h := ite_n h q20
                      refine lv_iload hx hb dX7_copy_132 (lv_at hl 5 rfl) ?_
                      refine lv_aload_n hx hb dX7_copy_134 rfl (lv_at hl 0 rfl) ?_
                      refine gf_X7_2 X hG (nx_0 n_a) k_a fl_X7_16 dX7_copy_135 ?_
                      refine lv_iload_n hx hb dX7_copy_138 rfl (lv_at hl 1 rfl) ?_
                      refine g_iald X hG (nx_a (a := a) (k := 3) (n := 59) n_a (Nat.le_of_ble_eq_true rfl)) (kx_7_3 k_a) (by decide) i6 dX7_copy_139 ?_
                      refine lv_icmp_gt (tgt := 181) hx hb dX7_copy_140 (by decide) (fun q22 => ?_) (fun q22 => ?_)
                      · have h := ite_y h q22
                        refine lv_aload_n hx hb dX7_copy_181 rfl (lv_at hl 0 rfl) ?_
                        refine lv_bipush (v := (-2)) hx hb dX7_copy_182 (by decide) ?_
                        obtain ⟨r23, hcr23, h⟩ := bd_y h
                        refine g_cVI (a := a) (ci := 7) (T := TX7) (N := 37) (av := [.int (-2)]) (rest := []) X hG hS (ct_X7_refuse l z k_a n_a hcr23) mt_X7_refuse ml_X7_106 rfl ⟨rfl, rfl, Nat.le_of_ble_eq_true rfl, Nat.le_of_ble_eq_true rfl⟩ ⟨Nat.le_refl 0, Nat.le_refl 0⟩ (nx_0 n_a) k_a (by decide) rfl hl.1 (Nat.le_of_ble_eq_true rfl) rfl dX7_copy_184 (fun H locs hG hS => ?_)
                        obtain rfl := Option.some.inj h
                        exact g_iret X hr hlk hG hS dX7_copy_187
                      · have h := ite_n h q22
                        refine lv_iload hx hb dX7_copy_143 (lv_at hl 5 rfl) ?_
                        refine lv_aload_n hx hb dX7_copy_145 rfl (lv_at hl 0 rfl) ?_
                        refine gf_X7_2 X hG (nx_0 n_a) k_a fl_X7_16 dX7_copy_146 ?_
                        refine lv_iload_n hx hb dX7_copy_149 rfl (lv_at hl 2 rfl) ?_
                        refine g_iald X hG (nx_a (a := a) (k := 3) (n := 59) n_a (Nat.le_of_ble_eq_true rfl)) (kx_7_3 k_a) (by decide) i9 dX7_copy_150 ?_
                        refine lv_icmp_gt (tgt := 181) hx hb dX7_copy_151 (by decide) (fun q24 => ?_) (fun q24 => ?_)
                        · have h := ite_y h q24
                          refine lv_aload_n hx hb dX7_copy_181 rfl (lv_at hl 0 rfl) ?_
                          refine lv_bipush (v := (-2)) hx hb dX7_copy_182 (by decide) ?_
                          obtain ⟨r25, hcr25, h⟩ := bd_y h
                          refine g_cVI (a := a) (ci := 7) (T := TX7) (N := 37) (av := [.int (-2)]) (rest := []) X hG hS (ct_X7_refuse l z k_a n_a hcr25) mt_X7_refuse ml_X7_106 rfl ⟨rfl, rfl, Nat.le_of_ble_eq_true rfl, Nat.le_of_ble_eq_true rfl⟩ ⟨Nat.le_refl 0, Nat.le_refl 0⟩ (nx_0 n_a) k_a (by decide) rfl hl.1 (Nat.le_of_ble_eq_true rfl) rfl dX7_copy_184 (fun H locs hG hS => ?_)
                          obtain rfl := Option.some.inj h
                          exact g_iret X hr hlk hG hS dX7_copy_187
                        · have h := ite_n h q24
                          refine lv_iload_n hx hb dX7_copy_154 rfl (lv_at hl 3 rfl) ?_
                          refine lv_aload_n hx hb dX7_copy_155 rfl (lv_at hl 0 rfl) ?_
                          refine gf_X7_2 X hG (nx_0 n_a) k_a fl_X7_16 dX7_copy_156 ?_
                          refine lv_iload_n hx hb dX7_copy_159 rfl (lv_at hl 1 rfl) ?_
                          refine g_iald X hG (nx_a (a := a) (k := 3) (n := 59) n_a (Nat.le_of_ble_eq_true rfl)) (kx_7_3 k_a) (by decide) i6 dX7_copy_160 ?_
                          refine lv_iload hx hb dX7_copy_161 (lv_at hl 5 rfl) ?_
                          refine lv_isub hx hb dX7_copy_163 ?_
                          refine lv_icmp_gt (tgt := 181) hx hb dX7_copy_164 (by decide) (fun q26 => ?_) (fun q26 => ?_)
                          · have h := ite_y h q26
                            refine lv_aload_n hx hb dX7_copy_181 rfl (lv_at hl 0 rfl) ?_
                            refine lv_bipush (v := (-2)) hx hb dX7_copy_182 (by decide) ?_
                            obtain ⟨r27, hcr27, h⟩ := bd_y h
                            refine g_cVI (a := a) (ci := 7) (T := TX7) (N := 37) (av := [.int (-2)]) (rest := []) X hG hS (ct_X7_refuse l z k_a n_a hcr27) mt_X7_refuse ml_X7_106 rfl ⟨rfl, rfl, Nat.le_of_ble_eq_true rfl, Nat.le_of_ble_eq_true rfl⟩ ⟨Nat.le_refl 0, Nat.le_refl 0⟩ (nx_0 n_a) k_a (by decide) rfl hl.1 (Nat.le_of_ble_eq_true rfl) rfl dX7_copy_184 (fun H locs hG hS => ?_)
                            obtain rfl := Option.some.inj h
                            exact g_iret X hr hlk hG hS dX7_copy_187
                          · have h := ite_n h q26
                            refine lv_iload hx hb dX7_copy_167 (lv_at hl 4 rfl) ?_
                            refine lv_aload_n hx hb dX7_copy_169 rfl (lv_at hl 0 rfl) ?_
                            refine gf_X7_2 X hG (nx_0 n_a) k_a fl_X7_16 dX7_copy_170 ?_
                            refine lv_iload_n hx hb dX7_copy_173 rfl (lv_at hl 2 rfl) ?_
                            refine g_iald X hG (nx_a (a := a) (k := 3) (n := 59) n_a (Nat.le_of_ble_eq_true rfl)) (kx_7_3 k_a) (by decide) i9 dX7_copy_174 ?_
                            refine lv_iload hx hb dX7_copy_175 (lv_at hl 5 rfl) ?_
                            refine lv_isub hx hb dX7_copy_177 ?_
                            refine lv_icmp_le (tgt := 188) hx hb dX7_copy_178 (by decide) (fun q28 => ?_) (fun q28 => ?_)
                            · have h := ite_y h q28
                              refine lv_iconst (v := 0) hx hb dX7_copy_188 (by decide) ?_
                              refine lv_istore (lv' := [(6, .int 0), (0, .ref (gad z a)), (1, .int v1), (2, .int v2), (3, .int v3), (4, .int v4), (5, .int v5)]) hx hb dX7_copy_189 hl (by decide) rfl (fun ls hl => ?_)
                              refine wX7_copy_191 X hr hlk k_a n_a _ _ _ _ _ _ h hG hS (lv_sub hl [1, 2, 3, 4, 5, 6, 0] rfl)
                            · have h := ite_n h q28
                              refine lv_aload_n hx hb dX7_copy_181 rfl (lv_at hl 0 rfl) ?_
                              refine lv_bipush (v := (-2)) hx hb dX7_copy_182 (by decide) ?_
                              obtain ⟨r29, hcr29, h⟩ := bd_y h
                              refine g_cVI (a := a) (ci := 7) (T := TX7) (N := 37) (av := [.int (-2)]) (rest := []) X hG hS (ct_X7_refuse l z k_a n_a hcr29) mt_X7_refuse ml_X7_106 rfl ⟨rfl, rfl, Nat.le_of_ble_eq_true rfl, Nat.le_of_ble_eq_true rfl⟩ ⟨Nat.le_refl 0, Nat.le_refl 0⟩ (nx_0 n_a) k_a (by decide) rfl hl.1 (Nat.le_of_ble_eq_true rfl) rfl dX7_copy_184 (fun H locs hG hS => ?_)
                              obtain rfl := Option.some.inj h
                              exact g_iret X hr hlk hG hS dX7_copy_187
              · have h := ite_y h q15
                refine lv_aload_n hx hb dX7_copy_111 rfl (lv_at hl 0 rfl) ?_
                refine lv_bipush (v := (-4)) hx hb dX7_copy_112 (by decide) ?_
                obtain ⟨r30, hcr30, h⟩ := bd_y h
                refine g_cVI (a := a) (ci := 7) (T := TX7) (N := 37) (av := [.int (-4)]) (rest := []) X hG hS (ct_X7_refuse l z k_a n_a hcr30) mt_X7_refuse ml_X7_106 rfl ⟨rfl, rfl, Nat.le_of_ble_eq_true rfl, Nat.le_of_ble_eq_true rfl⟩ ⟨Nat.le_refl 0, Nat.le_refl 0⟩ (nx_0 n_a) k_a (by decide) rfl hl.1 (Nat.le_of_ble_eq_true rfl) rfl dX7_copy_114 (fun H locs hG hS => ?_)
                obtain rfl := Option.some.inj h
                exact g_iret X hr hlk hG hS dX7_copy_117
          · have h := ite_y h q12
            refine lv_aload_n hx hb dX7_copy_61 rfl (lv_at hl 0 rfl) ?_
            refine gf_X7_0 X hG (nx_0 n_a) k_a fl_X7_7 dX7_copy_62 ?_
            refine lv_iload_n hx hb dX7_copy_65 rfl (lv_at hl 2 rfl) ?_
            refine g_iald X hG (nx_a (a := a) (k := 1) (n := 59) n_a (Nat.le_of_ble_eq_true rfl)) (kx_7_1 k_a) (by decide) i9 dX7_copy_66 ?_
            refine lv_iconst (v := 1) hx hb dX7_copy_67 (by decide) ?_
            refine lv_icmp_ne (tgt := 93) hx hb dX7_copy_68 (by decide) (fun q31 => ?_) (fun q31 => ?_)
            · have h := ite_n h q31
              refine lv_aload_n hx hb dX7_copy_93 rfl (lv_at hl 0 rfl) ?_
              refine gf_X7_0 X hG (nx_0 n_a) k_a fl_X7_7 dX7_copy_94 ?_
              refine lv_iload_n hx hb dX7_copy_97 rfl (lv_at hl 1 rfl) ?_
              refine g_iald X hG (nx_a (a := a) (k := 1) (n := 59) n_a (Nat.le_of_ble_eq_true rfl)) (kx_7_1 k_a) (by decide) i6 dX7_copy_98 ?_
              refine lv_if_eq (tgt := 111) hx hb dX7_copy_99 (by decide) (fun q32 => ?_) (fun q32 => ?_)
              · have h := ite_y h q32
                refine lv_aload_n hx hb dX7_copy_111 rfl (lv_at hl 0 rfl) ?_
                refine lv_bipush (v := (-4)) hx hb dX7_copy_112 (by decide) ?_
                obtain ⟨r33, hcr33, h⟩ := bd_y h
                refine g_cVI (a := a) (ci := 7) (T := TX7) (N := 37) (av := [.int (-4)]) (rest := []) X hG hS (ct_X7_refuse l z k_a n_a hcr33) mt_X7_refuse ml_X7_106 rfl ⟨rfl, rfl, Nat.le_of_ble_eq_true rfl, Nat.le_of_ble_eq_true rfl⟩ ⟨Nat.le_refl 0, Nat.le_refl 0⟩ (nx_0 n_a) k_a (by decide) rfl hl.1 (Nat.le_of_ble_eq_true rfl) rfl dX7_copy_114 (fun H locs hG hS => ?_)
                obtain rfl := Option.some.inj h
                exact g_iret X hr hlk hG hS dX7_copy_117
              · have h := ite_n h q32
                refine lv_aload_n hx hb dX7_copy_102 rfl (lv_at hl 0 rfl) ?_
                refine gf_X7_0 X hG (nx_0 n_a) k_a fl_X7_7 dX7_copy_103 ?_
                refine lv_iload_n hx hb dX7_copy_106 rfl (lv_at hl 2 rfl) ?_
                refine g_iald X hG (nx_a (a := a) (k := 1) (n := 59) n_a (Nat.le_of_ble_eq_true rfl)) (kx_7_1 k_a) (by decide) i9 dX7_copy_107 ?_
                refine lv_if_ne (tgt := 118) hx hb dX7_copy_108 (by decide) (fun q34 => ?_) (fun q34 => ?_)
                · have h := ite_n h q34
                  refine lv_iload hx hb dX7_copy_118 (lv_at hl 5 rfl) ?_
                  refine lv_if_lt (tgt := 181) hx hb dX7_copy_120 (by decide) (fun q35 => ?_) (fun q35 => ?_)
                  · have h := ite_y h q35
                    refine lv_aload_n hx hb dX7_copy_181 rfl (lv_at hl 0 rfl) ?_
                    refine lv_bipush (v := (-2)) hx hb dX7_copy_182 (by decide) ?_
                    obtain ⟨r36, hcr36, h⟩ := bd_y h
                    refine g_cVI (a := a) (ci := 7) (T := TX7) (N := 37) (av := [.int (-2)]) (rest := []) X hG hS (ct_X7_refuse l z k_a n_a hcr36) mt_X7_refuse ml_X7_106 rfl ⟨rfl, rfl, Nat.le_of_ble_eq_true rfl, Nat.le_of_ble_eq_true rfl⟩ ⟨Nat.le_refl 0, Nat.le_refl 0⟩ (nx_0 n_a) k_a (by decide) rfl hl.1 (Nat.le_of_ble_eq_true rfl) rfl dX7_copy_184 (fun H locs hG hS => ?_)
                    obtain rfl := Option.some.inj h
                    exact g_iret X hr hlk hG hS dX7_copy_187
                  · have h := ite_n h q35
                    refine lv_iload_n hx hb dX7_copy_123 rfl (lv_at hl 3 rfl) ?_
                    refine lv_if_lt (tgt := 181) hx hb dX7_copy_124 (by decide) (fun q37 => ?_) (fun q37 => ?_)
                    · have h := ite_y h q37
                      refine lv_aload_n hx hb dX7_copy_181 rfl (lv_at hl 0 rfl) ?_
                      refine lv_bipush (v := (-2)) hx hb dX7_copy_182 (by decide) ?_
                      obtain ⟨r38, hcr38, h⟩ := bd_y h
                      refine g_cVI (a := a) (ci := 7) (T := TX7) (N := 37) (av := [.int (-2)]) (rest := []) X hG hS (ct_X7_refuse l z k_a n_a hcr38) mt_X7_refuse ml_X7_106 rfl ⟨rfl, rfl, Nat.le_of_ble_eq_true rfl, Nat.le_of_ble_eq_true rfl⟩ ⟨Nat.le_refl 0, Nat.le_refl 0⟩ (nx_0 n_a) k_a (by decide) rfl hl.1 (Nat.le_of_ble_eq_true rfl) rfl dX7_copy_184 (fun H locs hG hS => ?_)
                      obtain rfl := Option.some.inj h
                      exact g_iret X hr hlk hG hS dX7_copy_187
                    · have h := ite_n h q37
                      refine lv_iload hx hb dX7_copy_127 (lv_at hl 4 rfl) ?_
                      refine lv_if_lt (tgt := 181) hx hb dX7_copy_129 (by decide) (fun q39 => ?_) (fun q39 => ?_)
                      · have h := ite_y h q39
                        refine lv_aload_n hx hb dX7_copy_181 rfl (lv_at hl 0 rfl) ?_
                        refine lv_bipush (v := (-2)) hx hb dX7_copy_182 (by decide) ?_
                        obtain ⟨r40, hcr40, h⟩ := bd_y h
                        refine g_cVI (a := a) (ci := 7) (T := TX7) (N := 37) (av := [.int (-2)]) (rest := []) X hG hS (ct_X7_refuse l z k_a n_a hcr40) mt_X7_refuse ml_X7_106 rfl ⟨rfl, rfl, Nat.le_of_ble_eq_true rfl, Nat.le_of_ble_eq_true rfl⟩ ⟨Nat.le_refl 0, Nat.le_refl 0⟩ (nx_0 n_a) k_a (by decide) rfl hl.1 (Nat.le_of_ble_eq_true rfl) rfl dX7_copy_184 (fun H locs hG hS => ?_)
                        obtain rfl := Option.some.inj h
                        exact g_iret X hr hlk hG hS dX7_copy_187
                      · have h := ite_n h q39
                        refine lv_iload hx hb dX7_copy_132 (lv_at hl 5 rfl) ?_
                        refine lv_aload_n hx hb dX7_copy_134 rfl (lv_at hl 0 rfl) ?_
                        refine gf_X7_2 X hG (nx_0 n_a) k_a fl_X7_16 dX7_copy_135 ?_
                        refine lv_iload_n hx hb dX7_copy_138 rfl (lv_at hl 1 rfl) ?_
                        refine g_iald X hG (nx_a (a := a) (k := 3) (n := 59) n_a (Nat.le_of_ble_eq_true rfl)) (kx_7_3 k_a) (by decide) i6 dX7_copy_139 ?_
                        refine lv_icmp_gt (tgt := 181) hx hb dX7_copy_140 (by decide) (fun q41 => ?_) (fun q41 => ?_)
                        · have h := ite_y h q41
                          refine lv_aload_n hx hb dX7_copy_181 rfl (lv_at hl 0 rfl) ?_
                          refine lv_bipush (v := (-2)) hx hb dX7_copy_182 (by decide) ?_
                          obtain ⟨r42, hcr42, h⟩ := bd_y h
                          refine g_cVI (a := a) (ci := 7) (T := TX7) (N := 37) (av := [.int (-2)]) (rest := []) X hG hS (ct_X7_refuse l z k_a n_a hcr42) mt_X7_refuse ml_X7_106 rfl ⟨rfl, rfl, Nat.le_of_ble_eq_true rfl, Nat.le_of_ble_eq_true rfl⟩ ⟨Nat.le_refl 0, Nat.le_refl 0⟩ (nx_0 n_a) k_a (by decide) rfl hl.1 (Nat.le_of_ble_eq_true rfl) rfl dX7_copy_184 (fun H locs hG hS => ?_)
                          obtain rfl := Option.some.inj h
                          exact g_iret X hr hlk hG hS dX7_copy_187
                        · have h := ite_n h q41
                          refine lv_iload hx hb dX7_copy_143 (lv_at hl 5 rfl) ?_
                          refine lv_aload_n hx hb dX7_copy_145 rfl (lv_at hl 0 rfl) ?_
                          refine gf_X7_2 X hG (nx_0 n_a) k_a fl_X7_16 dX7_copy_146 ?_
                          refine lv_iload_n hx hb dX7_copy_149 rfl (lv_at hl 2 rfl) ?_
                          refine g_iald X hG (nx_a (a := a) (k := 3) (n := 59) n_a (Nat.le_of_ble_eq_true rfl)) (kx_7_3 k_a) (by decide) i9 dX7_copy_150 ?_
                          refine lv_icmp_gt (tgt := 181) hx hb dX7_copy_151 (by decide) (fun q43 => ?_) (fun q43 => ?_)
                          · have h := ite_y h q43
                            refine lv_aload_n hx hb dX7_copy_181 rfl (lv_at hl 0 rfl) ?_
                            refine lv_bipush (v := (-2)) hx hb dX7_copy_182 (by decide) ?_
                            obtain ⟨r44, hcr44, h⟩ := bd_y h
                            refine g_cVI (a := a) (ci := 7) (T := TX7) (N := 37) (av := [.int (-2)]) (rest := []) X hG hS (ct_X7_refuse l z k_a n_a hcr44) mt_X7_refuse ml_X7_106 rfl ⟨rfl, rfl, Nat.le_of_ble_eq_true rfl, Nat.le_of_ble_eq_true rfl⟩ ⟨Nat.le_refl 0, Nat.le_refl 0⟩ (nx_0 n_a) k_a (by decide) rfl hl.1 (Nat.le_of_ble_eq_true rfl) rfl dX7_copy_184 (fun H locs hG hS => ?_)
                            obtain rfl := Option.some.inj h
                            exact g_iret X hr hlk hG hS dX7_copy_187
                          · have h := ite_n h q43
                            refine lv_iload_n hx hb dX7_copy_154 rfl (lv_at hl 3 rfl) ?_
                            refine lv_aload_n hx hb dX7_copy_155 rfl (lv_at hl 0 rfl) ?_
                            refine gf_X7_2 X hG (nx_0 n_a) k_a fl_X7_16 dX7_copy_156 ?_
                            refine lv_iload_n hx hb dX7_copy_159 rfl (lv_at hl 1 rfl) ?_
                            refine g_iald X hG (nx_a (a := a) (k := 3) (n := 59) n_a (Nat.le_of_ble_eq_true rfl)) (kx_7_3 k_a) (by decide) i6 dX7_copy_160 ?_
                            refine lv_iload hx hb dX7_copy_161 (lv_at hl 5 rfl) ?_
                            refine lv_isub hx hb dX7_copy_163 ?_
                            refine lv_icmp_gt (tgt := 181) hx hb dX7_copy_164 (by decide) (fun q45 => ?_) (fun q45 => ?_)
                            · have h := ite_y h q45
                              refine lv_aload_n hx hb dX7_copy_181 rfl (lv_at hl 0 rfl) ?_
                              refine lv_bipush (v := (-2)) hx hb dX7_copy_182 (by decide) ?_
                              obtain ⟨r46, hcr46, h⟩ := bd_y h
                              refine g_cVI (a := a) (ci := 7) (T := TX7) (N := 37) (av := [.int (-2)]) (rest := []) X hG hS (ct_X7_refuse l z k_a n_a hcr46) mt_X7_refuse ml_X7_106 rfl ⟨rfl, rfl, Nat.le_of_ble_eq_true rfl, Nat.le_of_ble_eq_true rfl⟩ ⟨Nat.le_refl 0, Nat.le_refl 0⟩ (nx_0 n_a) k_a (by decide) rfl hl.1 (Nat.le_of_ble_eq_true rfl) rfl dX7_copy_184 (fun H locs hG hS => ?_)
                              obtain rfl := Option.some.inj h
                              exact g_iret X hr hlk hG hS dX7_copy_187
                            · have h := ite_n h q45
                              refine lv_iload hx hb dX7_copy_167 (lv_at hl 4 rfl) ?_
                              refine lv_aload_n hx hb dX7_copy_169 rfl (lv_at hl 0 rfl) ?_
                              refine gf_X7_2 X hG (nx_0 n_a) k_a fl_X7_16 dX7_copy_170 ?_
                              refine lv_iload_n hx hb dX7_copy_173 rfl (lv_at hl 2 rfl) ?_
                              refine g_iald X hG (nx_a (a := a) (k := 3) (n := 59) n_a (Nat.le_of_ble_eq_true rfl)) (kx_7_3 k_a) (by decide) i9 dX7_copy_174 ?_
                              refine lv_iload hx hb dX7_copy_175 (lv_at hl 5 rfl) ?_
                              refine lv_isub hx hb dX7_copy_177 ?_
                              refine lv_icmp_le (tgt := 188) hx hb dX7_copy_178 (by decide) (fun q47 => ?_) (fun q47 => ?_)
                              · have h := ite_y h q47
                                refine lv_iconst (v := 0) hx hb dX7_copy_188 (by decide) ?_
                                refine lv_istore (lv' := [(6, .int 0), (0, .ref (gad z a)), (1, .int v1), (2, .int v2), (3, .int v3), (4, .int v4), (5, .int v5)]) hx hb dX7_copy_189 hl (by decide) rfl (fun ls hl => ?_)
                                refine wX7_copy_191 X hr hlk k_a n_a _ _ _ _ _ _ h hG hS (lv_sub hl [1, 2, 3, 4, 5, 6, 0] rfl)
                              · have h := ite_n h q47
                                refine lv_aload_n hx hb dX7_copy_181 rfl (lv_at hl 0 rfl) ?_
                                refine lv_bipush (v := (-2)) hx hb dX7_copy_182 (by decide) ?_
                                obtain ⟨r48, hcr48, h⟩ := bd_y h
                                refine g_cVI (a := a) (ci := 7) (T := TX7) (N := 37) (av := [.int (-2)]) (rest := []) X hG hS (ct_X7_refuse l z k_a n_a hcr48) mt_X7_refuse ml_X7_106 rfl ⟨rfl, rfl, Nat.le_of_ble_eq_true rfl, Nat.le_of_ble_eq_true rfl⟩ ⟨Nat.le_refl 0, Nat.le_refl 0⟩ (nx_0 n_a) k_a (by decide) rfl hl.1 (Nat.le_of_ble_eq_true rfl) rfl dX7_copy_184 (fun H locs hG hS => ?_)
                                obtain rfl := Option.some.inj h
                                exact g_iret X hr hlk hG hS dX7_copy_187
                · have h := ite_y h q34
                  refine lv_aload_n hx hb dX7_copy_111 rfl (lv_at hl 0 rfl) ?_
                  refine lv_bipush (v := (-4)) hx hb dX7_copy_112 (by decide) ?_
                  obtain ⟨r49, hcr49, h⟩ := bd_y h
                  refine g_cVI (a := a) (ci := 7) (T := TX7) (N := 37) (av := [.int (-4)]) (rest := []) X hG hS (ct_X7_refuse l z k_a n_a hcr49) mt_X7_refuse ml_X7_106 rfl ⟨rfl, rfl, Nat.le_of_ble_eq_true rfl, Nat.le_of_ble_eq_true rfl⟩ ⟨Nat.le_refl 0, Nat.le_refl 0⟩ (nx_0 n_a) k_a (by decide) rfl hl.1 (Nat.le_of_ble_eq_true rfl) rfl dX7_copy_114 (fun H locs hG hS => ?_)
                  obtain rfl := Option.some.inj h
                  exact g_iret X hr hlk hG hS dX7_copy_117
            · have h := ite_y h q31
              refine lv_aload_n hx hb dX7_copy_71 rfl (lv_at hl 0 rfl) ?_
              refine gf_X7_1 X hG (nx_0 n_a) k_a fl_X7_13 dX7_copy_72 ?_
              refine lv_iload_n hx hb dX7_copy_75 rfl (lv_at hl 1 rfl) ?_
              refine g_iald X hG (nx_a (a := a) (k := 2) (n := 59) n_a (Nat.le_of_ble_eq_true rfl)) (kx_7_2 k_a) (by decide) i6 dX7_copy_76 ?_
              refine lv_aload_n hx hb dX7_copy_77 rfl (lv_at hl 0 rfl) ?_
              refine gf_X7_1 X hG (nx_0 n_a) k_a fl_X7_13 dX7_copy_78 ?_
              refine lv_iload_n hx hb dX7_copy_81 rfl (lv_at hl 2 rfl) ?_
              refine g_iald X hG (nx_a (a := a) (k := 2) (n := 59) n_a (Nat.le_of_ble_eq_true rfl)) (kx_7_2 k_a) (by decide) i9 dX7_copy_82 ?_
              refine lv_icmp_eq (tgt := 93) hx hb dX7_copy_83 (by decide) (fun q50 => ?_) (fun q50 => ?_)
              · have h := ite_y h q50
                refine lv_aload_n hx hb dX7_copy_93 rfl (lv_at hl 0 rfl) ?_
                refine gf_X7_0 X hG (nx_0 n_a) k_a fl_X7_7 dX7_copy_94 ?_
                refine lv_iload_n hx hb dX7_copy_97 rfl (lv_at hl 1 rfl) ?_
                refine g_iald X hG (nx_a (a := a) (k := 1) (n := 59) n_a (Nat.le_of_ble_eq_true rfl)) (kx_7_1 k_a) (by decide) i6 dX7_copy_98 ?_
                refine lv_if_eq (tgt := 111) hx hb dX7_copy_99 (by decide) (fun q51 => ?_) (fun q51 => ?_)
                · have h := ite_y h q51
                  refine lv_aload_n hx hb dX7_copy_111 rfl (lv_at hl 0 rfl) ?_
                  refine lv_bipush (v := (-4)) hx hb dX7_copy_112 (by decide) ?_
                  obtain ⟨r52, hcr52, h⟩ := bd_y h
                  refine g_cVI (a := a) (ci := 7) (T := TX7) (N := 37) (av := [.int (-4)]) (rest := []) X hG hS (ct_X7_refuse l z k_a n_a hcr52) mt_X7_refuse ml_X7_106 rfl ⟨rfl, rfl, Nat.le_of_ble_eq_true rfl, Nat.le_of_ble_eq_true rfl⟩ ⟨Nat.le_refl 0, Nat.le_refl 0⟩ (nx_0 n_a) k_a (by decide) rfl hl.1 (Nat.le_of_ble_eq_true rfl) rfl dX7_copy_114 (fun H locs hG hS => ?_)
                  obtain rfl := Option.some.inj h
                  exact g_iret X hr hlk hG hS dX7_copy_117
                · have h := ite_n h q51
                  refine lv_aload_n hx hb dX7_copy_102 rfl (lv_at hl 0 rfl) ?_
                  refine gf_X7_0 X hG (nx_0 n_a) k_a fl_X7_7 dX7_copy_103 ?_
                  refine lv_iload_n hx hb dX7_copy_106 rfl (lv_at hl 2 rfl) ?_
                  refine g_iald X hG (nx_a (a := a) (k := 1) (n := 59) n_a (Nat.le_of_ble_eq_true rfl)) (kx_7_1 k_a) (by decide) i9 dX7_copy_107 ?_
                  refine lv_if_ne (tgt := 118) hx hb dX7_copy_108 (by decide) (fun q53 => ?_) (fun q53 => ?_)
                  · have h := ite_n h q53
                    refine lv_iload hx hb dX7_copy_118 (lv_at hl 5 rfl) ?_
                    refine lv_if_lt (tgt := 181) hx hb dX7_copy_120 (by decide) (fun q54 => ?_) (fun q54 => ?_)
                    · have h := ite_y h q54
                      refine lv_aload_n hx hb dX7_copy_181 rfl (lv_at hl 0 rfl) ?_
                      refine lv_bipush (v := (-2)) hx hb dX7_copy_182 (by decide) ?_
                      obtain ⟨r55, hcr55, h⟩ := bd_y h
                      refine g_cVI (a := a) (ci := 7) (T := TX7) (N := 37) (av := [.int (-2)]) (rest := []) X hG hS (ct_X7_refuse l z k_a n_a hcr55) mt_X7_refuse ml_X7_106 rfl ⟨rfl, rfl, Nat.le_of_ble_eq_true rfl, Nat.le_of_ble_eq_true rfl⟩ ⟨Nat.le_refl 0, Nat.le_refl 0⟩ (nx_0 n_a) k_a (by decide) rfl hl.1 (Nat.le_of_ble_eq_true rfl) rfl dX7_copy_184 (fun H locs hG hS => ?_)
                      obtain rfl := Option.some.inj h
                      exact g_iret X hr hlk hG hS dX7_copy_187
                    · have h := ite_n h q54
                      refine lv_iload_n hx hb dX7_copy_123 rfl (lv_at hl 3 rfl) ?_
                      refine lv_if_lt (tgt := 181) hx hb dX7_copy_124 (by decide) (fun q56 => ?_) (fun q56 => ?_)
                      · have h := ite_y h q56
                        refine lv_aload_n hx hb dX7_copy_181 rfl (lv_at hl 0 rfl) ?_
                        refine lv_bipush (v := (-2)) hx hb dX7_copy_182 (by decide) ?_
                        obtain ⟨r57, hcr57, h⟩ := bd_y h
                        refine g_cVI (a := a) (ci := 7) (T := TX7) (N := 37) (av := [.int (-2)]) (rest := []) X hG hS (ct_X7_refuse l z k_a n_a hcr57) mt_X7_refuse ml_X7_106 rfl ⟨rfl, rfl, Nat.le_of_ble_eq_true rfl, Nat.le_of_ble_eq_true rfl⟩ ⟨Nat.le_refl 0, Nat.le_refl 0⟩ (nx_0 n_a) k_a (by decide) rfl hl.1 (Nat.le_of_ble_eq_true rfl) rfl dX7_copy_184 (fun H locs hG hS => ?_)
                        obtain rfl := Option.some.inj h
                        exact g_iret X hr hlk hG hS dX7_copy_187
                      · have h := ite_n h q56
                        refine lv_iload hx hb dX7_copy_127 (lv_at hl 4 rfl) ?_
                        refine lv_if_lt (tgt := 181) hx hb dX7_copy_129 (by decide) (fun q58 => ?_) (fun q58 => ?_)
                        · have h := ite_y h q58
                          refine lv_aload_n hx hb dX7_copy_181 rfl (lv_at hl 0 rfl) ?_
                          refine lv_bipush (v := (-2)) hx hb dX7_copy_182 (by decide) ?_
                          obtain ⟨r59, hcr59, h⟩ := bd_y h
                          refine g_cVI (a := a) (ci := 7) (T := TX7) (N := 37) (av := [.int (-2)]) (rest := []) X hG hS (ct_X7_refuse l z k_a n_a hcr59) mt_X7_refuse ml_X7_106 rfl ⟨rfl, rfl, Nat.le_of_ble_eq_true rfl, Nat.le_of_ble_eq_true rfl⟩ ⟨Nat.le_refl 0, Nat.le_refl 0⟩ (nx_0 n_a) k_a (by decide) rfl hl.1 (Nat.le_of_ble_eq_true rfl) rfl dX7_copy_184 (fun H locs hG hS => ?_)
                          obtain rfl := Option.some.inj h
                          exact g_iret X hr hlk hG hS dX7_copy_187
                        · have h := ite_n h q58
                          refine lv_iload hx hb dX7_copy_132 (lv_at hl 5 rfl) ?_
                          refine lv_aload_n hx hb dX7_copy_134 rfl (lv_at hl 0 rfl) ?_
                          refine gf_X7_2 X hG (nx_0 n_a) k_a fl_X7_16 dX7_copy_135 ?_
                          refine lv_iload_n hx hb dX7_copy_138 rfl (lv_at hl 1 rfl) ?_
                          refine g_iald X hG (nx_a (a := a) (k := 3) (n := 59) n_a (Nat.le_of_ble_eq_true rfl)) (kx_7_3 k_a) (by decide) i6 dX7_copy_139 ?_
                          refine lv_icmp_gt (tgt := 181) hx hb dX7_copy_140 (by decide) (fun q60 => ?_) (fun q60 => ?_)
                          · have h := ite_y h q60
                            refine lv_aload_n hx hb dX7_copy_181 rfl (lv_at hl 0 rfl) ?_
                            refine lv_bipush (v := (-2)) hx hb dX7_copy_182 (by decide) ?_
                            obtain ⟨r61, hcr61, h⟩ := bd_y h
                            refine g_cVI (a := a) (ci := 7) (T := TX7) (N := 37) (av := [.int (-2)]) (rest := []) X hG hS (ct_X7_refuse l z k_a n_a hcr61) mt_X7_refuse ml_X7_106 rfl ⟨rfl, rfl, Nat.le_of_ble_eq_true rfl, Nat.le_of_ble_eq_true rfl⟩ ⟨Nat.le_refl 0, Nat.le_refl 0⟩ (nx_0 n_a) k_a (by decide) rfl hl.1 (Nat.le_of_ble_eq_true rfl) rfl dX7_copy_184 (fun H locs hG hS => ?_)
                            obtain rfl := Option.some.inj h
                            exact g_iret X hr hlk hG hS dX7_copy_187
                          · have h := ite_n h q60
                            refine lv_iload hx hb dX7_copy_143 (lv_at hl 5 rfl) ?_
                            refine lv_aload_n hx hb dX7_copy_145 rfl (lv_at hl 0 rfl) ?_
                            refine gf_X7_2 X hG (nx_0 n_a) k_a fl_X7_16 dX7_copy_146 ?_
                            refine lv_iload_n hx hb dX7_copy_149 rfl (lv_at hl 2 rfl) ?_
                            refine g_iald X hG (nx_a (a := a) (k := 3) (n := 59) n_a (Nat.le_of_ble_eq_true rfl)) (kx_7_3 k_a) (by decide) i9 dX7_copy_150 ?_
                            refine lv_icmp_gt (tgt := 181) hx hb dX7_copy_151 (by decide) (fun q62 => ?_) (fun q62 => ?_)
                            · have h := ite_y h q62
                              refine lv_aload_n hx hb dX7_copy_181 rfl (lv_at hl 0 rfl) ?_
                              refine lv_bipush (v := (-2)) hx hb dX7_copy_182 (by decide) ?_
                              obtain ⟨r63, hcr63, h⟩ := bd_y h
                              refine g_cVI (a := a) (ci := 7) (T := TX7) (N := 37) (av := [.int (-2)]) (rest := []) X hG hS (ct_X7_refuse l z k_a n_a hcr63) mt_X7_refuse ml_X7_106 rfl ⟨rfl, rfl, Nat.le_of_ble_eq_true rfl, Nat.le_of_ble_eq_true rfl⟩ ⟨Nat.le_refl 0, Nat.le_refl 0⟩ (nx_0 n_a) k_a (by decide) rfl hl.1 (Nat.le_of_ble_eq_true rfl) rfl dX7_copy_184 (fun H locs hG hS => ?_)
                              obtain rfl := Option.some.inj h
                              exact g_iret X hr hlk hG hS dX7_copy_187
                            · have h := ite_n h q62
                              refine lv_iload_n hx hb dX7_copy_154 rfl (lv_at hl 3 rfl) ?_
                              refine lv_aload_n hx hb dX7_copy_155 rfl (lv_at hl 0 rfl) ?_
                              refine gf_X7_2 X hG (nx_0 n_a) k_a fl_X7_16 dX7_copy_156 ?_
                              refine lv_iload_n hx hb dX7_copy_159 rfl (lv_at hl 1 rfl) ?_
                              refine g_iald X hG (nx_a (a := a) (k := 3) (n := 59) n_a (Nat.le_of_ble_eq_true rfl)) (kx_7_3 k_a) (by decide) i6 dX7_copy_160 ?_
                              refine lv_iload hx hb dX7_copy_161 (lv_at hl 5 rfl) ?_
                              refine lv_isub hx hb dX7_copy_163 ?_
                              refine lv_icmp_gt (tgt := 181) hx hb dX7_copy_164 (by decide) (fun q64 => ?_) (fun q64 => ?_)
                              · have h := ite_y h q64
                                refine lv_aload_n hx hb dX7_copy_181 rfl (lv_at hl 0 rfl) ?_
                                refine lv_bipush (v := (-2)) hx hb dX7_copy_182 (by decide) ?_
                                obtain ⟨r65, hcr65, h⟩ := bd_y h
                                refine g_cVI (a := a) (ci := 7) (T := TX7) (N := 37) (av := [.int (-2)]) (rest := []) X hG hS (ct_X7_refuse l z k_a n_a hcr65) mt_X7_refuse ml_X7_106 rfl ⟨rfl, rfl, Nat.le_of_ble_eq_true rfl, Nat.le_of_ble_eq_true rfl⟩ ⟨Nat.le_refl 0, Nat.le_refl 0⟩ (nx_0 n_a) k_a (by decide) rfl hl.1 (Nat.le_of_ble_eq_true rfl) rfl dX7_copy_184 (fun H locs hG hS => ?_)
                                obtain rfl := Option.some.inj h
                                exact g_iret X hr hlk hG hS dX7_copy_187
                              · have h := ite_n h q64
                                refine lv_iload hx hb dX7_copy_167 (lv_at hl 4 rfl) ?_
                                refine lv_aload_n hx hb dX7_copy_169 rfl (lv_at hl 0 rfl) ?_
                                refine gf_X7_2 X hG (nx_0 n_a) k_a fl_X7_16 dX7_copy_170 ?_
                                refine lv_iload_n hx hb dX7_copy_173 rfl (lv_at hl 2 rfl) ?_
                                refine g_iald X hG (nx_a (a := a) (k := 3) (n := 59) n_a (Nat.le_of_ble_eq_true rfl)) (kx_7_3 k_a) (by decide) i9 dX7_copy_174 ?_
                                refine lv_iload hx hb dX7_copy_175 (lv_at hl 5 rfl) ?_
                                refine lv_isub hx hb dX7_copy_177 ?_
                                refine lv_icmp_le (tgt := 188) hx hb dX7_copy_178 (by decide) (fun q66 => ?_) (fun q66 => ?_)
                                · have h := ite_y h q66
                                  refine lv_iconst (v := 0) hx hb dX7_copy_188 (by decide) ?_
                                  refine lv_istore (lv' := [(6, .int 0), (0, .ref (gad z a)), (1, .int v1), (2, .int v2), (3, .int v3), (4, .int v4), (5, .int v5)]) hx hb dX7_copy_189 hl (by decide) rfl (fun ls hl => ?_)
                                  refine wX7_copy_191 X hr hlk k_a n_a _ _ _ _ _ _ h hG hS (lv_sub hl [1, 2, 3, 4, 5, 6, 0] rfl)
                                · have h := ite_n h q66
                                  refine lv_aload_n hx hb dX7_copy_181 rfl (lv_at hl 0 rfl) ?_
                                  refine lv_bipush (v := (-2)) hx hb dX7_copy_182 (by decide) ?_
                                  obtain ⟨r67, hcr67, h⟩ := bd_y h
                                  refine g_cVI (a := a) (ci := 7) (T := TX7) (N := 37) (av := [.int (-2)]) (rest := []) X hG hS (ct_X7_refuse l z k_a n_a hcr67) mt_X7_refuse ml_X7_106 rfl ⟨rfl, rfl, Nat.le_of_ble_eq_true rfl, Nat.le_of_ble_eq_true rfl⟩ ⟨Nat.le_refl 0, Nat.le_refl 0⟩ (nx_0 n_a) k_a (by decide) rfl hl.1 (Nat.le_of_ble_eq_true rfl) rfl dX7_copy_184 (fun H locs hG hS => ?_)
                                  obtain rfl := Option.some.inj h
                                  exact g_iret X hr hlk hG hS dX7_copy_187
                  · have h := ite_y h q53
                    refine lv_aload_n hx hb dX7_copy_111 rfl (lv_at hl 0 rfl) ?_
                    refine lv_bipush (v := (-4)) hx hb dX7_copy_112 (by decide) ?_
                    obtain ⟨r68, hcr68, h⟩ := bd_y h
                    refine g_cVI (a := a) (ci := 7) (T := TX7) (N := 37) (av := [.int (-4)]) (rest := []) X hG hS (ct_X7_refuse l z k_a n_a hcr68) mt_X7_refuse ml_X7_106 rfl ⟨rfl, rfl, Nat.le_of_ble_eq_true rfl, Nat.le_of_ble_eq_true rfl⟩ ⟨Nat.le_refl 0, Nat.le_refl 0⟩ (nx_0 n_a) k_a (by decide) rfl hl.1 (Nat.le_of_ble_eq_true rfl) rfl dX7_copy_114 (fun H locs hG hS => ?_)
                    obtain rfl := Option.some.inj h
                    exact g_iret X hr hlk hG hS dX7_copy_117
              · have h := ite_n h q50
                refine lv_aload_n hx hb dX7_copy_86 rfl (lv_at hl 0 rfl) ?_
                refine lv_bipush (v := (-3)) hx hb dX7_copy_87 (by decide) ?_
                obtain ⟨r69, hcr69, h⟩ := bd_y h
                refine g_cVI (a := a) (ci := 7) (T := TX7) (N := 37) (av := [.int (-3)]) (rest := []) X hG hS (ct_X7_refuse l z k_a n_a hcr69) mt_X7_refuse ml_X7_106 rfl ⟨rfl, rfl, Nat.le_of_ble_eq_true rfl, Nat.le_of_ble_eq_true rfl⟩ ⟨Nat.le_refl 0, Nat.le_refl 0⟩ (nx_0 n_a) k_a (by decide) rfl hl.1 (Nat.le_of_ble_eq_true rfl) rfl dX7_copy_89 (fun H locs hG hS => ?_)
                obtain rfl := Option.some.inj h
                exact g_iret X hr hlk hG hS dX7_copy_92
    · have h := ite_y h q5
      refine lv_aload_n hx hb dX7_copy_24 rfl (lv_at hl 0 rfl) ?_
      refine lv_bipush (v := (-2)) hx hb dX7_copy_25 (by decide) ?_
      obtain ⟨r70, hcr70, h⟩ := bd_y h
      refine g_cVI (a := a) (ci := 7) (T := TX7) (N := 37) (av := [.int (-2)]) (rest := []) X hG hS (ct_X7_refuse l z k_a n_a hcr70) mt_X7_refuse ml_X7_106 rfl ⟨rfl, rfl, Nat.le_of_ble_eq_true rfl, Nat.le_of_ble_eq_true rfl⟩ ⟨Nat.le_refl 0, Nat.le_refl 0⟩ (nx_0 n_a) k_a (by decide) rfl hl.1 (Nat.le_of_ble_eq_true rfl) rfl dX7_copy_27 (fun H locs hG hS => ?_)
      obtain rfl := Option.some.inj h
      exact g_iret X hr hlk hG hS dX7_copy_30
set_option maxRecDepth 100000 in
set_option maxHeartbeats 4000000 in
theorem ct_X7_element (l : Launch) (z : gZ) {N : Nat} {M : Mem} {a : Nat} {v1 : Int32} {v2 : Int32} {o : Int64} (k_a : kd a = 7) (n_a : a + 59 ≤ gn z) (h : fX7_element N M a v1 v2 = some o) : CtL l z yX7_element cX7_element 3 (some .long) { frames := 1, cells := 0, slots := 0, locals := 25 } [.ref (gad z a), .int v1, .int v2] M o M := by
  refine Ct_of rfl (Nat.le_of_ble_eq_true rfl) ?_
  intro p e s m below meth c ls X hr hlk hG hS hl
  have X : gX p m c _ _ s _ RX7 z := X
  have hl : lv_has ls 3 [(0, .ref (gad z a)), (1, .int v1), (2, .int v2)] := hl
  have hx := X.1
  have hb := X.2.1
  unfold fX7_element at h
  refine lv_iload_n hx hb dX7_element_0 rfl (lv_at hl 1 rfl) ?_
  refine lv_i2l hx hb dX7_element_1 rfl ?_
  refine lv_lconst (v := 0) hx hb dX7_element_2 (by decide) ?_
  refine lv_ldc2 (v := 7) hx hb X.2.2.2.1 (X.2.2.2.2.1 _ cn_X7_100) dX7_element_3 ?_
  obtain ⟨r1, hcr1, h⟩ := bd_y h
  refine g_cSI (av := [.long ((v1 : Int32).toInt64), .long 0, .long 7]) (rest := []) X hG hS (ct_X7_in l z  hcr1) mt_X7_in ml_X7_88 rfl ⟨rfl, rfl, Nat.le_of_ble_eq_true rfl, Nat.le_of_ble_eq_true rfl⟩ ⟨Nat.le_refl 0, Nat.le_refl 0⟩ hl.1 (Nat.le_of_ble_eq_true rfl) rfl dX7_element_6 (fun H locs hG hS => ?_)
  refine lv_if_eq (tgt := 51) hx hb dX7_element_9 (by decide) (fun q2 => ?_) (fun q2 => ?_)
  · have h := ite_y h q2
    refine lv_lconst (v := 0) hx hb dX7_element_51 (by decide) ?_
    obtain rfl := Option.some.inj h
    exact g_lret X hr hlk hG hS dX7_element_52
  · have h := ite_n h q2
    refine lv_aload_n hx hb dX7_element_12 rfl (lv_at hl 0 rfl) ?_
    refine gf_X7_0 X hG (nx_0 n_a) k_a fl_X7_7 dX7_element_13 ?_
    refine lv_iload_n hx hb dX7_element_16 rfl (lv_at hl 1 rfl) ?_
    obtain ⟨i3, h⟩ := gd_y h
    refine g_iald X hG (nx_a (a := a) (k := 1) (n := 59) n_a (Nat.le_of_ble_eq_true rfl)) (kx_7_1 k_a) (by decide) i3 dX7_element_17 ?_
    refine lv_iconst (v := 1) hx hb dX7_element_18 (by decide) ?_
    refine lv_icmp_ne (tgt := 51) hx hb dX7_element_19 (by decide) (fun q4 => ?_) (fun q4 => ?_)
    · have h := ite_n h q4
      refine lv_lconst (v := 0) hx hb dX7_element_51 (by decide) ?_
      obtain rfl := Option.some.inj h
      exact g_lret X hr hlk hG hS dX7_element_52
    · have h := ite_y h q4
      refine lv_iload_n hx hb dX7_element_22 rfl (lv_at hl 2 rfl) ?_
      refine lv_i2l hx hb dX7_element_23 rfl ?_
      refine lv_lconst (v := 0) hx hb dX7_element_24 (by decide) ?_
      refine lv_aload_n hx hb dX7_element_25 rfl (lv_at hl 0 rfl) ?_
      refine gf_X7_2 X hG (nx_0 n_a) k_a fl_X7_16 dX7_element_26 ?_
      refine lv_iload_n hx hb dX7_element_29 rfl (lv_at hl 1 rfl) ?_
      refine g_iald X hG (nx_a (a := a) (k := 3) (n := 59) n_a (Nat.le_of_ble_eq_true rfl)) (kx_7_3 k_a) (by decide) i3 dX7_element_30 ?_
      refine lv_iconst (v := 1) hx hb dX7_element_31 (by decide) ?_
      refine lv_isub hx hb dX7_element_32 ?_
      refine lv_i2l hx hb dX7_element_33 rfl ?_
      obtain ⟨r5, hcr5, h⟩ := bd_y h
      refine g_cSI (av := [.long ((v2 : Int32).toInt64), .long 0, .long ((((M.1 (a + 3) (v1 : Int32).toNatClampNeg) - 1) : Int32).toInt64)]) (rest := []) X hG hS (ct_X7_in l z  hcr5) mt_X7_in ml_X7_88 rfl ⟨rfl, rfl, Nat.le_of_ble_eq_true rfl, Nat.le_of_ble_eq_true rfl⟩ ⟨Nat.le_refl 0, Nat.le_refl 0⟩ hl.1 (Nat.le_of_ble_eq_true rfl) rfl dX7_element_34 (fun H locs hG hS => ?_)
      refine lv_if_eq (tgt := 51) hx hb dX7_element_37 (by decide) (fun q6 => ?_) (fun q6 => ?_)
      · have h := ite_y h q6
        refine lv_lconst (v := 0) hx hb dX7_element_51 (by decide) ?_
        obtain rfl := Option.some.inj h
        exact g_lret X hr hlk hG hS dX7_element_52
      · have h := ite_n h q6
        refine lv_aload_n hx hb dX7_element_40 rfl (lv_at hl 0 rfl) ?_
        refine gf_X7_3 X hG (nx_0 n_a) k_a fl_X7_21 dX7_element_41 ?_
        refine lv_iload_n hx hb dX7_element_44 rfl (lv_at hl 1 rfl) ?_
        refine g_aldJJ X hG (nx_a (a := a) (k := 4) (n := 59) n_a (Nat.le_of_ble_eq_true rfl)) (kx_7_4 k_a) i3 dX7_element_45 ?_
        refine lv_iload_n hx hb dX7_element_46 rfl (lv_at hl 2 rfl) ?_
        obtain ⟨i7, h⟩ := gd_y h
        refine g_lald X hG (nE n_a i3 (Nat.le_of_ble_eq_true rfl)) (ke_7_4 k_a i3) (by decide) i7 dX7_element_47 ?_
        refine lv_goto (tgt := 52) hx hb dX7_element_48 (by decide) ?_
        obtain rfl := Option.some.inj h
        exact g_lret X hr hlk hG hS dX7_element_52
set_option maxRecDepth 100000 in
set_option maxHeartbeats 4000000 in
theorem ct_X7_holds (l : Launch) (z : gZ) {N : Nat} {M : Mem} {a : Nat} {v1 : Int32} {o : Int32} (k_a : kd a = 7) (n_a : a + 59 ≤ gn z) (h : fX7_holds N M a v1 = some o) : CtI l z yX7_holds cX7_holds 2 (some .int) { frames := 1, cells := 0, slots := 0, locals := 25 } [.ref (gad z a), .int v1] M o M := by
  refine Ct_of rfl (Nat.le_of_ble_eq_true rfl) ?_
  intro p e s m below meth c ls X hr hlk hG hS hl
  have X : gX p m c _ _ s _ RX7 z := X
  have hl : lv_has ls 2 [(0, .ref (gad z a)), (1, .int v1)] := hl
  have hx := X.1
  have hb := X.2.1
  unfold fX7_holds at h
  refine lv_iload_n hx hb dX7_holds_0 rfl (lv_at hl 1 rfl) ?_
  refine lv_i2l hx hb dX7_holds_1 rfl ?_
  refine lv_lconst (v := 0) hx hb dX7_holds_2 (by decide) ?_
  refine lv_ldc2 (v := 7) hx hb X.2.2.2.1 (X.2.2.2.2.1 _ cn_X7_100) dX7_holds_3 ?_
  obtain ⟨r1, hcr1, h⟩ := bd_y h
  refine g_cSI (av := [.long ((v1 : Int32).toInt64), .long 0, .long 7]) (rest := []) X hG hS (ct_X7_in l z  hcr1) mt_X7_in ml_X7_88 rfl ⟨rfl, rfl, Nat.le_of_ble_eq_true rfl, Nat.le_of_ble_eq_true rfl⟩ ⟨Nat.le_refl 0, Nat.le_refl 0⟩ hl.1 (Nat.le_of_ble_eq_true rfl) rfl dX7_holds_6 (fun H locs hG hS => ?_)
  refine lv_if_eq (tgt := 21) hx hb dX7_holds_9 (by decide) (fun q2 => ?_) (fun q2 => ?_)
  · have h := ite_y h q2
    refine lv_iconst (v := (-1)) hx hb dX7_holds_21 (by decide) ?_
    obtain rfl := Option.some.inj h
    exact g_iret X hr hlk hG hS dX7_holds_22
  · have h := ite_n h q2
    refine lv_aload_n hx hb dX7_holds_12 rfl (lv_at hl 0 rfl) ?_
    refine gf_X7_0 X hG (nx_0 n_a) k_a fl_X7_7 dX7_holds_13 ?_
    refine lv_iload_n hx hb dX7_holds_16 rfl (lv_at hl 1 rfl) ?_
    obtain ⟨i3, h⟩ := gd_y h
    refine g_iald X hG (nx_a (a := a) (k := 1) (n := 59) n_a (Nat.le_of_ble_eq_true rfl)) (kx_7_1 k_a) (by decide) i3 dX7_holds_17 ?_
    refine lv_if_ne (tgt := 23) hx hb dX7_holds_18 (by decide) (fun q4 => ?_) (fun q4 => ?_)
    · have h := ite_n h q4
      refine lv_aload_n hx hb dX7_holds_23 rfl (lv_at hl 0 rfl) ?_
      refine gf_X7_0 X hG (nx_0 n_a) k_a fl_X7_7 dX7_holds_24 ?_
      refine lv_iload_n hx hb dX7_holds_27 rfl (lv_at hl 1 rfl) ?_
      refine g_iald X hG (nx_a (a := a) (k := 1) (n := 59) n_a (Nat.le_of_ble_eq_true rfl)) (kx_7_1 k_a) (by decide) i3 dX7_holds_28 ?_
      refine lv_iconst (v := 1) hx hb dX7_holds_29 (by decide) ?_
      refine lv_icmp_ne (tgt := 42) hx hb dX7_holds_30 (by decide) (fun q5 => ?_) (fun q5 => ?_)
      · have h := ite_n h q5
        refine lv_bipush (v := 10) hx hb dX7_holds_42 (by decide) ?_
        refine lv_aload_n hx hb dX7_holds_44 rfl (lv_at hl 0 rfl) ?_
        refine gf_X7_4 X hG (nx_0 n_a) k_a fl_X7_24 dX7_holds_45 ?_
        refine lv_iload_n hx hb dX7_holds_48 rfl (lv_at hl 1 rfl) ?_
        refine g_iald X hG (nx_a (a := a) (k := 13) (n := 59) n_a (Nat.le_of_ble_eq_true rfl)) (kx_7_13 k_a) (by decide) i3 dX7_holds_49 ?_
        refine lv_iadd hx hb dX7_holds_50 ?_
        obtain rfl := Option.some.inj h
        exact g_iret X hr hlk hG hS dX7_holds_51
      · have h := ite_y h q5
        refine lv_aload_n hx hb dX7_holds_33 rfl (lv_at hl 0 rfl) ?_
        refine gf_X7_1 X hG (nx_0 n_a) k_a fl_X7_13 dX7_holds_34 ?_
        refine lv_iload_n hx hb dX7_holds_37 rfl (lv_at hl 1 rfl) ?_
        refine g_iald X hG (nx_a (a := a) (k := 2) (n := 59) n_a (Nat.le_of_ble_eq_true rfl)) (kx_7_2 k_a) (by decide) i3 dX7_holds_38 ?_
        refine lv_goto (tgt := 51) hx hb dX7_holds_39 (by decide) ?_
        obtain rfl := Option.some.inj h
        exact g_iret X hr hlk hG hS dX7_holds_51
    · have h := ite_y h q4
      refine lv_iconst (v := (-1)) hx hb dX7_holds_21 (by decide) ?_
      obtain rfl := Option.some.inj h
      exact g_iret X hr hlk hG hS dX7_holds_22
set_option maxRecDepth 100000 in
set_option maxHeartbeats 4000000 in
theorem ct_X7_mayBy (l : Launch) (z : gZ) {N : Nat} {M : Mem} {v0 : Int32} {v1 : Int32} {o : Int32}  (h : fX7_mayBy N M v0 v1 = some o) : CtI l z yX7_mayBy cX7_mayBy 2 (some .boolean) { frames := 1, cells := 0, slots := 0, locals := 25 } [.int v0, .int v1] M o M := by
  refine Ct_of rfl (Nat.le_of_ble_eq_true rfl) ?_
  intro p e s m below meth c ls X hr hlk hG hS hl
  have X : gX p m c _ _ s _ RX7 z := X
  have hl : lv_has ls 2 [(0, .int v0), (1, .int v1)] := hl
  have hx := X.1
  have hb := X.2.1
  unfold fX7_mayBy at h
  refine lv_iload_n hx hb dX7_mayBy_0 rfl (lv_at hl 0 rfl) ?_
  by_cases q1 : v0 = 1
  · have h := ite_y h q1
    refine lv_tableIn (tgt := 32) hx hb dX7_mayBy_1 (by rw [q1]; decide) (by rw [q1]; decide) (by rw [q1]; rfl) (by decide) ?_
    refine lv_iload_n hx hb dX7_mayBy_32 rfl (lv_at hl 1 rfl) ?_
    refine lv_i2l hx hb dX7_mayBy_33 rfl ?_
    refine lv_lconst (v := 0) hx hb dX7_mayBy_34 (by decide) ?_
    refine lv_lconst (v := 1) hx hb dX7_mayBy_35 (by decide) ?_
    obtain ⟨r2, hcr2, h⟩ := bd_y h
    refine g_cSI (av := [.long ((v1 : Int32).toInt64), .long 0, .long 1]) (rest := []) X hG hS (ct_X7_in l z  hcr2) mt_X7_in ml_X7_88 rfl ⟨rfl, rfl, Nat.le_of_ble_eq_true rfl, Nat.le_of_ble_eq_true rfl⟩ ⟨Nat.le_refl 0, Nat.le_refl 0⟩ hl.1 (Nat.le_of_ble_eq_true rfl) rfl dX7_mayBy_36 (fun H locs hG hS => ?_)
    obtain ⟨q3, h⟩ := gc_y h
    obtain rfl := Option.some.inj h
    exact g_zret (zn q3) X hr hlk hG hS dX7_mayBy_39
  · have h := ite_n h q1
    by_cases q4 : v0 = 2
    · have h := ite_y h q4
      refine lv_tableIn (tgt := 40) hx hb dX7_mayBy_1 (by rw [q4]; decide) (by rw [q4]; decide) (by rw [q4]; rfl) (by decide) ?_
      refine lv_iload_n hx hb dX7_mayBy_40 rfl (lv_at hl 1 rfl) ?_
      refine lv_i2l hx hb dX7_mayBy_41 rfl ?_
      refine lv_lconst (v := 0) hx hb dX7_mayBy_42 (by decide) ?_
      refine lv_ldc2 (v := 1000) hx hb X.2.2.2.1 (X.2.2.2.2.1 _ cn_X7_113) dX7_mayBy_43 ?_
      obtain ⟨r5, hcr5, h⟩ := bd_y h
      refine g_cSI (av := [.long ((v1 : Int32).toInt64), .long 0, .long 1000]) (rest := []) X hG hS (ct_X7_in l z  hcr5) mt_X7_in ml_X7_88 rfl ⟨rfl, rfl, Nat.le_of_ble_eq_true rfl, Nat.le_of_ble_eq_true rfl⟩ ⟨Nat.le_refl 0, Nat.le_refl 0⟩ hl.1 (Nat.le_of_ble_eq_true rfl) rfl dX7_mayBy_46 (fun H locs hG hS => ?_)
      obtain ⟨q6, h⟩ := gc_y h
      obtain rfl := Option.some.inj h
      exact g_zret (zn q6) X hr hlk hG hS dX7_mayBy_49
    · have h := ite_n h q4
      by_cases q7 : v0 = 3
      · have h := ite_y h q7
        refine lv_tableIn (tgt := 50) hx hb dX7_mayBy_1 (by rw [q7]; decide) (by rw [q7]; decide) (by rw [q7]; rfl) (by decide) ?_
        refine lv_iload_n hx hb dX7_mayBy_50 rfl (lv_at hl 1 rfl) ?_
        refine lv_i2l hx hb dX7_mayBy_51 rfl ?_
        refine lv_lconst (v := 0) hx hb dX7_mayBy_52 (by decide) ?_
        refine lv_ldc2 (v := 11) hx hb X.2.2.2.1 (X.2.2.2.2.1 _ cn_X7_115) dX7_mayBy_53 ?_
        obtain ⟨r8, hcr8, h⟩ := bd_y h
        refine g_cSI (av := [.long ((v1 : Int32).toInt64), .long 0, .long 11]) (rest := []) X hG hS (ct_X7_in l z  hcr8) mt_X7_in ml_X7_88 rfl ⟨rfl, rfl, Nat.le_of_ble_eq_true rfl, Nat.le_of_ble_eq_true rfl⟩ ⟨Nat.le_refl 0, Nat.le_refl 0⟩ hl.1 (Nat.le_of_ble_eq_true rfl) rfl dX7_mayBy_56 (fun H locs hG hS => ?_)
        obtain ⟨q9, h⟩ := gc_y h
        obtain rfl := Option.some.inj h
        exact g_zret (zn q9) X hr hlk hG hS dX7_mayBy_59
      · have h := ite_n h q7
        by_cases q10 : v0 = 4
        · have h := ite_y h q10
          refine lv_tableIn (tgt := 60) hx hb dX7_mayBy_1 (by rw [q10]; decide) (by rw [q10]; decide) (by rw [q10]; rfl) (by decide) ?_
          refine lv_iload_n hx hb dX7_mayBy_60 rfl (lv_at hl 1 rfl) ?_
          refine lv_if_lt (tgt := 94) hx hb dX7_mayBy_61 (by decide) (fun q11 => ?_) (fun q11 => ?_)
          · have h := ite_y h q11
            refine lv_iconst (v := 0) hx hb dX7_mayBy_94 (by decide) ?_
            obtain rfl := Option.some.inj h
            exact g_zret (zn (Or.inl rfl)) X hr hlk hG hS dX7_mayBy_95
          · have h := ite_n h q11
            refine lv_iload_n hx hb dX7_mayBy_64 rfl (lv_at hl 1 rfl) ?_
            refine lv_bipush (v := 100) hx hb dX7_mayBy_65 (by decide) ?_
            refine lv_idiv hx hb dX7_mayBy_67 (by decide) ?_
            refine lv_i2l hx hb dX7_mayBy_68 rfl ?_
            refine lv_lconst (v := 1) hx hb dX7_mayBy_69 (by decide) ?_
            refine lv_ldc2 (v := 9) hx hb X.2.2.2.1 (X.2.2.2.2.1 _ cn_X7_117) dX7_mayBy_70 ?_
            obtain ⟨r12, hcr12, h⟩ := bd_y h
            refine g_cSI (av := [.long (((v1 / 100) : Int32).toInt64), .long 1, .long 9]) (rest := []) X hG hS (ct_X7_in l z  hcr12) mt_X7_in ml_X7_88 rfl ⟨rfl, rfl, Nat.le_of_ble_eq_true rfl, Nat.le_of_ble_eq_true rfl⟩ ⟨Nat.le_refl 0, Nat.le_refl 0⟩ hl.1 (Nat.le_of_ble_eq_true rfl) rfl dX7_mayBy_73 (fun H locs hG hS => ?_)
            refine lv_if_eq (tgt := 94) hx hb dX7_mayBy_76 (by decide) (fun q13 => ?_) (fun q13 => ?_)
            · have h := ite_y h q13
              refine lv_iconst (v := 0) hx hb dX7_mayBy_94 (by decide) ?_
              obtain rfl := Option.some.inj h
              exact g_zret (zn (Or.inl rfl)) X hr hlk hG hS dX7_mayBy_95
            · have h := ite_n h q13
              refine lv_iload_n hx hb dX7_mayBy_79 rfl (lv_at hl 1 rfl) ?_
              refine lv_bipush (v := 100) hx hb dX7_mayBy_80 (by decide) ?_
              refine lv_irem hx hb dX7_mayBy_82 (by decide) ?_
              refine lv_iload_n hx hb dX7_mayBy_83 rfl (lv_at hl 1 rfl) ?_
              refine lv_bipush (v := 100) hx hb dX7_mayBy_84 (by decide) ?_
              refine lv_idiv hx hb dX7_mayBy_86 (by decide) ?_
              refine lv_icmp_ge (tgt := 94) hx hb dX7_mayBy_87 (by decide) (fun q14 => ?_) (fun q14 => ?_)
              · have h := ite_y h q14
                refine lv_iconst (v := 0) hx hb dX7_mayBy_94 (by decide) ?_
                obtain rfl := Option.some.inj h
                exact g_zret (zn (Or.inl rfl)) X hr hlk hG hS dX7_mayBy_95
              · have h := ite_n h q14
                refine lv_iconst (v := 1) hx hb dX7_mayBy_90 (by decide) ?_
                refine lv_goto (tgt := 95) hx hb dX7_mayBy_91 (by decide) ?_
                obtain rfl := Option.some.inj h
                exact g_zret (zn (Or.inr rfl)) X hr hlk hG hS dX7_mayBy_95
        · have h := ite_n h q10
          refine lv_tableOut (tgt := 96) hx hb dX7_mayBy_1 (by have eq1 := lv_neT (a := 1) q1 (by decide); have eq4 := lv_neT (a := 2) q4 (by decide); have eq7 := lv_neT (a := 3) q7 (by decide); have eq10 := lv_neT (a := 4) q10 (by decide); omega) (by decide) ?_
          refine lv_iload_n hx hb dX7_mayBy_96 rfl (lv_at hl 1 rfl) ?_
          refine lv_i2l hx hb dX7_mayBy_97 rfl ?_
          refine lv_lconst (v := 0) hx hb dX7_mayBy_98 (by decide) ?_
          refine lv_ldc2 (v := 7) hx hb X.2.2.2.1 (X.2.2.2.2.1 _ cn_X7_100) dX7_mayBy_99 ?_
          obtain ⟨r15, hcr15, h⟩ := bd_y h
          refine g_cSI (av := [.long ((v1 : Int32).toInt64), .long 0, .long 7]) (rest := []) X hG hS (ct_X7_in l z  hcr15) mt_X7_in ml_X7_88 rfl ⟨rfl, rfl, Nat.le_of_ble_eq_true rfl, Nat.le_of_ble_eq_true rfl⟩ ⟨Nat.le_refl 0, Nat.le_refl 0⟩ hl.1 (Nat.le_of_ble_eq_true rfl) rfl dX7_mayBy_102 (fun H locs hG hS => ?_)
          obtain ⟨q16, h⟩ := gc_y h
          obtain rfl := Option.some.inj h
          exact g_zret (zn q16) X hr hlk hG hS dX7_mayBy_105
set_option maxRecDepth 100000 in
set_option maxHeartbeats 4000000 in
theorem wX7_way_86 {N : Nat} {p : Program} {l : Launch} {e : Env} {s : State} {m : MethodId} {args : Array Value} {below : List Frame} {meth : Method} {c : Code} {z : gZ} {M : Mem} {a : Nat} {u1 : Int32} {u2 : Int32} {u3 : Int32} {o : Int32 × Mem} (X : gX p m c cX7_way 6 s args RX7 z) (hr : meth.sig.returnType = (some .int)) (hlk : meth.locks = false) (k_a : kd a = 7) (n_a : a + 59 ≤ gn z)  : ∀ (n : Nat) (w4 : Int32) (w5 : Int32) (H : Heap) (locs : List Loc) (ls : Array Slot), fX7_way_86 N M a u1 u2 u3  n w4 w5 = some o → gW z M H → va_S (gA z) s.heap H locs → lv_has ls 6 [(0, .ref (gad z a)), (1, .int u1), (2, .int u2), (3, .int u3), (4, .int w4), (5, .int w5)] → W p l e { frames := 2, cells := 0, slots := 0, locals := 46 } s m args below meth c H locs 0 0 (MQ below (va_Qi (fun r' (_ : Unit) => r' = o.1) (fun _ t => gW z o.2 t.heap) (gA z)) args s 0 0 (gA z)) (F0 m 86 ls []) := by
  have hx := X.1
  have hb := X.2.1
  intro n
  induction n with
  | zero => intro w4 w5 H locs ls h; cases h
  | succ n ih =>
    intro w4 w5 H locs ls h hG hS hl
    rw [fX7_way_86] at h
    refine lv_iload hx hb dX7_way_86 (lv_at hl 5 rfl) ?_
    refine lv_aload_n hx hb dX7_way_88 rfl (lv_at hl 0 rfl) ?_
    refine gf_X7_2 X hG (nx_0 n_a) k_a fl_X7_16 dX7_way_89 ?_
    refine lv_iload_n hx hb dX7_way_92 rfl (lv_at hl 3 rfl) ?_
    obtain ⟨i1, h⟩ := gd_y h
    refine g_iald X hG (nx_a (a := a) (k := 3) (n := 59) n_a (Nat.le_of_ble_eq_true rfl)) (kx_7_3 k_a) (by decide) i1 dX7_way_93 ?_
    refine lv_icmp_ge (tgt := 137) hx hb dX7_way_94 (by decide) (fun q2 => ?_) (fun q2 => ?_)
    · have h := ite_y h q2
      refine lv_aload_n hx hb dX7_way_137 rfl (lv_at hl 0 rfl) ?_
      refine gf_X7_0 X hG (nx_0 n_a) k_a fl_X7_7 dX7_way_138 ?_
      refine lv_iload_n hx hb dX7_way_141 rfl (lv_at hl 1 rfl) ?_
      refine lv_iconst (v := 2) hx hb dX7_way_142 (by decide) ?_
      obtain ⟨i3, h⟩ := gd_y h
      refine g_iast X hG hS (nx_a (a := a) (k := 1) (n := 59) n_a (Nat.le_of_ble_eq_true rfl)) (kx_7_1 k_a) (by decide) i3 dX7_way_143 (fun H locs hG hS => ?_)
      obtain ⟨M4, eM4⟩ : ∃ y, y = sI M (a + 1) (u1 : Int32).toNatClampNeg 2 := ⟨_, rfl⟩
      rw [← eM4] at hG
      have h := nm_y h M4 eM4
      refine lv_aload_n hx hb dX7_way_144 rfl (lv_at hl 0 rfl) ?_
      refine gf_X7_4 X hG (nx_0 n_a) k_a fl_X7_24 dX7_way_145 ?_
      refine lv_iload_n hx hb dX7_way_148 rfl (lv_at hl 1 rfl) ?_
      refine lv_iload_n hx hb dX7_way_149 rfl (lv_at hl 2 rfl) ?_
      refine g_iast X hG hS (nx_a (a := a) (k := 13) (n := 59) n_a (Nat.le_of_ble_eq_true rfl)) (kx_7_13 k_a) (by decide) i3 dX7_way_150 (fun H locs hG hS => ?_)
      obtain ⟨M5, eM5⟩ : ∃ y, y = sI M4 (a + 13) (u1 : Int32).toNatClampNeg u2 := ⟨_, rfl⟩
      rw [← eM5] at hG
      have h := nm_y h M5 eM5
      refine lv_aload_n hx hb dX7_way_151 rfl (lv_at hl 0 rfl) ?_
      refine gf_X7_5 X hG (nx_0 n_a) k_a fl_X7_27 dX7_way_152 ?_
      refine lv_iload_n hx hb dX7_way_155 rfl (lv_at hl 1 rfl) ?_
      refine lv_iload hx hb dX7_way_156 (lv_at hl 4 rfl) ?_
      refine g_iast X hG hS (nx_a (a := a) (k := 14) (n := 59) n_a (Nat.le_of_ble_eq_true rfl)) (kx_7_14 k_a) (by decide) i3 dX7_way_158 (fun H locs hG hS => ?_)
      obtain ⟨M6, eM6⟩ : ∃ y, y = sI M5 (a + 14) (u1 : Int32).toNatClampNeg w4 := ⟨_, rfl⟩
      rw [← eM6] at hG
      have h := nm_y h M6 eM6
      refine lv_iconst (v := 1) hx hb dX7_way_159 (by decide) ?_
      obtain rfl := Option.some.inj h
      exact g_iret X hr hlk hG hS dX7_way_160
    · have h := ite_n h q2
      refine lv_iload hx hb dX7_way_97 (lv_at hl 5 rfl) ?_
      refine lv_bipush (v := 12) hx hb dX7_way_99 (by decide) ?_
      refine lv_icmp_ge (tgt := 137) hx hb dX7_way_101 (by decide) (fun q7 => ?_) (fun q7 => ?_)
      · have h := ite_y h q7
        refine lv_aload_n hx hb dX7_way_137 rfl (lv_at hl 0 rfl) ?_
        refine gf_X7_0 X hG (nx_0 n_a) k_a fl_X7_7 dX7_way_138 ?_
        refine lv_iload_n hx hb dX7_way_141 rfl (lv_at hl 1 rfl) ?_
        refine lv_iconst (v := 2) hx hb dX7_way_142 (by decide) ?_
        obtain ⟨i8, h⟩ := gd_y h
        refine g_iast X hG hS (nx_a (a := a) (k := 1) (n := 59) n_a (Nat.le_of_ble_eq_true rfl)) (kx_7_1 k_a) (by decide) i8 dX7_way_143 (fun H locs hG hS => ?_)
        obtain ⟨M9, eM9⟩ : ∃ y, y = sI M (a + 1) (u1 : Int32).toNatClampNeg 2 := ⟨_, rfl⟩
        rw [← eM9] at hG
        have h := nm_y h M9 eM9
        refine lv_aload_n hx hb dX7_way_144 rfl (lv_at hl 0 rfl) ?_
        refine gf_X7_4 X hG (nx_0 n_a) k_a fl_X7_24 dX7_way_145 ?_
        refine lv_iload_n hx hb dX7_way_148 rfl (lv_at hl 1 rfl) ?_
        refine lv_iload_n hx hb dX7_way_149 rfl (lv_at hl 2 rfl) ?_
        refine g_iast X hG hS (nx_a (a := a) (k := 13) (n := 59) n_a (Nat.le_of_ble_eq_true rfl)) (kx_7_13 k_a) (by decide) i8 dX7_way_150 (fun H locs hG hS => ?_)
        obtain ⟨M10, eM10⟩ : ∃ y, y = sI M9 (a + 13) (u1 : Int32).toNatClampNeg u2 := ⟨_, rfl⟩
        rw [← eM10] at hG
        have h := nm_y h M10 eM10
        refine lv_aload_n hx hb dX7_way_151 rfl (lv_at hl 0 rfl) ?_
        refine gf_X7_5 X hG (nx_0 n_a) k_a fl_X7_27 dX7_way_152 ?_
        refine lv_iload_n hx hb dX7_way_155 rfl (lv_at hl 1 rfl) ?_
        refine lv_iload hx hb dX7_way_156 (lv_at hl 4 rfl) ?_
        refine g_iast X hG hS (nx_a (a := a) (k := 14) (n := 59) n_a (Nat.le_of_ble_eq_true rfl)) (kx_7_14 k_a) (by decide) i8 dX7_way_158 (fun H locs hG hS => ?_)
        obtain ⟨M11, eM11⟩ : ∃ y, y = sI M10 (a + 14) (u1 : Int32).toNatClampNeg w4 := ⟨_, rfl⟩
        rw [← eM11] at hG
        have h := nm_y h M11 eM11
        refine lv_iconst (v := 1) hx hb dX7_way_159 (by decide) ?_
        obtain rfl := Option.some.inj h
        exact g_iret X hr hlk hG hS dX7_way_160
      · have h := ite_n h q7
        refine lv_iload hx hb dX7_way_104 (lv_at hl 4 rfl) ?_
        refine lv_aload_n hx hb dX7_way_106 rfl (lv_at hl 0 rfl) ?_
        refine gf_X7_3 X hG (nx_0 n_a) k_a fl_X7_21 dX7_way_107 ?_
        refine lv_iload_n hx hb dX7_way_110 rfl (lv_at hl 3 rfl) ?_
        refine g_aldJJ X hG (nx_a (a := a) (k := 4) (n := 59) n_a (Nat.le_of_ble_eq_true rfl)) (kx_7_4 k_a) i1 dX7_way_111 ?_
        refine lv_iload hx hb dX7_way_112 (lv_at hl 5 rfl) ?_
        obtain ⟨i12, h⟩ := gd_y h
        refine g_lald X hG (nE n_a i1 (Nat.le_of_ble_eq_true rfl)) (ke_7_4 k_a i1) (by decide) i12 dX7_way_114 ?_
        refine lv_lconst (v := 0) hx hb dX7_way_115 (by decide) ?_
        refine W.lcmp hx hb dX7_way_116 ?_
        refine lv_if_eq (tgt := 127) hx hb dX7_way_117 (by decide) (fun q13 => ?_) (fun q13 => ?_)
        · have h := ite_y h q13
          refine lv_iconst (v := 0) hx hb dX7_way_127 (by decide) ?_
          refine lv_ior hx hb dX7_way_128 ?_
          refine lv_topi (fun x14 ex14 => ?_)
          have h := nm_y h x14 ex14
          refine lv_istore (lv' := [(4, .int x14), (0, .ref (gad z a)), (1, .int u1), (2, .int u2), (3, .int u3), (5, .int w5)]) hx hb dX7_way_129 hl (by decide) rfl (fun ls hl => ?_)
          refine lv_iinc (v := (w5 + 1)) (lv' := [(5, .int (w5 + 1)), (4, .int x14), (0, .ref (gad z a)), (1, .int u1), (2, .int u2), (3, .int u3)]) hx hb dX7_way_131 hl (k := 5) rfl rfl (by decide) rfl (fun ls hl => ?_)
          refine lv_goto (tgt := 86) hx hb dX7_way_134 (by decide) ?_
          exact ih x14 (w5 + 1) _ _ _ h hG hS (lv_sub hl [2, 3, 4, 5, 1, 0] rfl)
        · have h := ite_n h q13
          refine lv_iconst (v := 1) hx hb dX7_way_120 (by decide) ?_
          refine lv_iload hx hb dX7_way_121 (lv_at hl 5 rfl) ?_
          refine lv_ishl hx hb dX7_way_123 ?_
          refine lv_goto (tgt := 128) hx hb dX7_way_124 (by decide) ?_
          refine lv_ior hx hb dX7_way_128 ?_
          refine lv_topi (fun x15 ex15 => ?_)
          have h := nm_y h x15 ex15
          refine lv_istore (lv' := [(4, .int x15), (0, .ref (gad z a)), (1, .int u1), (2, .int u2), (3, .int u3), (5, .int w5)]) hx hb dX7_way_129 hl (by decide) rfl (fun ls hl => ?_)
          refine lv_iinc (v := (w5 + 1)) (lv' := [(5, .int (w5 + 1)), (4, .int x15), (0, .ref (gad z a)), (1, .int u1), (2, .int u2), (3, .int u3)]) hx hb dX7_way_131 hl (k := 5) rfl rfl (by decide) rfl (fun ls hl => ?_)
          refine lv_goto (tgt := 86) hx hb dX7_way_134 (by decide) ?_
          exact ih x15 (w5 + 1) _ _ _ h hG hS (lv_sub hl [2, 3, 4, 5, 1, 0] rfl)
set_option maxRecDepth 100000 in
set_option maxHeartbeats 4000000 in
theorem ct_X7_way (l : Launch) (z : gZ) {N : Nat} {M : Mem} {a : Nat} {v1 : Int32} {v2 : Int32} {v3 : Int32} {o : Int32 × Mem} (k_a : kd a = 7) (n_a : a + 59 ≤ gn z) (h : fX7_way N M a v1 v2 v3 = some o) : CtI l z yX7_way cX7_way 6 (some .int) { frames := 2, cells := 0, slots := 0, locals := 46 } [.ref (gad z a), .int v1, .int v2, .int v3] M o.1 o.2 := by
  refine Ct_of rfl (Nat.le_of_ble_eq_true rfl) ?_
  intro p e s m below meth c ls X hr hlk hG hS hl
  have X : gX p m c _ _ s _ RX7 z := X
  have hl : lv_has ls 6 [(0, .ref (gad z a)), (1, .int v1), (2, .int v2), (3, .int v3)] := hl
  have hx := X.1
  have hb := X.2.1
  unfold fX7_way at h
  refine lv_iload_n hx hb dX7_way_0 rfl (lv_at hl 1 rfl) ?_
  refine lv_i2l hx hb dX7_way_1 rfl ?_
  refine lv_lconst (v := 0) hx hb dX7_way_2 (by decide) ?_
  refine lv_ldc2 (v := 7) hx hb X.2.2.2.1 (X.2.2.2.2.1 _ cn_X7_100) dX7_way_3 ?_
  obtain ⟨r1, hcr1, h⟩ := bd_y h
  refine g_cSI (av := [.long ((v1 : Int32).toInt64), .long 0, .long 7]) (rest := []) X hG hS (ct_X7_in l z  hcr1) mt_X7_in ml_X7_88 rfl ⟨rfl, rfl, Nat.le_of_ble_eq_true rfl, Nat.le_of_ble_eq_true rfl⟩ ⟨Nat.le_refl 0, Nat.le_refl 0⟩ hl.1 (Nat.le_of_ble_eq_true rfl) rfl dX7_way_6 (fun H locs hG hS => ?_)
  refine lv_if_eq (tgt := 32) hx hb dX7_way_9 (by decide) (fun q2 => ?_) (fun q2 => ?_)
  · have h := ite_y h q2
    refine lv_aload_n hx hb dX7_way_32 rfl (lv_at hl 0 rfl) ?_
    refine lv_bipush (v := (-2)) hx hb dX7_way_33 (by decide) ?_
    obtain ⟨r3, hcr3, h⟩ := bd_y h
    refine g_cVI (a := a) (ci := 7) (T := TX7) (N := 37) (av := [.int (-2)]) (rest := []) X hG hS (ct_X7_refuse l z k_a n_a hcr3) mt_X7_refuse ml_X7_106 rfl ⟨rfl, rfl, Nat.le_of_ble_eq_true rfl, Nat.le_of_ble_eq_true rfl⟩ ⟨Nat.le_refl 0, Nat.le_refl 0⟩ (nx_0 n_a) k_a (by decide) rfl hl.1 (Nat.le_of_ble_eq_true rfl) rfl dX7_way_35 (fun H locs hG hS => ?_)
    obtain rfl := Option.some.inj h
    exact g_iret X hr hlk hG hS dX7_way_38
  · have h := ite_n h q2
    refine lv_iload_n hx hb dX7_way_12 rfl (lv_at hl 2 rfl) ?_
    refine lv_i2l hx hb dX7_way_13 rfl ?_
    refine lv_lconst (v := 1) hx hb dX7_way_14 (by decide) ?_
    refine lv_ldc2 (v := 5) hx hb X.2.2.2.1 (X.2.2.2.2.1 _ cn_X7_119) dX7_way_15 ?_
    obtain ⟨r4, hcr4, h⟩ := bd_y h
    refine g_cSI (av := [.long ((v2 : Int32).toInt64), .long 1, .long 5]) (rest := []) X hG hS (ct_X7_in l z  hcr4) mt_X7_in ml_X7_88 rfl ⟨rfl, rfl, Nat.le_of_ble_eq_true rfl, Nat.le_of_ble_eq_true rfl⟩ ⟨Nat.le_refl 0, Nat.le_refl 0⟩ hl.1 (Nat.le_of_ble_eq_true rfl) rfl dX7_way_18 (fun H locs hG hS => ?_)
    refine lv_if_eq (tgt := 32) hx hb dX7_way_21 (by decide) (fun q5 => ?_) (fun q5 => ?_)
    · have h := ite_y h q5
      refine lv_aload_n hx hb dX7_way_32 rfl (lv_at hl 0 rfl) ?_
      refine lv_bipush (v := (-2)) hx hb dX7_way_33 (by decide) ?_
      obtain ⟨r6, hcr6, h⟩ := bd_y h
      refine g_cVI (a := a) (ci := 7) (T := TX7) (N := 37) (av := [.int (-2)]) (rest := []) X hG hS (ct_X7_refuse l z k_a n_a hcr6) mt_X7_refuse ml_X7_106 rfl ⟨rfl, rfl, Nat.le_of_ble_eq_true rfl, Nat.le_of_ble_eq_true rfl⟩ ⟨Nat.le_refl 0, Nat.le_refl 0⟩ (nx_0 n_a) k_a (by decide) rfl hl.1 (Nat.le_of_ble_eq_true rfl) rfl dX7_way_35 (fun H locs hG hS => ?_)
      obtain rfl := Option.some.inj h
      exact g_iret X hr hlk hG hS dX7_way_38
    · have h := ite_n h q5
      refine lv_iload_n hx hb dX7_way_24 rfl (lv_at hl 2 rfl) ?_
      refine lv_iload_n hx hb dX7_way_25 rfl (lv_at hl 3 rfl) ?_
      obtain ⟨r7, hcr7, h⟩ := bd_y h
      refine g_cSI (av := [.int v2, .int v3]) (rest := []) X hG hS (ct_X7_mayBy l z  hcr7) mt_X7_mayBy ml_X7_121 rfl ⟨rfl, rfl, Nat.le_of_ble_eq_true rfl, Nat.le_of_ble_eq_true rfl⟩ ⟨Nat.le_refl 0, Nat.le_refl 0⟩ hl.1 (Nat.le_of_ble_eq_true rfl) rfl dX7_way_26 (fun H locs hG hS => ?_)
      refine lv_if_ne (tgt := 39) hx hb dX7_way_29 (by decide) (fun q8 => ?_) (fun q8 => ?_)
      · have h := ite_n h q8
        refine lv_iload_n hx hb dX7_way_39 rfl (lv_at hl 3 rfl) ?_
        refine lv_istore (lv' := [(4, .int v3), (0, .ref (gad z a)), (1, .int v1), (2, .int v2), (3, .int v3)]) hx hb dX7_way_40 hl (by decide) rfl (fun ls hl => ?_)
        refine lv_iload_n hx hb dX7_way_42 rfl (lv_at hl 3 rfl) ?_
        refine lv_iconst (v := 5) hx hb dX7_way_43 (by decide) ?_
        refine lv_icmp_ne (tgt := 137) hx hb dX7_way_44 (by decide) (fun q9 => ?_) (fun q9 => ?_)
        · have h := ite_n h q9
          refine lv_aload_n hx hb dX7_way_137 rfl (lv_at hl 1 rfl) ?_
          refine gf_X7_0 X hG (nx_0 n_a) k_a fl_X7_7 dX7_way_138 ?_
          refine lv_iload_n hx hb dX7_way_141 rfl (lv_at hl 2 rfl) ?_
          refine lv_iconst (v := 2) hx hb dX7_way_142 (by decide) ?_
          obtain ⟨i10, h⟩ := gd_y h
          refine g_iast X hG hS (nx_a (a := a) (k := 1) (n := 59) n_a (Nat.le_of_ble_eq_true rfl)) (kx_7_1 k_a) (by decide) i10 dX7_way_143 (fun H locs hG hS => ?_)
          obtain ⟨M11, eM11⟩ : ∃ y, y = sI M (a + 1) (v1 : Int32).toNatClampNeg 2 := ⟨_, rfl⟩
          rw [← eM11] at hG
          have h := nm_y h M11 eM11
          refine lv_aload_n hx hb dX7_way_144 rfl (lv_at hl 1 rfl) ?_
          refine gf_X7_4 X hG (nx_0 n_a) k_a fl_X7_24 dX7_way_145 ?_
          refine lv_iload_n hx hb dX7_way_148 rfl (lv_at hl 2 rfl) ?_
          refine lv_iload_n hx hb dX7_way_149 rfl (lv_at hl 3 rfl) ?_
          refine g_iast X hG hS (nx_a (a := a) (k := 13) (n := 59) n_a (Nat.le_of_ble_eq_true rfl)) (kx_7_13 k_a) (by decide) i10 dX7_way_150 (fun H locs hG hS => ?_)
          obtain ⟨M12, eM12⟩ : ∃ y, y = sI M11 (a + 13) (v1 : Int32).toNatClampNeg v2 := ⟨_, rfl⟩
          rw [← eM12] at hG
          have h := nm_y h M12 eM12
          refine lv_aload_n hx hb dX7_way_151 rfl (lv_at hl 1 rfl) ?_
          refine gf_X7_5 X hG (nx_0 n_a) k_a fl_X7_27 dX7_way_152 ?_
          refine lv_iload_n hx hb dX7_way_155 rfl (lv_at hl 2 rfl) ?_
          refine lv_iload hx hb dX7_way_156 (lv_at hl 0 rfl) ?_
          refine g_iast X hG hS (nx_a (a := a) (k := 14) (n := 59) n_a (Nat.le_of_ble_eq_true rfl)) (kx_7_14 k_a) (by decide) i10 dX7_way_158 (fun H locs hG hS => ?_)
          obtain ⟨M13, eM13⟩ : ∃ y, y = sI M12 (a + 14) (v1 : Int32).toNatClampNeg v3 := ⟨_, rfl⟩
          rw [← eM13] at hG
          have h := nm_y h M13 eM13
          refine lv_iconst (v := 1) hx hb dX7_way_159 (by decide) ?_
          obtain rfl := Option.some.inj h
          exact g_iret X hr hlk hG hS dX7_way_160
        · have h := ite_y h q9
          refine lv_aload_n hx hb dX7_way_47 rfl (lv_at hl 1 rfl) ?_
          refine gf_X7_0 X hG (nx_0 n_a) k_a fl_X7_7 dX7_way_48 ?_
          refine lv_iload_n hx hb dX7_way_51 rfl (lv_at hl 4 rfl) ?_
          obtain ⟨i14, h⟩ := gd_y h
          refine g_iald X hG (nx_a (a := a) (k := 1) (n := 59) n_a (Nat.le_of_ble_eq_true rfl)) (kx_7_1 k_a) (by decide) i14 dX7_way_52 ?_
          refine lv_iconst (v := 2) hx hb dX7_way_53 (by decide) ?_
          refine lv_icmp_ne (tgt := 64) hx hb dX7_way_54 (by decide) (fun q15 => ?_) (fun q15 => ?_)
          · have h := ite_n h q15
            refine lv_aload_n hx hb dX7_way_64 rfl (lv_at hl 1 rfl) ?_
            refine gf_X7_0 X hG (nx_0 n_a) k_a fl_X7_7 dX7_way_65 ?_
            refine lv_iload_n hx hb dX7_way_68 rfl (lv_at hl 4 rfl) ?_
            refine g_iald X hG (nx_a (a := a) (k := 1) (n := 59) n_a (Nat.le_of_ble_eq_true rfl)) (kx_7_1 k_a) (by decide) i14 dX7_way_69 ?_
            refine lv_if_ne (tgt := 80) hx hb dX7_way_70 (by decide) (fun q16 => ?_) (fun q16 => ?_)
            · have h := ite_n h q16
              refine lv_iconst (v := 0) hx hb dX7_way_80 (by decide) ?_
              refine lv_istore (lv' := [(4, .int 0), (0, .ref (gad z a)), (1, .int v1), (2, .int v2), (3, .int v3)]) hx hb dX7_way_81 hl (by decide) rfl (fun ls hl => ?_)
              refine lv_iconst (v := 0) hx hb dX7_way_83 (by decide) ?_
              refine lv_istore (lv' := [(5, .int 0), (4, .int 0), (0, .ref (gad z a)), (1, .int v1), (2, .int v2), (3, .int v3)]) hx hb dX7_way_84 hl (by decide) rfl (fun ls hl => ?_)
              refine wX7_way_86 X hr hlk k_a n_a _ _ _ _ _ _ h hG hS (lv_sub hl [2, 3, 4, 5, 1, 0] rfl)
            · have h := ite_y h q16
              refine lv_aload_n hx hb dX7_way_73 rfl (lv_at hl 1 rfl) ?_
              refine lv_bipush (v := (-4)) hx hb dX7_way_74 (by decide) ?_
              obtain ⟨r17, hcr17, h⟩ := bd_y h
              refine g_cVI (a := a) (ci := 7) (T := TX7) (N := 37) (av := [.int (-4)]) (rest := []) X hG hS (ct_X7_refuse l z k_a n_a hcr17) mt_X7_refuse ml_X7_106 rfl ⟨rfl, rfl, Nat.le_of_ble_eq_true rfl, Nat.le_of_ble_eq_true rfl⟩ ⟨Nat.le_refl 0, Nat.le_refl 0⟩ (nx_0 n_a) k_a (by decide) rfl hl.1 (Nat.le_of_ble_eq_true rfl) rfl dX7_way_76 (fun H locs hG hS => ?_)
              obtain rfl := Option.some.inj h
              exact g_iret X hr hlk hG hS dX7_way_79
          · have h := ite_y h q15
            refine lv_aload_n hx hb dX7_way_57 rfl (lv_at hl 1 rfl) ?_
            refine lv_bipush (v := (-3)) hx hb dX7_way_58 (by decide) ?_
            obtain ⟨r18, hcr18, h⟩ := bd_y h
            refine g_cVI (a := a) (ci := 7) (T := TX7) (N := 37) (av := [.int (-3)]) (rest := []) X hG hS (ct_X7_refuse l z k_a n_a hcr18) mt_X7_refuse ml_X7_106 rfl ⟨rfl, rfl, Nat.le_of_ble_eq_true rfl, Nat.le_of_ble_eq_true rfl⟩ ⟨Nat.le_refl 0, Nat.le_refl 0⟩ (nx_0 n_a) k_a (by decide) rfl hl.1 (Nat.le_of_ble_eq_true rfl) rfl dX7_way_60 (fun H locs hG hS => ?_)
            obtain rfl := Option.some.inj h
            exact g_iret X hr hlk hG hS dX7_way_63
      · have h := ite_y h q8
        refine lv_aload_n hx hb dX7_way_32 rfl (lv_at hl 0 rfl) ?_
        refine lv_bipush (v := (-2)) hx hb dX7_way_33 (by decide) ?_
        obtain ⟨r19, hcr19, h⟩ := bd_y h
        refine g_cVI (a := a) (ci := 7) (T := TX7) (N := 37) (av := [.int (-2)]) (rest := []) X hG hS (ct_X7_refuse l z k_a n_a hcr19) mt_X7_refuse ml_X7_106 rfl ⟨rfl, rfl, Nat.le_of_ble_eq_true rfl, Nat.le_of_ble_eq_true rfl⟩ ⟨Nat.le_refl 0, Nat.le_refl 0⟩ (nx_0 n_a) k_a (by decide) rfl hl.1 (Nat.le_of_ble_eq_true rfl) rfl dX7_way_35 (fun H locs hG hS => ?_)
        obtain rfl := Option.some.inj h
        exact g_iret X hr hlk hG hS dX7_way_38
set_option maxRecDepth 100000 in
set_option maxHeartbeats 4000000 in
theorem ct_X7_isUnder (l : Launch) (z : gZ) {N : Nat} {M : Mem} {v0 : Int32} {v1 : Int32} {o : Int32}  (h : fX7_isUnder N M v0 v1 = some o) : CtI l z yX7_isUnder cX7_isUnder 2 (some .boolean) { frames := 0, cells := 0, slots := 0, locals := 0 } [.int v0, .int v1] M o M := by
  refine Ct_of rfl (Nat.le_of_ble_eq_true rfl) ?_
  intro p e s m below meth c ls X hr hlk hG hS hl
  have X : gX p m c _ _ s _ RX7 z := X
  have hl : lv_has ls 2 [(0, .int v0), (1, .int v1)] := hl
  have hx := X.1
  have hb := X.2.1
  unfold fX7_isUnder at h
  refine lv_iload_n hx hb dX7_isUnder_0 rfl (lv_at hl 1 rfl) ?_
  refine lv_if_eq (tgt := 29) hx hb dX7_isUnder_1 (by decide) (fun q1 => ?_) (fun q1 => ?_)
  · have h := ite_y h q1
    refine lv_iconst (v := 1) hx hb dX7_isUnder_29 (by decide) ?_
    refine lv_goto (tgt := 34) hx hb dX7_isUnder_30 (by decide) ?_
    obtain rfl := Option.some.inj h
    exact g_zret (zn (Or.inr rfl)) X hr hlk hG hS dX7_isUnder_34
  · have h := ite_n h q1
    refine lv_iload_n hx hb dX7_isUnder_4 rfl (lv_at hl 0 rfl) ?_
    refine lv_iload_n hx hb dX7_isUnder_5 rfl (lv_at hl 1 rfl) ?_
    refine lv_icmp_eq (tgt := 29) hx hb dX7_isUnder_6 (by decide) (fun q2 => ?_) (fun q2 => ?_)
    · have h := ite_y h q2
      refine lv_iconst (v := 1) hx hb dX7_isUnder_29 (by decide) ?_
      refine lv_goto (tgt := 34) hx hb dX7_isUnder_30 (by decide) ?_
      obtain rfl := Option.some.inj h
      exact g_zret (zn (Or.inr rfl)) X hr hlk hG hS dX7_isUnder_34
    · have h := ite_n h q2
      refine lv_iload_n hx hb dX7_isUnder_9 rfl (lv_at hl 1 rfl) ?_
      refine lv_iconst (v := 1) hx hb dX7_isUnder_10 (by decide) ?_
      refine lv_icmp_ne (tgt := 19) hx hb dX7_isUnder_11 (by decide) (fun q3 => ?_) (fun q3 => ?_)
      · have h := ite_n h q3
        refine lv_iload_n hx hb dX7_isUnder_19 rfl (lv_at hl 1 rfl) ?_
        refine lv_iconst (v := 3) hx hb dX7_isUnder_20 (by decide) ?_
        refine lv_icmp_ne (tgt := 33) hx hb dX7_isUnder_21 (by decide) (fun q4 => ?_) (fun q4 => ?_)
        · have h := ite_n h q4
          refine lv_iconst (v := 0) hx hb dX7_isUnder_33 (by decide) ?_
          obtain rfl := Option.some.inj h
          exact g_zret (zn (Or.inl rfl)) X hr hlk hG hS dX7_isUnder_34
        · have h := ite_y h q4
          refine lv_iload_n hx hb dX7_isUnder_24 rfl (lv_at hl 0 rfl) ?_
          refine lv_iconst (v := 4) hx hb dX7_isUnder_25 (by decide) ?_
          refine lv_icmp_ne (tgt := 33) hx hb dX7_isUnder_26 (by decide) (fun q5 => ?_) (fun q5 => ?_)
          · have h := ite_n h q5
            refine lv_iconst (v := 0) hx hb dX7_isUnder_33 (by decide) ?_
            obtain rfl := Option.some.inj h
            exact g_zret (zn (Or.inl rfl)) X hr hlk hG hS dX7_isUnder_34
          · have h := ite_y h q5
            refine lv_iconst (v := 1) hx hb dX7_isUnder_29 (by decide) ?_
            refine lv_goto (tgt := 34) hx hb dX7_isUnder_30 (by decide) ?_
            obtain rfl := Option.some.inj h
            exact g_zret (zn (Or.inr rfl)) X hr hlk hG hS dX7_isUnder_34
      · have h := ite_y h q3
        refine lv_iload_n hx hb dX7_isUnder_14 rfl (lv_at hl 0 rfl) ?_
        refine lv_iconst (v := 2) hx hb dX7_isUnder_15 (by decide) ?_
        refine lv_icmp_eq (tgt := 29) hx hb dX7_isUnder_16 (by decide) (fun q6 => ?_) (fun q6 => ?_)
        · have h := ite_y h q6
          refine lv_iconst (v := 1) hx hb dX7_isUnder_29 (by decide) ?_
          refine lv_goto (tgt := 34) hx hb dX7_isUnder_30 (by decide) ?_
          obtain rfl := Option.some.inj h
          exact g_zret (zn (Or.inr rfl)) X hr hlk hG hS dX7_isUnder_34
        · have h := ite_n h q6
          refine lv_iload_n hx hb dX7_isUnder_19 rfl (lv_at hl 1 rfl) ?_
          refine lv_iconst (v := 3) hx hb dX7_isUnder_20 (by decide) ?_
          refine lv_icmp_ne (tgt := 33) hx hb dX7_isUnder_21 (by decide) (fun q7 => ?_) (fun q7 => ?_)
          · have h := ite_n h q7
            refine lv_iconst (v := 0) hx hb dX7_isUnder_33 (by decide) ?_
            obtain rfl := Option.some.inj h
            exact g_zret (zn (Or.inl rfl)) X hr hlk hG hS dX7_isUnder_34
          · have h := ite_y h q7
            refine lv_iload_n hx hb dX7_isUnder_24 rfl (lv_at hl 0 rfl) ?_
            refine lv_iconst (v := 4) hx hb dX7_isUnder_25 (by decide) ?_
            refine lv_icmp_ne (tgt := 33) hx hb dX7_isUnder_26 (by decide) (fun q8 => ?_) (fun q8 => ?_)
            · have h := ite_n h q8
              refine lv_iconst (v := 0) hx hb dX7_isUnder_33 (by decide) ?_
              obtain rfl := Option.some.inj h
              exact g_zret (zn (Or.inl rfl)) X hr hlk hG hS dX7_isUnder_34
            · have h := ite_y h q8
              refine lv_iconst (v := 1) hx hb dX7_isUnder_29 (by decide) ?_
              refine lv_goto (tgt := 34) hx hb dX7_isUnder_30 (by decide) ?_
              obtain rfl := Option.some.inj h
              exact g_zret (zn (Or.inr rfl)) X hr hlk hG hS dX7_isUnder_34
set_option maxRecDepth 100000 in
set_option maxHeartbeats 4000000 in
theorem ct_X7_says (l : Launch) (z : gZ) {N : Nat} {M : Mem} {a : Nat} {v1 : Int32} {v2 : Int32} {o : Int32 × Mem} (k_a : kd a = 7) (n_a : a + 59 ≤ gn z) (h : fX7_says N M a v1 v2 = some o) : CtI l z yX7_says cX7_says 3 (some .int) { frames := 1, cells := 0, slots := 0, locals := 25 } [.ref (gad z a), .int v1, .int v2] M o.1 o.2 := by
  refine Ct_of rfl (Nat.le_of_ble_eq_true rfl) ?_
  intro p e s m below meth c ls X hr hlk hG hS hl
  have X : gX p m c _ _ s _ RX7 z := X
  have hl : lv_has ls 3 [(0, .ref (gad z a)), (1, .int v1), (2, .int v2)] := hl
  have hx := X.1
  have hb := X.2.1
  unfold fX7_says at h
  refine lv_iload_n hx hb dX7_says_0 rfl (lv_at hl 1 rfl) ?_
  refine lv_i2l hx hb dX7_says_1 rfl ?_
  refine lv_lconst (v := 0) hx hb dX7_says_2 (by decide) ?_
  refine lv_ldc2 (v := 7) hx hb X.2.2.2.1 (X.2.2.2.2.1 _ cn_X7_100) dX7_says_3 ?_
  obtain ⟨r1, hcr1, h⟩ := bd_y h
  refine g_cSI (av := [.long ((v1 : Int32).toInt64), .long 0, .long 7]) (rest := []) X hG hS (ct_X7_in l z  hcr1) mt_X7_in ml_X7_88 rfl ⟨rfl, rfl, Nat.le_of_ble_eq_true rfl, Nat.le_of_ble_eq_true rfl⟩ ⟨Nat.le_refl 0, Nat.le_refl 0⟩ hl.1 (Nat.le_of_ble_eq_true rfl) rfl dX7_says_6 (fun H locs hG hS => ?_)
  refine lv_if_eq (tgt := 24) hx hb dX7_says_9 (by decide) (fun q2 => ?_) (fun q2 => ?_)
  · have h := ite_y h q2
    refine lv_aload_n hx hb dX7_says_24 rfl (lv_at hl 0 rfl) ?_
    refine lv_bipush (v := (-2)) hx hb dX7_says_25 (by decide) ?_
    obtain ⟨r3, hcr3, h⟩ := bd_y h
    refine g_cVI (a := a) (ci := 7) (T := TX7) (N := 37) (av := [.int (-2)]) (rest := []) X hG hS (ct_X7_refuse l z k_a n_a hcr3) mt_X7_refuse ml_X7_106 rfl ⟨rfl, rfl, Nat.le_of_ble_eq_true rfl, Nat.le_of_ble_eq_true rfl⟩ ⟨Nat.le_refl 0, Nat.le_refl 0⟩ (nx_0 n_a) k_a (by decide) rfl hl.1 (Nat.le_of_ble_eq_true rfl) rfl dX7_says_27 (fun H locs hG hS => ?_)
    obtain rfl := Option.some.inj h
    exact g_iret X hr hlk hG hS dX7_says_30
  · have h := ite_n h q2
    refine lv_iload_n hx hb dX7_says_12 rfl (lv_at hl 2 rfl) ?_
    refine lv_i2l hx hb dX7_says_13 rfl ?_
    refine lv_lconst (v := 0) hx hb dX7_says_14 (by decide) ?_
    refine lv_ldc2 (v := 5) hx hb X.2.2.2.1 (X.2.2.2.2.1 _ cn_X7_119) dX7_says_15 ?_
    obtain ⟨r4, hcr4, h⟩ := bd_y h
    refine g_cSI (av := [.long ((v2 : Int32).toInt64), .long 0, .long 5]) (rest := []) X hG hS (ct_X7_in l z  hcr4) mt_X7_in ml_X7_88 rfl ⟨rfl, rfl, Nat.le_of_ble_eq_true rfl, Nat.le_of_ble_eq_true rfl⟩ ⟨Nat.le_refl 0, Nat.le_refl 0⟩ hl.1 (Nat.le_of_ble_eq_true rfl) rfl dX7_says_18 (fun H locs hG hS => ?_)
    refine lv_if_ne (tgt := 31) hx hb dX7_says_21 (by decide) (fun q5 => ?_) (fun q5 => ?_)
    · have h := ite_n h q5
      refine lv_aload_n hx hb dX7_says_31 rfl (lv_at hl 0 rfl) ?_
      refine gf_X7_0 X hG (nx_0 n_a) k_a fl_X7_7 dX7_says_32 ?_
      refine lv_iload_n hx hb dX7_says_35 rfl (lv_at hl 1 rfl) ?_
      obtain ⟨i6, h⟩ := gd_y h
      refine g_iald X hG (nx_a (a := a) (k := 1) (n := 59) n_a (Nat.le_of_ble_eq_true rfl)) (kx_7_1 k_a) (by decide) i6 dX7_says_36 ?_
      refine lv_iconst (v := 1) hx hb dX7_says_37 (by decide) ?_
      refine lv_icmp_eq (tgt := 64) hx hb dX7_says_38 (by decide) (fun q7 => ?_) (fun q7 => ?_)
      · have h := ite_y h q7
        refine lv_aload_n hx hb dX7_says_64 rfl (lv_at hl 0 rfl) ?_
        refine lv_bipush (v := (-3)) hx hb dX7_says_65 (by decide) ?_
        obtain ⟨r8, hcr8, h⟩ := bd_y h
        refine g_cVI (a := a) (ci := 7) (T := TX7) (N := 37) (av := [.int (-3)]) (rest := []) X hG hS (ct_X7_refuse l z k_a n_a hcr8) mt_X7_refuse ml_X7_106 rfl ⟨rfl, rfl, Nat.le_of_ble_eq_true rfl, Nat.le_of_ble_eq_true rfl⟩ ⟨Nat.le_refl 0, Nat.le_refl 0⟩ (nx_0 n_a) k_a (by decide) rfl hl.1 (Nat.le_of_ble_eq_true rfl) rfl dX7_says_67 (fun H locs hG hS => ?_)
        obtain rfl := Option.some.inj h
        exact g_iret X hr hlk hG hS dX7_says_70
      · have h := ite_n h q7
        refine lv_aload_n hx hb dX7_says_41 rfl (lv_at hl 0 rfl) ?_
        refine gf_X7_0 X hG (nx_0 n_a) k_a fl_X7_7 dX7_says_42 ?_
        refine lv_iload_n hx hb dX7_says_45 rfl (lv_at hl 1 rfl) ?_
        refine g_iald X hG (nx_a (a := a) (k := 1) (n := 59) n_a (Nat.le_of_ble_eq_true rfl)) (kx_7_1 k_a) (by decide) i6 dX7_says_46 ?_
        refine lv_iconst (v := 2) hx hb dX7_says_47 (by decide) ?_
        refine lv_icmp_ne (tgt := 71) hx hb dX7_says_48 (by decide) (fun q9 => ?_) (fun q9 => ?_)
        · have h := ite_n h q9
          refine lv_aload_n hx hb dX7_says_71 rfl (lv_at hl 0 rfl) ?_
          refine gf_X7_0 X hG (nx_0 n_a) k_a fl_X7_7 dX7_says_72 ?_
          refine lv_iload_n hx hb dX7_says_75 rfl (lv_at hl 1 rfl) ?_
          refine g_iald X hG (nx_a (a := a) (k := 1) (n := 59) n_a (Nat.le_of_ble_eq_true rfl)) (kx_7_1 k_a) (by decide) i6 dX7_says_76 ?_
          refine lv_if_ne (tgt := 87) hx hb dX7_says_77 (by decide) (fun q10 => ?_) (fun q10 => ?_)
          · have h := ite_n h q10
            refine lv_iload_n hx hb dX7_says_87 rfl (lv_at hl 2 rfl) ?_
            by_cases q11 : v2 = 0
            · have h := ite_y h q11
              refine lv_tableIn (tgt := 120) hx hb dX7_says_88 (by rw [q11]; decide) (by rw [q11]; decide) (by rw [q11]; rfl) (by decide) ?_
              refine lv_iconst (v := 0) hx hb dX7_says_120 (by decide) ?_
              obtain rfl := Option.some.inj h
              exact g_iret X hr hlk hG hS dX7_says_121
            · have h := ite_n h q11
              by_cases q12 : v2 = 1
              · have h := ite_y h q12
                refine lv_tableIn (tgt := 122) hx hb dX7_says_88 (by rw [q12]; decide) (by rw [q12]; decide) (by rw [q12]; rfl) (by decide) ?_
                refine lv_aload_n hx hb dX7_says_122 rfl (lv_at hl 0 rfl) ?_
                refine gf_X7_4 X hG (nx_0 n_a) k_a fl_X7_24 dX7_says_123 ?_
                refine lv_iload_n hx hb dX7_says_126 rfl (lv_at hl 1 rfl) ?_
                refine g_iald X hG (nx_a (a := a) (k := 13) (n := 59) n_a (Nat.le_of_ble_eq_true rfl)) (kx_7_13 k_a) (by decide) i6 dX7_says_127 ?_
                refine lv_iconst (v := 2) hx hb dX7_says_128 (by decide) ?_
                refine lv_icmp_ne (tgt := 152) hx hb dX7_says_129 (by decide) (fun q13 => ?_) (fun q13 => ?_)
                · have h := ite_n h q13
                  refine lv_aload_n hx hb dX7_says_152 rfl (lv_at hl 0 rfl) ?_
                  refine gf_X7_5 X hG (nx_0 n_a) k_a fl_X7_27 dX7_says_153 ?_
                  refine lv_iload_n hx hb dX7_says_156 rfl (lv_at hl 1 rfl) ?_
                  refine g_iald X hG (nx_a (a := a) (k := 14) (n := 59) n_a (Nat.le_of_ble_eq_true rfl)) (kx_7_14 k_a) (by decide) i6 dX7_says_157 ?_
                  obtain rfl := Option.some.inj h
                  exact g_iret X hr hlk hG hS dX7_says_158
                · have h := ite_y h q13
                  refine lv_aload_n hx hb dX7_says_132 rfl (lv_at hl 0 rfl) ?_
                  refine gf_X7_5 X hG (nx_0 n_a) k_a fl_X7_27 dX7_says_133 ?_
                  refine lv_iload_n hx hb dX7_says_136 rfl (lv_at hl 1 rfl) ?_
                  refine g_iald X hG (nx_a (a := a) (k := 14) (n := 59) n_a (Nat.le_of_ble_eq_true rfl)) (kx_7_14 k_a) (by decide) i6 dX7_says_137 ?_
                  refine lv_sipush (v := 500) hx hb dX7_says_138 (by decide) ?_
                  refine lv_icmp_le (tgt := 148) hx hb dX7_says_141 (by decide) (fun q14 => ?_) (fun q14 => ?_)
                  · have h := ite_y h q14
                    refine lv_iconst (v := 0) hx hb dX7_says_148 (by decide) ?_
                    refine lv_goto (tgt := 158) hx hb dX7_says_149 (by decide) ?_
                    obtain rfl := Option.some.inj h
                    exact g_iret X hr hlk hG hS dX7_says_158
                  · have h := ite_n h q14
                    refine lv_iconst (v := 1) hx hb dX7_says_144 (by decide) ?_
                    refine lv_goto (tgt := 158) hx hb dX7_says_145 (by decide) ?_
                    obtain rfl := Option.some.inj h
                    exact g_iret X hr hlk hG hS dX7_says_158
              · have h := ite_n h q12
                by_cases q15 : v2 = 2
                · have h := ite_y h q15
                  refine lv_tableIn (tgt := 188) hx hb dX7_says_88 (by rw [q15]; decide) (by rw [q15]; decide) (by rw [q15]; rfl) (by decide) ?_
                  refine lv_aload_n hx hb dX7_says_188 rfl (lv_at hl 0 rfl) ?_
                  refine gf_X7_5 X hG (nx_0 n_a) k_a fl_X7_27 dX7_says_189 ?_
                  refine lv_iload_n hx hb dX7_says_192 rfl (lv_at hl 1 rfl) ?_
                  refine g_iald X hG (nx_a (a := a) (k := 14) (n := 59) n_a (Nat.le_of_ble_eq_true rfl)) (kx_7_14 k_a) (by decide) i6 dX7_says_193 ?_
                  obtain rfl := Option.some.inj h
                  exact g_iret X hr hlk hG hS dX7_says_194
                · have h := ite_n h q15
                  by_cases q16 : v2 = 3
                  · have h := ite_y h q16
                    refine lv_tableIn (tgt := 159) hx hb dX7_says_88 (by rw [q16]; decide) (by rw [q16]; decide) (by rw [q16]; rfl) (by decide) ?_
                    refine lv_aload_n hx hb dX7_says_159 rfl (lv_at hl 0 rfl) ?_
                    refine gf_X7_4 X hG (nx_0 n_a) k_a fl_X7_24 dX7_says_160 ?_
                    refine lv_iload_n hx hb dX7_says_163 rfl (lv_at hl 1 rfl) ?_
                    refine g_iald X hG (nx_a (a := a) (k := 13) (n := 59) n_a (Nat.le_of_ble_eq_true rfl)) (kx_7_13 k_a) (by decide) i6 dX7_says_164 ?_
                    refine lv_iconst (v := 4) hx hb dX7_says_165 (by decide) ?_
                    refine lv_icmp_ne (tgt := 181) hx hb dX7_says_166 (by decide) (fun q17 => ?_) (fun q17 => ?_)
                    · have h := ite_n h q17
                      refine lv_aload_n hx hb dX7_says_181 rfl (lv_at hl 0 rfl) ?_
                      refine gf_X7_5 X hG (nx_0 n_a) k_a fl_X7_27 dX7_says_182 ?_
                      refine lv_iload_n hx hb dX7_says_185 rfl (lv_at hl 1 rfl) ?_
                      refine g_iald X hG (nx_a (a := a) (k := 14) (n := 59) n_a (Nat.le_of_ble_eq_true rfl)) (kx_7_14 k_a) (by decide) i6 dX7_says_186 ?_
                      obtain rfl := Option.some.inj h
                      exact g_iret X hr hlk hG hS dX7_says_187
                    · have h := ite_y h q17
                      refine lv_aload_n hx hb dX7_says_169 rfl (lv_at hl 0 rfl) ?_
                      refine gf_X7_5 X hG (nx_0 n_a) k_a fl_X7_27 dX7_says_170 ?_
                      refine lv_iload_n hx hb dX7_says_173 rfl (lv_at hl 1 rfl) ?_
                      refine g_iald X hG (nx_a (a := a) (k := 14) (n := 59) n_a (Nat.le_of_ble_eq_true rfl)) (kx_7_14 k_a) (by decide) i6 dX7_says_174 ?_
                      refine lv_bipush (v := 100) hx hb dX7_says_175 (by decide) ?_
                      refine lv_idiv hx hb dX7_says_177 (by decide) ?_
                      refine lv_goto (tgt := 187) hx hb dX7_says_178 (by decide) ?_
                      obtain rfl := Option.some.inj h
                      exact g_iret X hr hlk hG hS dX7_says_187
                  · have h := ite_n h q16
                    refine lv_tableOut (tgt := 188) hx hb dX7_says_88 (by have eq11 := lv_neT (a := 0) q11 (by decide); have eq12 := lv_neT (a := 1) q12 (by decide); have eq15 := lv_neT (a := 2) q15 (by decide); have eq16 := lv_neT (a := 3) q16 (by decide); omega) (by decide) ?_
                    refine lv_aload_n hx hb dX7_says_188 rfl (lv_at hl 0 rfl) ?_
                    refine gf_X7_5 X hG (nx_0 n_a) k_a fl_X7_27 dX7_says_189 ?_
                    refine lv_iload_n hx hb dX7_says_192 rfl (lv_at hl 1 rfl) ?_
                    refine g_iald X hG (nx_a (a := a) (k := 14) (n := 59) n_a (Nat.le_of_ble_eq_true rfl)) (kx_7_14 k_a) (by decide) i6 dX7_says_193 ?_
                    obtain rfl := Option.some.inj h
                    exact g_iret X hr hlk hG hS dX7_says_194
          · have h := ite_y h q10
            refine lv_aload_n hx hb dX7_says_80 rfl (lv_at hl 0 rfl) ?_
            refine lv_bipush (v := (-4)) hx hb dX7_says_81 (by decide) ?_
            obtain ⟨r18, hcr18, h⟩ := bd_y h
            refine g_cVI (a := a) (ci := 7) (T := TX7) (N := 37) (av := [.int (-4)]) (rest := []) X hG hS (ct_X7_refuse l z k_a n_a hcr18) mt_X7_refuse ml_X7_106 rfl ⟨rfl, rfl, Nat.le_of_ble_eq_true rfl, Nat.le_of_ble_eq_true rfl⟩ ⟨Nat.le_refl 0, Nat.le_refl 0⟩ (nx_0 n_a) k_a (by decide) rfl hl.1 (Nat.le_of_ble_eq_true rfl) rfl dX7_says_83 (fun H locs hG hS => ?_)
            obtain rfl := Option.some.inj h
            exact g_iret X hr hlk hG hS dX7_says_86
        · have h := ite_y h q9
          refine lv_aload_n hx hb dX7_says_51 rfl (lv_at hl 0 rfl) ?_
          refine gf_X7_4 X hG (nx_0 n_a) k_a fl_X7_24 dX7_says_52 ?_
          refine lv_iload_n hx hb dX7_says_55 rfl (lv_at hl 1 rfl) ?_
          refine g_iald X hG (nx_a (a := a) (k := 13) (n := 59) n_a (Nat.le_of_ble_eq_true rfl)) (kx_7_13 k_a) (by decide) i6 dX7_says_56 ?_
          refine lv_iload_n hx hb dX7_says_57 rfl (lv_at hl 2 rfl) ?_
          obtain ⟨r19, hcr19, h⟩ := bd_y h
          refine g_cSI (av := [.int (M.1 (a + 13) (v1 : Int32).toNatClampNeg), .int v2]) (rest := []) X hG hS (ct_X7_isUnder l z  hcr19) mt_X7_isUnder ml_X7_125 rfl ⟨rfl, rfl, Nat.le_of_ble_eq_true rfl, Nat.le_of_ble_eq_true rfl⟩ ⟨Nat.le_refl 0, Nat.le_refl 0⟩ hl.1 (Nat.le_of_ble_eq_true rfl) rfl dX7_says_58 (fun H locs hG hS => ?_)
          refine lv_if_ne (tgt := 71) hx hb dX7_says_61 (by decide) (fun q20 => ?_) (fun q20 => ?_)
          · have h := ite_n h q20
            refine lv_aload_n hx hb dX7_says_71 rfl (lv_at hl 0 rfl) ?_
            refine gf_X7_0 X hG (nx_0 n_a) k_a fl_X7_7 dX7_says_72 ?_
            refine lv_iload_n hx hb dX7_says_75 rfl (lv_at hl 1 rfl) ?_
            refine g_iald X hG (nx_a (a := a) (k := 1) (n := 59) n_a (Nat.le_of_ble_eq_true rfl)) (kx_7_1 k_a) (by decide) i6 dX7_says_76 ?_
            refine lv_if_ne (tgt := 87) hx hb dX7_says_77 (by decide) (fun q21 => ?_) (fun q21 => ?_)
            · have h := ite_n h q21
              refine lv_iload_n hx hb dX7_says_87 rfl (lv_at hl 2 rfl) ?_
              by_cases q22 : v2 = 0
              · have h := ite_y h q22
                refine lv_tableIn (tgt := 120) hx hb dX7_says_88 (by rw [q22]; decide) (by rw [q22]; decide) (by rw [q22]; rfl) (by decide) ?_
                refine lv_iconst (v := 0) hx hb dX7_says_120 (by decide) ?_
                obtain rfl := Option.some.inj h
                exact g_iret X hr hlk hG hS dX7_says_121
              · have h := ite_n h q22
                by_cases q23 : v2 = 1
                · have h := ite_y h q23
                  refine lv_tableIn (tgt := 122) hx hb dX7_says_88 (by rw [q23]; decide) (by rw [q23]; decide) (by rw [q23]; rfl) (by decide) ?_
                  refine lv_aload_n hx hb dX7_says_122 rfl (lv_at hl 0 rfl) ?_
                  refine gf_X7_4 X hG (nx_0 n_a) k_a fl_X7_24 dX7_says_123 ?_
                  refine lv_iload_n hx hb dX7_says_126 rfl (lv_at hl 1 rfl) ?_
                  refine g_iald X hG (nx_a (a := a) (k := 13) (n := 59) n_a (Nat.le_of_ble_eq_true rfl)) (kx_7_13 k_a) (by decide) i6 dX7_says_127 ?_
                  refine lv_iconst (v := 2) hx hb dX7_says_128 (by decide) ?_
                  refine lv_icmp_ne (tgt := 152) hx hb dX7_says_129 (by decide) (fun q24 => ?_) (fun q24 => ?_)
                  · have h := ite_n h q24
                    refine lv_aload_n hx hb dX7_says_152 rfl (lv_at hl 0 rfl) ?_
                    refine gf_X7_5 X hG (nx_0 n_a) k_a fl_X7_27 dX7_says_153 ?_
                    refine lv_iload_n hx hb dX7_says_156 rfl (lv_at hl 1 rfl) ?_
                    refine g_iald X hG (nx_a (a := a) (k := 14) (n := 59) n_a (Nat.le_of_ble_eq_true rfl)) (kx_7_14 k_a) (by decide) i6 dX7_says_157 ?_
                    obtain rfl := Option.some.inj h
                    exact g_iret X hr hlk hG hS dX7_says_158
                  · have h := ite_y h q24
                    refine lv_aload_n hx hb dX7_says_132 rfl (lv_at hl 0 rfl) ?_
                    refine gf_X7_5 X hG (nx_0 n_a) k_a fl_X7_27 dX7_says_133 ?_
                    refine lv_iload_n hx hb dX7_says_136 rfl (lv_at hl 1 rfl) ?_
                    refine g_iald X hG (nx_a (a := a) (k := 14) (n := 59) n_a (Nat.le_of_ble_eq_true rfl)) (kx_7_14 k_a) (by decide) i6 dX7_says_137 ?_
                    refine lv_sipush (v := 500) hx hb dX7_says_138 (by decide) ?_
                    refine lv_icmp_le (tgt := 148) hx hb dX7_says_141 (by decide) (fun q25 => ?_) (fun q25 => ?_)
                    · have h := ite_y h q25
                      refine lv_iconst (v := 0) hx hb dX7_says_148 (by decide) ?_
                      refine lv_goto (tgt := 158) hx hb dX7_says_149 (by decide) ?_
                      obtain rfl := Option.some.inj h
                      exact g_iret X hr hlk hG hS dX7_says_158
                    · have h := ite_n h q25
                      refine lv_iconst (v := 1) hx hb dX7_says_144 (by decide) ?_
                      refine lv_goto (tgt := 158) hx hb dX7_says_145 (by decide) ?_
                      obtain rfl := Option.some.inj h
                      exact g_iret X hr hlk hG hS dX7_says_158
                · have h := ite_n h q23
                  by_cases q26 : v2 = 2
                  · have h := ite_y h q26
                    refine lv_tableIn (tgt := 188) hx hb dX7_says_88 (by rw [q26]; decide) (by rw [q26]; decide) (by rw [q26]; rfl) (by decide) ?_
                    refine lv_aload_n hx hb dX7_says_188 rfl (lv_at hl 0 rfl) ?_
                    refine gf_X7_5 X hG (nx_0 n_a) k_a fl_X7_27 dX7_says_189 ?_
                    refine lv_iload_n hx hb dX7_says_192 rfl (lv_at hl 1 rfl) ?_
                    refine g_iald X hG (nx_a (a := a) (k := 14) (n := 59) n_a (Nat.le_of_ble_eq_true rfl)) (kx_7_14 k_a) (by decide) i6 dX7_says_193 ?_
                    obtain rfl := Option.some.inj h
                    exact g_iret X hr hlk hG hS dX7_says_194
                  · have h := ite_n h q26
                    by_cases q27 : v2 = 3
                    · have h := ite_y h q27
                      refine lv_tableIn (tgt := 159) hx hb dX7_says_88 (by rw [q27]; decide) (by rw [q27]; decide) (by rw [q27]; rfl) (by decide) ?_
                      refine lv_aload_n hx hb dX7_says_159 rfl (lv_at hl 0 rfl) ?_
                      refine gf_X7_4 X hG (nx_0 n_a) k_a fl_X7_24 dX7_says_160 ?_
                      refine lv_iload_n hx hb dX7_says_163 rfl (lv_at hl 1 rfl) ?_
                      refine g_iald X hG (nx_a (a := a) (k := 13) (n := 59) n_a (Nat.le_of_ble_eq_true rfl)) (kx_7_13 k_a) (by decide) i6 dX7_says_164 ?_
                      refine lv_iconst (v := 4) hx hb dX7_says_165 (by decide) ?_
                      refine lv_icmp_ne (tgt := 181) hx hb dX7_says_166 (by decide) (fun q28 => ?_) (fun q28 => ?_)
                      · have h := ite_n h q28
                        refine lv_aload_n hx hb dX7_says_181 rfl (lv_at hl 0 rfl) ?_
                        refine gf_X7_5 X hG (nx_0 n_a) k_a fl_X7_27 dX7_says_182 ?_
                        refine lv_iload_n hx hb dX7_says_185 rfl (lv_at hl 1 rfl) ?_
                        refine g_iald X hG (nx_a (a := a) (k := 14) (n := 59) n_a (Nat.le_of_ble_eq_true rfl)) (kx_7_14 k_a) (by decide) i6 dX7_says_186 ?_
                        obtain rfl := Option.some.inj h
                        exact g_iret X hr hlk hG hS dX7_says_187
                      · have h := ite_y h q28
                        refine lv_aload_n hx hb dX7_says_169 rfl (lv_at hl 0 rfl) ?_
                        refine gf_X7_5 X hG (nx_0 n_a) k_a fl_X7_27 dX7_says_170 ?_
                        refine lv_iload_n hx hb dX7_says_173 rfl (lv_at hl 1 rfl) ?_
                        refine g_iald X hG (nx_a (a := a) (k := 14) (n := 59) n_a (Nat.le_of_ble_eq_true rfl)) (kx_7_14 k_a) (by decide) i6 dX7_says_174 ?_
                        refine lv_bipush (v := 100) hx hb dX7_says_175 (by decide) ?_
                        refine lv_idiv hx hb dX7_says_177 (by decide) ?_
                        refine lv_goto (tgt := 187) hx hb dX7_says_178 (by decide) ?_
                        obtain rfl := Option.some.inj h
                        exact g_iret X hr hlk hG hS dX7_says_187
                    · have h := ite_n h q27
                      refine lv_tableOut (tgt := 188) hx hb dX7_says_88 (by have eq22 := lv_neT (a := 0) q22 (by decide); have eq23 := lv_neT (a := 1) q23 (by decide); have eq26 := lv_neT (a := 2) q26 (by decide); have eq27 := lv_neT (a := 3) q27 (by decide); omega) (by decide) ?_
                      refine lv_aload_n hx hb dX7_says_188 rfl (lv_at hl 0 rfl) ?_
                      refine gf_X7_5 X hG (nx_0 n_a) k_a fl_X7_27 dX7_says_189 ?_
                      refine lv_iload_n hx hb dX7_says_192 rfl (lv_at hl 1 rfl) ?_
                      refine g_iald X hG (nx_a (a := a) (k := 14) (n := 59) n_a (Nat.le_of_ble_eq_true rfl)) (kx_7_14 k_a) (by decide) i6 dX7_says_193 ?_
                      obtain rfl := Option.some.inj h
                      exact g_iret X hr hlk hG hS dX7_says_194
            · have h := ite_y h q21
              refine lv_aload_n hx hb dX7_says_80 rfl (lv_at hl 0 rfl) ?_
              refine lv_bipush (v := (-4)) hx hb dX7_says_81 (by decide) ?_
              obtain ⟨r29, hcr29, h⟩ := bd_y h
              refine g_cVI (a := a) (ci := 7) (T := TX7) (N := 37) (av := [.int (-4)]) (rest := []) X hG hS (ct_X7_refuse l z k_a n_a hcr29) mt_X7_refuse ml_X7_106 rfl ⟨rfl, rfl, Nat.le_of_ble_eq_true rfl, Nat.le_of_ble_eq_true rfl⟩ ⟨Nat.le_refl 0, Nat.le_refl 0⟩ (nx_0 n_a) k_a (by decide) rfl hl.1 (Nat.le_of_ble_eq_true rfl) rfl dX7_says_83 (fun H locs hG hS => ?_)
              obtain rfl := Option.some.inj h
              exact g_iret X hr hlk hG hS dX7_says_86
          · have h := ite_y h q20
            refine lv_aload_n hx hb dX7_says_64 rfl (lv_at hl 0 rfl) ?_
            refine lv_bipush (v := (-3)) hx hb dX7_says_65 (by decide) ?_
            obtain ⟨r30, hcr30, h⟩ := bd_y h
            refine g_cVI (a := a) (ci := 7) (T := TX7) (N := 37) (av := [.int (-3)]) (rest := []) X hG hS (ct_X7_refuse l z k_a n_a hcr30) mt_X7_refuse ml_X7_106 rfl ⟨rfl, rfl, Nat.le_of_ble_eq_true rfl, Nat.le_of_ble_eq_true rfl⟩ ⟨Nat.le_refl 0, Nat.le_refl 0⟩ (nx_0 n_a) k_a (by decide) rfl hl.1 (Nat.le_of_ble_eq_true rfl) rfl dX7_says_67 (fun H locs hG hS => ?_)
            obtain rfl := Option.some.inj h
            exact g_iret X hr hlk hG hS dX7_says_70
    · have h := ite_y h q5
      refine lv_aload_n hx hb dX7_says_24 rfl (lv_at hl 0 rfl) ?_
      refine lv_bipush (v := (-2)) hx hb dX7_says_25 (by decide) ?_
      obtain ⟨r31, hcr31, h⟩ := bd_y h
      refine g_cVI (a := a) (ci := 7) (T := TX7) (N := 37) (av := [.int (-2)]) (rest := []) X hG hS (ct_X7_refuse l z k_a n_a hcr31) mt_X7_refuse ml_X7_106 rfl ⟨rfl, rfl, Nat.le_of_ble_eq_true rfl, Nat.le_of_ble_eq_true rfl⟩ ⟨Nat.le_refl 0, Nat.le_refl 0⟩ (nx_0 n_a) k_a (by decide) rfl hl.1 (Nat.le_of_ble_eq_true rfl) rfl dX7_says_27 (fun H locs hG hS => ?_)
      obtain rfl := Option.some.inj h
      exact g_iret X hr hlk hG hS dX7_says_30
set_option maxRecDepth 100000 in
set_option maxHeartbeats 4000000 in
theorem wX7_feed_42 {N : Nat} {p : Program} {l : Launch} {e : Env} {s : State} {m : MethodId} {args : Array Value} {below : List Frame} {meth : Method} {c : Code} {z : gZ} {a : Nat} {u1 : Int32} {o : Int32 × Mem} (X : gX p m c cX7_feed 4 s args RX7 z) (hr : meth.sig.returnType = (some .int)) (hlk : meth.locks = false) (k_a : kd a = 7) (n_a : a + 59 ≤ gn z)  : ∀ (n : Nat) (Mw : Mem) (w3 : Int32) (H : Heap) (locs : List Loc) (ls : Array Slot), fX7_feed_42 N a u1  n Mw w3 = some o → gW z Mw H → va_S (gA z) s.heap H locs → lv_has ls 4 [(0, .ref (gad z a)), (1, .int u1), (3, .int w3)] → W p l e { frames := 1, cells := 0, slots := 0, locals := 25 } s m args below meth c H locs 0 0 (MQ below (va_Qi (fun r' (_ : Unit) => r' = o.1) (fun _ t => gW z o.2 t.heap) (gA z)) args s 0 0 (gA z)) (F0 m 42 ls []) := by
  have hx := X.1
  have hb := X.2.1
  intro n
  induction n with
  | zero => intro Mw w3 H locs ls h; cases h
  | succ n ih =>
    intro Mw w3 H locs ls h hG hS hl
    rw [fX7_feed_42] at h
    refine lv_iload_n hx hb dX7_feed_42 rfl (lv_at hl 2 rfl) ?_
    refine lv_if_lt (tgt := 78) hx hb dX7_feed_43 (by decide) (fun q1 => ?_) (fun q1 => ?_)
    · have h := ite_y h q1
      refine lv_aload_n hx hb dX7_feed_78 rfl (lv_at hl 0 rfl) ?_
      refine gf_X7_8 X hG (nx_0 n_a) k_a fl_X7_128 dX7_feed_79 ?_
      obtain rfl := Option.some.inj h
      exact g_iret X hr hlk hG hS dX7_feed_82
    · have h := ite_n h q1
      refine lv_aload_n hx hb dX7_feed_46 rfl (lv_at hl 0 rfl) ?_
      refine gf_X7_7 X hG (nx_0 n_a) k_a fl_X7_34 dX7_feed_47 ?_
      refine lv_aload_n hx hb dX7_feed_50 rfl (lv_at hl 0 rfl) ?_
      refine lv_dup hx hb dX7_feed_51 rfl ?_
      refine gf_X7_8 X hG (nx_0 n_a) k_a fl_X7_128 dX7_feed_52 ?_
      refine lv_dup_x1 hx hb dX7_feed_55 rfl rfl ?_
      refine lv_iconst (v := 1) hx hb dX7_feed_56 (by decide) ?_
      refine lv_iadd hx hb dX7_feed_57 ?_
      refine pf_X7_8 X hG hS (nx_0 n_a) k_a fl_X7_128 dX7_feed_58 (fun H locs hG hS => ?_)
      obtain ⟨M2, eM2⟩ : ∃ y, y = sI Mw a 8 ((Mw.1 a 8) + 1) := ⟨_, rfl⟩
      rw [← eM2] at hG
      have h := nm_y h M2 eM2
      refine lv_iload_n hx hb dX7_feed_61 rfl (lv_at hl 1 rfl) ?_
      refine lv_bipush (v := 8) hx hb dX7_feed_62 (by decide) ?_
      refine lv_iload_n hx hb dX7_feed_64 rfl (lv_at hl 2 rfl) ?_
      refine lv_imul hx hb dX7_feed_65 ?_
      refine lv_ishr hx hb dX7_feed_66 ?_
      refine lv_sipush (v := 255) hx hb dX7_feed_67 (by decide) ?_
      refine lv_iand hx hb dX7_feed_70 ?_
      obtain ⟨i3, h⟩ := gd_y h
      refine g_iast X hG hS (nx_a (a := a) (k := 16) (n := 59) n_a (Nat.le_of_ble_eq_true rfl)) (kx_7_16 k_a) (by decide) i3 dX7_feed_71 (fun H locs hG hS => ?_)
      obtain ⟨M4, eM4⟩ : ∃ y, y = sI M2 (a + 16) ((Mw.1 a 8) : Int32).toNatClampNeg ((u1 >>> ((8 * w3) &&& 31)) &&& 255) := ⟨_, rfl⟩
      rw [← eM4] at hG
      have h := nm_y h M4 eM4
      refine lv_iinc (v := (w3 + (-1))) (lv' := [(3, .int (w3 + (-1))), (0, .ref (gad z a)), (1, .int u1)]) hx hb dX7_feed_72 hl (k := 2) rfl rfl (by decide) rfl (fun ls hl => ?_)
      refine lv_goto (tgt := 42) hx hb dX7_feed_75 (by decide) ?_
      exact ih M4 (w3 + (-1)) _ _ _ h hG hS (lv_sub hl [1, 2, 0] rfl)
set_option maxRecDepth 100000 in
set_option maxHeartbeats 4000000 in
theorem ct_X7_feed (l : Launch) (z : gZ) {N : Nat} {M : Mem} {a : Nat} {v1 : Int32} {v2 : Int32} {o : Int32 × Mem} (k_a : kd a = 7) (n_a : a + 59 ≤ gn z) (h : fX7_feed N M a v1 v2 = some o) : CtI l z yX7_feed cX7_feed 4 (some .int) { frames := 1, cells := 0, slots := 0, locals := 25 } [.ref (gad z a), .int v1, .int v2] M o.1 o.2 := by
  refine Ct_of rfl (Nat.le_of_ble_eq_true rfl) ?_
  intro p e s m below meth c ls X hr hlk hG hS hl
  have X : gX p m c _ _ s _ RX7 z := X
  have hl : lv_has ls 4 [(0, .ref (gad z a)), (1, .int v1), (2, .int v2)] := hl
  have hx := X.1
  have hb := X.2.1
  unfold fX7_feed at h
  refine lv_iload_n hx hb dX7_feed_0 rfl (lv_at hl 2 rfl) ?_
  refine lv_i2l hx hb dX7_feed_1 rfl ?_
  refine lv_lconst (v := 1) hx hb dX7_feed_2 (by decide) ?_
  refine lv_ldc2 (v := 4) hx hb X.2.2.2.1 (X.2.2.2.2.1 _ cn_X7_102) dX7_feed_3 ?_
  obtain ⟨r1, hcr1, h⟩ := bd_y h
  refine g_cSI (av := [.long ((v2 : Int32).toInt64), .long 1, .long 4]) (rest := []) X hG hS (ct_X7_in l z  hcr1) mt_X7_in ml_X7_88 rfl ⟨rfl, rfl, Nat.le_of_ble_eq_true rfl, Nat.le_of_ble_eq_true rfl⟩ ⟨Nat.le_refl 0, Nat.le_refl 0⟩ hl.1 (Nat.le_of_ble_eq_true rfl) rfl dX7_feed_6 (fun H locs hG hS => ?_)
  refine lv_if_ne (tgt := 19) hx hb dX7_feed_9 (by decide) (fun q2 => ?_) (fun q2 => ?_)
  · have h := ite_n h q2
    refine lv_iload_n hx hb dX7_feed_19 rfl (lv_at hl 2 rfl) ?_
    refine lv_sipush (v := 160) hx hb dX7_feed_20 (by decide) ?_
    refine lv_aload_n hx hb dX7_feed_23 rfl (lv_at hl 0 rfl) ?_
    refine gf_X7_8 X hG (nx_0 n_a) k_a fl_X7_128 dX7_feed_24 ?_
    refine lv_isub hx hb dX7_feed_27 ?_
    refine lv_icmp_le (tgt := 38) hx hb dX7_feed_28 (by decide) (fun q3 => ?_) (fun q3 => ?_)
    · have h := ite_y h q3
      refine lv_iload_n hx hb dX7_feed_38 rfl (lv_at hl 2 rfl) ?_
      refine lv_iconst (v := 1) hx hb dX7_feed_39 (by decide) ?_
      refine lv_isub hx hb dX7_feed_40 ?_
      refine lv_topi (fun x4 ex4 => ?_)
      have h := nm_y h x4 ex4
      refine lv_istore_n (lv' := [(3, .int x4), (0, .ref (gad z a)), (1, .int v1), (2, .int v2)]) hx hb dX7_feed_41 rfl hl (by decide) rfl (fun ls hl => ?_)
      refine wX7_feed_42 X hr hlk k_a n_a _ _ _ _ _ _ h hG hS (lv_sub hl [1, 2, 0] rfl)
    · have h := ite_n h q3
      refine lv_aload_n hx hb dX7_feed_31 rfl (lv_at hl 0 rfl) ?_
      refine lv_bipush (v := (-6)) hx hb dX7_feed_32 (by decide) ?_
      obtain ⟨r5, hcr5, h⟩ := bd_y h
      refine g_cVI (a := a) (ci := 7) (T := TX7) (N := 37) (av := [.int (-6)]) (rest := []) X hG hS (ct_X7_refuse l z k_a n_a hcr5) mt_X7_refuse ml_X7_106 rfl ⟨rfl, rfl, Nat.le_of_ble_eq_true rfl, Nat.le_of_ble_eq_true rfl⟩ ⟨Nat.le_refl 0, Nat.le_refl 0⟩ (nx_0 n_a) k_a (by decide) rfl hl.1 (Nat.le_of_ble_eq_true rfl) rfl dX7_feed_34 (fun H locs hG hS => ?_)
      obtain rfl := Option.some.inj h
      exact g_iret X hr hlk hG hS dX7_feed_37
  · have h := ite_y h q2
    refine lv_aload_n hx hb dX7_feed_12 rfl (lv_at hl 0 rfl) ?_
    refine lv_bipush (v := (-2)) hx hb dX7_feed_13 (by decide) ?_
    obtain ⟨r6, hcr6, h⟩ := bd_y h
    refine g_cVI (a := a) (ci := 7) (T := TX7) (N := 37) (av := [.int (-2)]) (rest := []) X hG hS (ct_X7_refuse l z k_a n_a hcr6) mt_X7_refuse ml_X7_106 rfl ⟨rfl, rfl, Nat.le_of_ble_eq_true rfl, Nat.le_of_ble_eq_true rfl⟩ ⟨Nat.le_refl 0, Nat.le_refl 0⟩ (nx_0 n_a) k_a (by decide) rfl hl.1 (Nat.le_of_ble_eq_true rfl) rfl dX7_feed_15 (fun H locs hG hS => ?_)
    obtain rfl := Option.some.inj h
    exact g_iret X hr hlk hG hS dX7_feed_18
set_option maxRecDepth 100000 in
set_option maxHeartbeats 4000000 in
theorem ct_X7_wipe (l : Launch) (z : gZ) {N : Nat} {M : Mem} {a : Nat} {o : Int32 × Mem} (k_a : kd a = 7) (n_a : a + 59 ≤ gn z) (h : fX7_wipe N M a = some o) : CtI l z yX7_wipe cX7_wipe 2 (some .int) { frames := 0, cells := 0, slots := 0, locals := 0 } [.ref (gad z a)] M o.1 o.2 := by
  refine Ct_of rfl (Nat.le_of_ble_eq_true rfl) ?_
  intro p e s m below meth c ls X hr hlk hG hS hl
  have X : gX p m c _ _ s _ RX7 z := X
  have hl : lv_has ls 2 [(0, .ref (gad z a))] := hl
  have hx := X.1
  have hb := X.2.1
  unfold fX7_wipe at h
  refine lv_aload_n hx hb dX7_wipe_0 rfl (lv_at hl 0 rfl) ?_
  refine gf_X7_8 X hG (nx_0 n_a) k_a fl_X7_128 dX7_wipe_1 ?_
  refine lv_topi (fun x1 ex1 => ?_)
  have h := nm_y h x1 ex1
  refine lv_istore_n (lv' := [(1, .int x1), (0, .ref (gad z a))]) hx hb dX7_wipe_4 rfl hl (by decide) rfl (fun ls hl => ?_)
  refine lv_aload_n hx hb dX7_wipe_5 rfl (lv_at hl 1 rfl) ?_
  refine lv_iconst (v := 0) hx hb dX7_wipe_6 (by decide) ?_
  refine pf_X7_8 X hG hS (nx_0 n_a) k_a fl_X7_128 dX7_wipe_7 (fun H locs hG hS => ?_)
  obtain ⟨M2, eM2⟩ : ∃ y, y = sI M a 8 0 := ⟨_, rfl⟩
  rw [← eM2] at hG
  have h := nm_y h M2 eM2
  refine lv_iload_n hx hb dX7_wipe_10 rfl (lv_at hl 0 rfl) ?_
  obtain rfl := Option.some.inj h
  exact g_iret X hr hlk hG hS dX7_wipe_11
set_option maxRecDepth 100000 in
set_option maxHeartbeats 4000000 in
theorem ct_X7_isLetter (l : Launch) (z : gZ) {N : Nat} {M : Mem} {v0 : Int32} {o : Int32}  (h : fX7_isLetter N M v0 = some o) : CtI l z yX7_isLetter cX7_isLetter 1 (some .boolean) { frames := 0, cells := 0, slots := 0, locals := 0 } [.int v0] M o M := by
  refine Ct_of rfl (Nat.le_of_ble_eq_true rfl) ?_
  intro p e s m below meth c ls X hr hlk hG hS hl
  have X : gX p m c _ _ s _ RX7 z := X
  have hl : lv_has ls 1 [(0, .int v0)] := hl
  have hx := X.1
  have hb := X.2.1
  unfold fX7_isLetter at h
  refine lv_iload_n hx hb dX7_isLetter_0 rfl (lv_at hl 0 rfl) ?_
  refine lv_bipush (v := 97) hx hb dX7_isLetter_1 (by decide) ?_
  refine lv_icmp_lt (tgt := 16) hx hb dX7_isLetter_3 (by decide) (fun q1 => ?_) (fun q1 => ?_)
  · have h := ite_y h q1
    refine lv_iconst (v := 0) hx hb dX7_isLetter_16 (by decide) ?_
    obtain rfl := Option.some.inj h
    exact g_zret (zn (Or.inl rfl)) X hr hlk hG hS dX7_isLetter_17
  · have h := ite_n h q1
    refine lv_iload_n hx hb dX7_isLetter_6 rfl (lv_at hl 0 rfl) ?_
    refine lv_bipush (v := 122) hx hb dX7_isLetter_7 (by decide) ?_
    refine lv_icmp_gt (tgt := 16) hx hb dX7_isLetter_9 (by decide) (fun q2 => ?_) (fun q2 => ?_)
    · have h := ite_y h q2
      refine lv_iconst (v := 0) hx hb dX7_isLetter_16 (by decide) ?_
      obtain rfl := Option.some.inj h
      exact g_zret (zn (Or.inl rfl)) X hr hlk hG hS dX7_isLetter_17
    · have h := ite_n h q2
      refine lv_iconst (v := 1) hx hb dX7_isLetter_12 (by decide) ?_
      refine lv_goto (tgt := 17) hx hb dX7_isLetter_13 (by decide) ?_
      obtain rfl := Option.some.inj h
      exact g_zret (zn (Or.inr rfl)) X hr hlk hG hS dX7_isLetter_17
set_option maxRecDepth 100000 in
set_option maxHeartbeats 4000000 in
theorem ct_X7_isDigit (l : Launch) (z : gZ) {N : Nat} {M : Mem} {v0 : Int32} {o : Int32}  (h : fX7_isDigit N M v0 = some o) : CtI l z yX7_isDigit cX7_isDigit 1 (some .boolean) { frames := 0, cells := 0, slots := 0, locals := 0 } [.int v0] M o M := by
  refine Ct_of rfl (Nat.le_of_ble_eq_true rfl) ?_
  intro p e s m below meth c ls X hr hlk hG hS hl
  have X : gX p m c _ _ s _ RX7 z := X
  have hl : lv_has ls 1 [(0, .int v0)] := hl
  have hx := X.1
  have hb := X.2.1
  unfold fX7_isDigit at h
  refine lv_iload_n hx hb dX7_isDigit_0 rfl (lv_at hl 0 rfl) ?_
  refine lv_bipush (v := 48) hx hb dX7_isDigit_1 (by decide) ?_
  refine lv_icmp_lt (tgt := 16) hx hb dX7_isDigit_3 (by decide) (fun q1 => ?_) (fun q1 => ?_)
  · have h := ite_y h q1
    refine lv_iconst (v := 0) hx hb dX7_isDigit_16 (by decide) ?_
    obtain rfl := Option.some.inj h
    exact g_zret (zn (Or.inl rfl)) X hr hlk hG hS dX7_isDigit_17
  · have h := ite_n h q1
    refine lv_iload_n hx hb dX7_isDigit_6 rfl (lv_at hl 0 rfl) ?_
    refine lv_bipush (v := 57) hx hb dX7_isDigit_7 (by decide) ?_
    refine lv_icmp_gt (tgt := 16) hx hb dX7_isDigit_9 (by decide) (fun q2 => ?_) (fun q2 => ?_)
    · have h := ite_y h q2
      refine lv_iconst (v := 0) hx hb dX7_isDigit_16 (by decide) ?_
      obtain rfl := Option.some.inj h
      exact g_zret (zn (Or.inl rfl)) X hr hlk hG hS dX7_isDigit_17
    · have h := ite_n h q2
      refine lv_iconst (v := 1) hx hb dX7_isDigit_12 (by decide) ?_
      refine lv_goto (tgt := 17) hx hb dX7_isDigit_13 (by decide) ?_
      obtain rfl := Option.some.inj h
      exact g_zret (zn (Or.inr rfl)) X hr hlk hG hS dX7_isDigit_17
set_option maxRecDepth 100000 in
set_option maxHeartbeats 4000000 in
theorem wX7_look_149 {N : Nat} {p : Program} {l : Launch} {e : Env} {s : State} {m : MethodId} {args : Array Value} {below : List Frame} {meth : Method} {c : Code} {z : gZ} {a : Nat} {o : Mem} (X : gX p m c cX7_look 1 s args RX7 z) (hr : meth.sig.returnType = none) (hlk : meth.locks = false) (k_a : kd a = 7) (n_a : a + 59 ≤ gn z)  : ∀ (n : Nat) (Mw : Mem) (H : Heap) (locs : List Loc) (ls : Array Slot), fX7_look_149 N a  n Mw = some o → gW z Mw H → va_S (gA z) s.heap H locs → lv_has ls 1 [(0, .ref (gad z a))] → W p l e { frames := 1, cells := 0, slots := 0, locals := 20 } s m args below meth c H locs 0 0 (MQ below (va_Qv (fun (_ : Unit) => True) (fun _ t => gW z o t.heap) (gA z)) args s 0 0 (gA z)) (F0 m 149 ls []) := by
  have hx := X.1
  have hb := X.2.1
  intro n
  induction n with
  | zero => intro Mw H locs ls h; cases h
  | succ n ih =>
    intro Mw H locs ls h hG hS hl
    rw [fX7_look_149] at h
    refine lv_aload_n hx hb dX7_look_149 rfl (lv_at hl 0 rfl) ?_
    refine gf_X7_27 X hG (nx_0 n_a) k_a fl_X7_131 dX7_look_150 ?_
    refine lv_aload_n hx hb dX7_look_153 rfl (lv_at hl 0 rfl) ?_
    refine gf_X7_8 X hG (nx_0 n_a) k_a fl_X7_128 dX7_look_154 ?_
    refine lv_icmp_ge (tgt := 267) hx hb dX7_look_157 (by decide) (fun q1 => ?_) (fun q1 => ?_)
    · have h := ite_y h q1
      obtain rfl := Option.some.inj h
      exact g_vret X hr hlk hG hS dX7_look_267
    · have h := ite_n h q1
      refine lv_aload_n hx hb dX7_look_160 rfl (lv_at hl 0 rfl) ?_
      refine gf_X7_7 X hG (nx_0 n_a) k_a fl_X7_34 dX7_look_161 ?_
      refine lv_aload_n hx hb dX7_look_164 rfl (lv_at hl 0 rfl) ?_
      refine gf_X7_27 X hG (nx_0 n_a) k_a fl_X7_131 dX7_look_165 ?_
      obtain ⟨i2, h⟩ := gd_y h
      refine g_iald X hG (nx_a (a := a) (k := 16) (n := 59) n_a (Nat.le_of_ble_eq_true rfl)) (kx_7_16 k_a) (by decide) i2 dX7_look_168 ?_
      obtain ⟨r3, hcr3, h⟩ := bd_y h
      refine g_cSI (av := [.int (Mw.1 (a + 16) ((Mw.1 a 27) : Int32).toNatClampNeg)]) (rest := []) X hG hS (ct_X7_isDigit l z  hcr3) mt_X7_isDigit ml_X7_147 rfl ⟨rfl, rfl, Nat.le_of_ble_eq_true rfl, Nat.le_of_ble_eq_true rfl⟩ ⟨Nat.le_refl 0, Nat.le_refl 0⟩ hl.1 (Nat.le_of_ble_eq_true rfl) rfl dX7_look_169 (fun H locs hG hS => ?_)
      refine lv_if_eq (tgt := 267) hx hb dX7_look_172 (by decide) (fun q4 => ?_) (fun q4 => ?_)
      · have h := ite_y h q4
        obtain rfl := Option.some.inj h
        exact g_vret X hr hlk hG hS dX7_look_267
      · have h := ite_n h q4
        refine lv_aload_n hx hb dX7_look_175 rfl (lv_at hl 0 rfl) ?_
        refine lv_aload_n hx hb dX7_look_176 rfl (lv_at hl 0 rfl) ?_
        refine gf_X7_27 X hG (nx_0 n_a) k_a fl_X7_131 dX7_look_177 ?_
        refine lv_aload_n hx hb dX7_look_180 rfl (lv_at hl 0 rfl) ?_
        refine gf_X7_29 X hG (nx_0 n_a) k_a fl_X7_134 dX7_look_181 ?_
        refine lv_isub hx hb dX7_look_184 ?_
        refine lv_iconst (v := 3) hx hb dX7_look_185 (by decide) ?_
        refine lv_icmp_ge (tgt := 215) hx hb dX7_look_186 (by decide) (fun q5 => ?_) (fun q5 => ?_)
        · have h := ite_y h q5
          refine lv_ldc2 (v := 100000) hx hb X.2.2.2.1 (X.2.2.2.2.1 _ cn_X7_154) dX7_look_215 ?_
          refine pf_X7_30 X hG hS (nx_0 n_a) k_a fl_X7_137 dX7_look_218 (fun H locs hG hS => ?_)
          obtain ⟨M6, eM6⟩ : ∃ y, y = sJ Mw a 30 100000 := ⟨_, rfl⟩
          rw [← eM6] at hG
          have h := nm_y h M6 eM6
          refine lv_aload_n hx hb dX7_look_221 rfl (lv_at hl 0 rfl) ?_
          refine lv_dup hx hb dX7_look_222 rfl ?_
          refine gf_X7_27 X hG (nx_0 n_a) k_a fl_X7_131 dX7_look_223 ?_
          refine lv_iconst (v := 1) hx hb dX7_look_226 (by decide) ?_
          refine lv_iadd hx hb dX7_look_227 ?_
          refine pf_X7_27 X hG hS (nx_0 n_a) k_a fl_X7_131 dX7_look_228 (fun H locs hG hS => ?_)
          obtain ⟨M7, eM7⟩ : ∃ y, y = sI M6 a 27 ((M6.1 a 27) + 1) := ⟨_, rfl⟩
          rw [← eM7] at hG
          have h := nm_y h M7 eM7
          refine lv_goto (tgt := 149) hx hb dX7_look_231 (by decide) ?_
          exact ih M7  _ _ _ h hG hS (lv_sub hl [0] rfl)
        · have h := ite_n h q5
          refine lv_aload_n hx hb dX7_look_189 rfl (lv_at hl 0 rfl) ?_
          refine gf_X7_30 X hG (nx_0 n_a) k_a fl_X7_137 dX7_look_190 ?_
          refine lv_ldc2 (v := 10) hx hb X.2.2.2.1 (X.2.2.2.2.1 _ cn_X7_150) dX7_look_193 ?_
          refine lv_lmul hx hb dX7_look_196 ?_
          refine lv_aload_n hx hb dX7_look_197 rfl (lv_at hl 0 rfl) ?_
          refine gf_X7_7 X hG (nx_0 n_a) k_a fl_X7_34 dX7_look_198 ?_
          refine lv_aload_n hx hb dX7_look_201 rfl (lv_at hl 0 rfl) ?_
          refine gf_X7_27 X hG (nx_0 n_a) k_a fl_X7_131 dX7_look_202 ?_
          refine g_iald X hG (nx_a (a := a) (k := 16) (n := 59) n_a (Nat.le_of_ble_eq_true rfl)) (kx_7_16 k_a) (by decide) i2 dX7_look_205 ?_
          refine lv_i2l hx hb dX7_look_206 rfl ?_
          refine lv_ladd hx hb dX7_look_207 ?_
          refine lv_ldc2 (v := 48) hx hb X.2.2.2.1 (X.2.2.2.2.1 _ cn_X7_152) dX7_look_208 ?_
          refine lv_lsub hx hb dX7_look_211 ?_
          refine lv_goto (tgt := 218) hx hb dX7_look_212 (by decide) ?_
          refine pf_X7_30 X hG hS (nx_0 n_a) k_a fl_X7_137 dX7_look_218 (fun H locs hG hS => ?_)
          obtain ⟨M8, eM8⟩ : ∃ y, y = sJ Mw a 30 ((((Mw.2 a 30) * 10) + (((Mw.1 (a + 16) ((Mw.1 a 27) : Int32).toNatClampNeg) : Int32).toInt64)) - 48) := ⟨_, rfl⟩
          rw [← eM8] at hG
          have h := nm_y h M8 eM8
          refine lv_aload_n hx hb dX7_look_221 rfl (lv_at hl 0 rfl) ?_
          refine lv_dup hx hb dX7_look_222 rfl ?_
          refine gf_X7_27 X hG (nx_0 n_a) k_a fl_X7_131 dX7_look_223 ?_
          refine lv_iconst (v := 1) hx hb dX7_look_226 (by decide) ?_
          refine lv_iadd hx hb dX7_look_227 ?_
          refine pf_X7_27 X hG hS (nx_0 n_a) k_a fl_X7_131 dX7_look_228 (fun H locs hG hS => ?_)
          obtain ⟨M9, eM9⟩ : ∃ y, y = sI M8 a 27 ((M8.1 a 27) + 1) := ⟨_, rfl⟩
          rw [← eM9] at hG
          have h := nm_y h M9 eM9
          refine lv_goto (tgt := 149) hx hb dX7_look_231 (by decide) ?_
          exact ih M9  _ _ _ h hG hS (lv_sub hl [0] rfl)
set_option maxRecDepth 100000 in
set_option maxHeartbeats 4000000 in
theorem wX7_look_90 {N : Nat} {p : Program} {l : Launch} {e : Env} {s : State} {m : MethodId} {args : Array Value} {below : List Frame} {meth : Method} {c : Code} {z : gZ} {a : Nat} {o : Mem} (X : gX p m c cX7_look 1 s args RX7 z) (hr : meth.sig.returnType = none) (hlk : meth.locks = false) (k_a : kd a = 7) (n_a : a + 59 ≤ gn z)  : ∀ (n : Nat) (Mw : Mem) (H : Heap) (locs : List Loc) (ls : Array Slot), fX7_look_90 N a  n Mw = some o → gW z Mw H → va_S (gA z) s.heap H locs → lv_has ls 1 [(0, .ref (gad z a))] → W p l e { frames := 1, cells := 0, slots := 0, locals := 20 } s m args below meth c H locs 0 0 (MQ below (va_Qv (fun (_ : Unit) => True) (fun _ t => gW z o t.heap) (gA z)) args s 0 0 (gA z)) (F0 m 90 ls []) := by
  have hx := X.1
  have hb := X.2.1
  intro n
  induction n with
  | zero => intro Mw H locs ls h; cases h
  | succ n ih =>
    intro Mw H locs ls h hG hS hl
    rw [fX7_look_90] at h
    refine lv_aload_n hx hb dX7_look_90 rfl (lv_at hl 0 rfl) ?_
    refine gf_X7_27 X hG (nx_0 n_a) k_a fl_X7_131 dX7_look_91 ?_
    refine lv_aload_n hx hb dX7_look_94 rfl (lv_at hl 0 rfl) ?_
    refine gf_X7_8 X hG (nx_0 n_a) k_a fl_X7_128 dX7_look_95 ?_
    refine lv_icmp_ge (tgt := 267) hx hb dX7_look_98 (by decide) (fun q1 => ?_) (fun q1 => ?_)
    · have h := ite_y h q1
      obtain rfl := Option.some.inj h
      exact g_vret X hr hlk hG hS dX7_look_267
    · have h := ite_n h q1
      refine lv_aload_n hx hb dX7_look_101 rfl (lv_at hl 0 rfl) ?_
      refine gf_X7_7 X hG (nx_0 n_a) k_a fl_X7_34 dX7_look_102 ?_
      refine lv_aload_n hx hb dX7_look_105 rfl (lv_at hl 0 rfl) ?_
      refine gf_X7_27 X hG (nx_0 n_a) k_a fl_X7_131 dX7_look_106 ?_
      obtain ⟨i2, h⟩ := gd_y h
      refine g_iald X hG (nx_a (a := a) (k := 16) (n := 59) n_a (Nat.le_of_ble_eq_true rfl)) (kx_7_16 k_a) (by decide) i2 dX7_look_109 ?_
      obtain ⟨r3, hcr3, h⟩ := bd_y h
      refine g_cSI (av := [.int (Mw.1 (a + 16) ((Mw.1 a 27) : Int32).toNatClampNeg)]) (rest := []) X hG hS (ct_X7_isLetter l z  hcr3) mt_X7_isLetter ml_X7_144 rfl ⟨rfl, rfl, Nat.le_of_ble_eq_true rfl, Nat.le_of_ble_eq_true rfl⟩ ⟨Nat.le_refl 0, Nat.le_refl 0⟩ hl.1 (Nat.le_of_ble_eq_true rfl) rfl dX7_look_110 (fun H locs hG hS => ?_)
      refine lv_if_eq (tgt := 267) hx hb dX7_look_113 (by decide) (fun q4 => ?_) (fun q4 => ?_)
      · have h := ite_y h q4
        obtain rfl := Option.some.inj h
        exact g_vret X hr hlk hG hS dX7_look_267
      · have h := ite_n h q4
        refine lv_aload_n hx hb dX7_look_116 rfl (lv_at hl 0 rfl) ?_
        refine lv_dup hx hb dX7_look_117 rfl ?_
        refine gf_X7_27 X hG (nx_0 n_a) k_a fl_X7_131 dX7_look_118 ?_
        refine lv_iconst (v := 1) hx hb dX7_look_121 (by decide) ?_
        refine lv_iadd hx hb dX7_look_122 ?_
        refine pf_X7_27 X hG hS (nx_0 n_a) k_a fl_X7_131 dX7_look_123 (fun H locs hG hS => ?_)
        obtain ⟨M5, eM5⟩ : ∃ y, y = sI Mw a 27 ((Mw.1 a 27) + 1) := ⟨_, rfl⟩
        rw [← eM5] at hG
        have h := nm_y h M5 eM5
        refine lv_goto (tgt := 90) hx hb dX7_look_126 (by decide) ?_
        exact ih M5  _ _ _ h hG hS (lv_sub hl [0] rfl)
set_option maxRecDepth 100000 in
set_option maxHeartbeats 4000000 in
theorem wX7_look_0 {N : Nat} {p : Program} {l : Launch} {e : Env} {s : State} {m : MethodId} {args : Array Value} {below : List Frame} {meth : Method} {c : Code} {z : gZ} {a : Nat} {o : Mem} (X : gX p m c cX7_look 1 s args RX7 z) (hr : meth.sig.returnType = none) (hlk : meth.locks = false) (k_a : kd a = 7) (n_a : a + 59 ≤ gn z)  : ∀ (n : Nat) (Mw : Mem) (H : Heap) (locs : List Loc) (ls : Array Slot), fX7_look_0 N a  n Mw = some o → gW z Mw H → va_S (gA z) s.heap H locs → lv_has ls 1 [(0, .ref (gad z a))] → W p l e { frames := 1, cells := 0, slots := 0, locals := 20 } s m args below meth c H locs 0 0 (MQ below (va_Qv (fun (_ : Unit) => True) (fun _ t => gW z o t.heap) (gA z)) args s 0 0 (gA z)) (F0 m 0 ls []) := by
  have hx := X.1
  have hb := X.2.1
  intro n
  induction n with
  | zero => intro Mw H locs ls h; cases h
  | succ n ih =>
    intro Mw H locs ls h hG hS hl
    rw [fX7_look_0] at h
    refine lv_aload_n hx hb dX7_look_0 rfl (lv_at hl 0 rfl) ?_
    refine gf_X7_27 X hG (nx_0 n_a) k_a fl_X7_131 dX7_look_1 ?_
    refine lv_aload_n hx hb dX7_look_4 rfl (lv_at hl 0 rfl) ?_
    refine gf_X7_8 X hG (nx_0 n_a) k_a fl_X7_128 dX7_look_5 ?_
    refine lv_icmp_ge (tgt := 38) hx hb dX7_look_8 (by decide) (fun q1 => ?_) (fun q1 => ?_)
    · have h := ite_y h q1
      refine lv_aload_n hx hb dX7_look_38 rfl (lv_at hl 0 rfl) ?_
      refine lv_aload_n hx hb dX7_look_39 rfl (lv_at hl 0 rfl) ?_
      refine gf_X7_27 X hG (nx_0 n_a) k_a fl_X7_131 dX7_look_40 ?_
      refine pf_X7_29 X hG hS (nx_0 n_a) k_a fl_X7_134 dX7_look_43 (fun H locs hG hS => ?_)
      obtain ⟨M2, eM2⟩ : ∃ y, y = sI Mw a 29 (Mw.1 a 27) := ⟨_, rfl⟩
      rw [← eM2] at hG
      have h := nm_y h M2 eM2
      refine lv_aload_n hx hb dX7_look_46 rfl (lv_at hl 0 rfl) ?_
      refine lv_lconst (v := 0) hx hb dX7_look_47 (by decide) ?_
      refine pf_X7_30 X hG hS (nx_0 n_a) k_a fl_X7_137 dX7_look_48 (fun H locs hG hS => ?_)
      obtain ⟨M3, eM3⟩ : ∃ y, y = sJ M2 a 30 0 := ⟨_, rfl⟩
      rw [← eM3] at hG
      have h := nm_y h M3 eM3
      refine lv_aload_n hx hb dX7_look_51 rfl (lv_at hl 0 rfl) ?_
      refine gf_X7_27 X hG (nx_0 n_a) k_a fl_X7_131 dX7_look_52 ?_
      refine lv_aload_n hx hb dX7_look_55 rfl (lv_at hl 0 rfl) ?_
      refine gf_X7_8 X hG (nx_0 n_a) k_a fl_X7_128 dX7_look_56 ?_
      refine lv_icmp_ne (tgt := 70) hx hb dX7_look_59 (by decide) (fun q4 => ?_) (fun q4 => ?_)
      · have h := ite_n h q4
        refine lv_aload_n hx hb dX7_look_70 rfl (lv_at hl 0 rfl) ?_
        refine gf_X7_7 X hG (nx_0 n_a) k_a fl_X7_34 dX7_look_71 ?_
        refine lv_aload_n hx hb dX7_look_74 rfl (lv_at hl 0 rfl) ?_
        refine gf_X7_27 X hG (nx_0 n_a) k_a fl_X7_131 dX7_look_75 ?_
        obtain ⟨i5, h⟩ := gd_y h
        refine g_iald X hG (nx_a (a := a) (k := 16) (n := 59) n_a (Nat.le_of_ble_eq_true rfl)) (kx_7_16 k_a) (by decide) i5 dX7_look_78 ?_
        obtain ⟨r6, hcr6, h⟩ := bd_y h
        refine g_cSI (av := [.int (M3.1 (a + 16) ((M3.1 a 27) : Int32).toNatClampNeg)]) (rest := []) X hG hS (ct_X7_isLetter l z  hcr6) mt_X7_isLetter ml_X7_144 rfl ⟨rfl, rfl, Nat.le_of_ble_eq_true rfl, Nat.le_of_ble_eq_true rfl⟩ ⟨Nat.le_refl 0, Nat.le_refl 0⟩ hl.1 (Nat.le_of_ble_eq_true rfl) rfl dX7_look_79 (fun H locs hG hS => ?_)
        refine lv_if_eq (tgt := 129) hx hb dX7_look_82 (by decide) (fun q7 => ?_) (fun q7 => ?_)
        · have h := ite_y h q7
          refine lv_aload_n hx hb dX7_look_129 rfl (lv_at hl 0 rfl) ?_
          refine gf_X7_7 X hG (nx_0 n_a) k_a fl_X7_34 dX7_look_130 ?_
          refine lv_aload_n hx hb dX7_look_133 rfl (lv_at hl 0 rfl) ?_
          refine gf_X7_27 X hG (nx_0 n_a) k_a fl_X7_131 dX7_look_134 ?_
          refine g_iald X hG (nx_a (a := a) (k := 16) (n := 59) n_a (Nat.le_of_ble_eq_true rfl)) (kx_7_16 k_a) (by decide) i5 dX7_look_137 ?_
          obtain ⟨r8, hcr8, h⟩ := bd_y h
          refine g_cSI (av := [.int (M3.1 (a + 16) ((M3.1 a 27) : Int32).toNatClampNeg)]) (rest := []) X hG hS (ct_X7_isDigit l z  hcr8) mt_X7_isDigit ml_X7_147 rfl ⟨rfl, rfl, Nat.le_of_ble_eq_true rfl, Nat.le_of_ble_eq_true rfl⟩ ⟨Nat.le_refl 0, Nat.le_refl 0⟩ hl.1 (Nat.le_of_ble_eq_true rfl) rfl dX7_look_138 (fun H locs hG hS => ?_)
          refine lv_if_eq (tgt := 234) hx hb dX7_look_141 (by decide) (fun q9 => ?_) (fun q9 => ?_)
          · have h := ite_y h q9
            refine lv_aload_n hx hb dX7_look_234 rfl (lv_at hl 0 rfl) ?_
            refine lv_aload_n hx hb dX7_look_235 rfl (lv_at hl 0 rfl) ?_
            refine gf_X7_7 X hG (nx_0 n_a) k_a fl_X7_34 dX7_look_236 ?_
            refine lv_aload_n hx hb dX7_look_239 rfl (lv_at hl 0 rfl) ?_
            refine gf_X7_27 X hG (nx_0 n_a) k_a fl_X7_131 dX7_look_240 ?_
            refine g_iald X hG (nx_a (a := a) (k := 16) (n := 59) n_a (Nat.le_of_ble_eq_true rfl)) (kx_7_16 k_a) (by decide) i5 dX7_look_243 ?_
            refine lv_bipush (v := 59) hx hb dX7_look_244 (by decide) ?_
            refine lv_icmp_ne (tgt := 253) hx hb dX7_look_246 (by decide) (fun q10 => ?_) (fun q10 => ?_)
            · have h := ite_n h q10
              refine lv_iconst (v := 4) hx hb dX7_look_253 (by decide) ?_
              refine pf_X7_28 X hG hS (nx_0 n_a) k_a fl_X7_141 dX7_look_254 (fun H locs hG hS => ?_)
              obtain ⟨M11, eM11⟩ : ∃ y, y = sI M3 a 28 4 := ⟨_, rfl⟩
              rw [← eM11] at hG
              have h := nm_y h M11 eM11
              refine lv_aload_n hx hb dX7_look_257 rfl (lv_at hl 0 rfl) ?_
              refine lv_dup hx hb dX7_look_258 rfl ?_
              refine gf_X7_27 X hG (nx_0 n_a) k_a fl_X7_131 dX7_look_259 ?_
              refine lv_iconst (v := 1) hx hb dX7_look_262 (by decide) ?_
              refine lv_iadd hx hb dX7_look_263 ?_
              refine pf_X7_27 X hG hS (nx_0 n_a) k_a fl_X7_131 dX7_look_264 (fun H locs hG hS => ?_)
              obtain ⟨M12, eM12⟩ : ∃ y, y = sI M11 a 27 ((M11.1 a 27) + 1) := ⟨_, rfl⟩
              rw [← eM12] at hG
              have h := nm_y h M12 eM12
              obtain rfl := Option.some.inj h
              exact g_vret X hr hlk hG hS dX7_look_267
            · have h := ite_y h q10
              refine lv_iconst (v := 3) hx hb dX7_look_249 (by decide) ?_
              refine lv_goto (tgt := 254) hx hb dX7_look_250 (by decide) ?_
              refine pf_X7_28 X hG hS (nx_0 n_a) k_a fl_X7_141 dX7_look_254 (fun H locs hG hS => ?_)
              obtain ⟨M13, eM13⟩ : ∃ y, y = sI M3 a 28 3 := ⟨_, rfl⟩
              rw [← eM13] at hG
              have h := nm_y h M13 eM13
              refine lv_aload_n hx hb dX7_look_257 rfl (lv_at hl 0 rfl) ?_
              refine lv_dup hx hb dX7_look_258 rfl ?_
              refine gf_X7_27 X hG (nx_0 n_a) k_a fl_X7_131 dX7_look_259 ?_
              refine lv_iconst (v := 1) hx hb dX7_look_262 (by decide) ?_
              refine lv_iadd hx hb dX7_look_263 ?_
              refine pf_X7_27 X hG hS (nx_0 n_a) k_a fl_X7_131 dX7_look_264 (fun H locs hG hS => ?_)
              obtain ⟨M14, eM14⟩ : ∃ y, y = sI M13 a 27 ((M13.1 a 27) + 1) := ⟨_, rfl⟩
              rw [← eM14] at hG
              have h := nm_y h M14 eM14
              obtain rfl := Option.some.inj h
              exact g_vret X hr hlk hG hS dX7_look_267
          · have h := ite_n h q9
            refine lv_aload_n hx hb dX7_look_144 rfl (lv_at hl 0 rfl) ?_
            refine lv_iconst (v := 2) hx hb dX7_look_145 (by decide) ?_
            refine pf_X7_28 X hG hS (nx_0 n_a) k_a fl_X7_141 dX7_look_146 (fun H locs hG hS => ?_)
            obtain ⟨M15, eM15⟩ : ∃ y, y = sI M3 a 28 2 := ⟨_, rfl⟩
            rw [← eM15] at hG
            have h := nm_y h M15 eM15
            refine wX7_look_149 X hr hlk k_a n_a _ _ _ _ _ h hG hS (lv_sub hl [0] rfl)
        · have h := ite_n h q7
          refine lv_aload_n hx hb dX7_look_85 rfl (lv_at hl 0 rfl) ?_
          refine lv_iconst (v := 1) hx hb dX7_look_86 (by decide) ?_
          refine pf_X7_28 X hG hS (nx_0 n_a) k_a fl_X7_141 dX7_look_87 (fun H locs hG hS => ?_)
          obtain ⟨M16, eM16⟩ : ∃ y, y = sI M3 a 28 1 := ⟨_, rfl⟩
          rw [← eM16] at hG
          have h := nm_y h M16 eM16
          refine wX7_look_90 X hr hlk k_a n_a _ _ _ _ _ h hG hS (lv_sub hl [0] rfl)
      · have h := ite_y h q4
        refine lv_aload_n hx hb dX7_look_62 rfl (lv_at hl 0 rfl) ?_
        refine lv_iconst (v := 0) hx hb dX7_look_63 (by decide) ?_
        refine pf_X7_28 X hG hS (nx_0 n_a) k_a fl_X7_141 dX7_look_64 (fun H locs hG hS => ?_)
        obtain ⟨M17, eM17⟩ : ∃ y, y = sI M3 a 28 0 := ⟨_, rfl⟩
        rw [← eM17] at hG
        have h := nm_y h M17 eM17
        refine lv_goto (tgt := 267) hx hb dX7_look_67 (by decide) ?_
        obtain rfl := Option.some.inj h
        exact g_vret X hr hlk hG hS dX7_look_267
    · have h := ite_n h q1
      refine lv_aload_n hx hb dX7_look_11 rfl (lv_at hl 0 rfl) ?_
      refine gf_X7_7 X hG (nx_0 n_a) k_a fl_X7_34 dX7_look_12 ?_
      refine lv_aload_n hx hb dX7_look_15 rfl (lv_at hl 0 rfl) ?_
      refine gf_X7_27 X hG (nx_0 n_a) k_a fl_X7_131 dX7_look_16 ?_
      obtain ⟨i18, h⟩ := gd_y h
      refine g_iald X hG (nx_a (a := a) (k := 16) (n := 59) n_a (Nat.le_of_ble_eq_true rfl)) (kx_7_16 k_a) (by decide) i18 dX7_look_19 ?_
      refine lv_bipush (v := 32) hx hb dX7_look_20 (by decide) ?_
      refine lv_icmp_ne (tgt := 38) hx hb dX7_look_22 (by decide) (fun q19 => ?_) (fun q19 => ?_)
      · have h := ite_n h q19
        refine lv_aload_n hx hb dX7_look_38 rfl (lv_at hl 0 rfl) ?_
        refine lv_aload_n hx hb dX7_look_39 rfl (lv_at hl 0 rfl) ?_
        refine gf_X7_27 X hG (nx_0 n_a) k_a fl_X7_131 dX7_look_40 ?_
        refine pf_X7_29 X hG hS (nx_0 n_a) k_a fl_X7_134 dX7_look_43 (fun H locs hG hS => ?_)
        obtain ⟨M20, eM20⟩ : ∃ y, y = sI Mw a 29 (Mw.1 a 27) := ⟨_, rfl⟩
        rw [← eM20] at hG
        have h := nm_y h M20 eM20
        refine lv_aload_n hx hb dX7_look_46 rfl (lv_at hl 0 rfl) ?_
        refine lv_lconst (v := 0) hx hb dX7_look_47 (by decide) ?_
        refine pf_X7_30 X hG hS (nx_0 n_a) k_a fl_X7_137 dX7_look_48 (fun H locs hG hS => ?_)
        obtain ⟨M21, eM21⟩ : ∃ y, y = sJ M20 a 30 0 := ⟨_, rfl⟩
        rw [← eM21] at hG
        have h := nm_y h M21 eM21
        refine lv_aload_n hx hb dX7_look_51 rfl (lv_at hl 0 rfl) ?_
        refine gf_X7_27 X hG (nx_0 n_a) k_a fl_X7_131 dX7_look_52 ?_
        refine lv_aload_n hx hb dX7_look_55 rfl (lv_at hl 0 rfl) ?_
        refine gf_X7_8 X hG (nx_0 n_a) k_a fl_X7_128 dX7_look_56 ?_
        refine lv_icmp_ne (tgt := 70) hx hb dX7_look_59 (by decide) (fun q22 => ?_) (fun q22 => ?_)
        · have h := ite_n h q22
          refine lv_aload_n hx hb dX7_look_70 rfl (lv_at hl 0 rfl) ?_
          refine gf_X7_7 X hG (nx_0 n_a) k_a fl_X7_34 dX7_look_71 ?_
          refine lv_aload_n hx hb dX7_look_74 rfl (lv_at hl 0 rfl) ?_
          refine gf_X7_27 X hG (nx_0 n_a) k_a fl_X7_131 dX7_look_75 ?_
          obtain ⟨i23, h⟩ := gd_y h
          refine g_iald X hG (nx_a (a := a) (k := 16) (n := 59) n_a (Nat.le_of_ble_eq_true rfl)) (kx_7_16 k_a) (by decide) i23 dX7_look_78 ?_
          obtain ⟨r24, hcr24, h⟩ := bd_y h
          refine g_cSI (av := [.int (M21.1 (a + 16) ((M21.1 a 27) : Int32).toNatClampNeg)]) (rest := []) X hG hS (ct_X7_isLetter l z  hcr24) mt_X7_isLetter ml_X7_144 rfl ⟨rfl, rfl, Nat.le_of_ble_eq_true rfl, Nat.le_of_ble_eq_true rfl⟩ ⟨Nat.le_refl 0, Nat.le_refl 0⟩ hl.1 (Nat.le_of_ble_eq_true rfl) rfl dX7_look_79 (fun H locs hG hS => ?_)
          refine lv_if_eq (tgt := 129) hx hb dX7_look_82 (by decide) (fun q25 => ?_) (fun q25 => ?_)
          · have h := ite_y h q25
            refine lv_aload_n hx hb dX7_look_129 rfl (lv_at hl 0 rfl) ?_
            refine gf_X7_7 X hG (nx_0 n_a) k_a fl_X7_34 dX7_look_130 ?_
            refine lv_aload_n hx hb dX7_look_133 rfl (lv_at hl 0 rfl) ?_
            refine gf_X7_27 X hG (nx_0 n_a) k_a fl_X7_131 dX7_look_134 ?_
            refine g_iald X hG (nx_a (a := a) (k := 16) (n := 59) n_a (Nat.le_of_ble_eq_true rfl)) (kx_7_16 k_a) (by decide) i23 dX7_look_137 ?_
            obtain ⟨r26, hcr26, h⟩ := bd_y h
            refine g_cSI (av := [.int (M21.1 (a + 16) ((M21.1 a 27) : Int32).toNatClampNeg)]) (rest := []) X hG hS (ct_X7_isDigit l z  hcr26) mt_X7_isDigit ml_X7_147 rfl ⟨rfl, rfl, Nat.le_of_ble_eq_true rfl, Nat.le_of_ble_eq_true rfl⟩ ⟨Nat.le_refl 0, Nat.le_refl 0⟩ hl.1 (Nat.le_of_ble_eq_true rfl) rfl dX7_look_138 (fun H locs hG hS => ?_)
            refine lv_if_eq (tgt := 234) hx hb dX7_look_141 (by decide) (fun q27 => ?_) (fun q27 => ?_)
            · have h := ite_y h q27
              refine lv_aload_n hx hb dX7_look_234 rfl (lv_at hl 0 rfl) ?_
              refine lv_aload_n hx hb dX7_look_235 rfl (lv_at hl 0 rfl) ?_
              refine gf_X7_7 X hG (nx_0 n_a) k_a fl_X7_34 dX7_look_236 ?_
              refine lv_aload_n hx hb dX7_look_239 rfl (lv_at hl 0 rfl) ?_
              refine gf_X7_27 X hG (nx_0 n_a) k_a fl_X7_131 dX7_look_240 ?_
              refine g_iald X hG (nx_a (a := a) (k := 16) (n := 59) n_a (Nat.le_of_ble_eq_true rfl)) (kx_7_16 k_a) (by decide) i23 dX7_look_243 ?_
              refine lv_bipush (v := 59) hx hb dX7_look_244 (by decide) ?_
              refine lv_icmp_ne (tgt := 253) hx hb dX7_look_246 (by decide) (fun q28 => ?_) (fun q28 => ?_)
              · have h := ite_n h q28
                refine lv_iconst (v := 4) hx hb dX7_look_253 (by decide) ?_
                refine pf_X7_28 X hG hS (nx_0 n_a) k_a fl_X7_141 dX7_look_254 (fun H locs hG hS => ?_)
                obtain ⟨M29, eM29⟩ : ∃ y, y = sI M21 a 28 4 := ⟨_, rfl⟩
                rw [← eM29] at hG
                have h := nm_y h M29 eM29
                refine lv_aload_n hx hb dX7_look_257 rfl (lv_at hl 0 rfl) ?_
                refine lv_dup hx hb dX7_look_258 rfl ?_
                refine gf_X7_27 X hG (nx_0 n_a) k_a fl_X7_131 dX7_look_259 ?_
                refine lv_iconst (v := 1) hx hb dX7_look_262 (by decide) ?_
                refine lv_iadd hx hb dX7_look_263 ?_
                refine pf_X7_27 X hG hS (nx_0 n_a) k_a fl_X7_131 dX7_look_264 (fun H locs hG hS => ?_)
                obtain ⟨M30, eM30⟩ : ∃ y, y = sI M29 a 27 ((M29.1 a 27) + 1) := ⟨_, rfl⟩
                rw [← eM30] at hG
                have h := nm_y h M30 eM30
                obtain rfl := Option.some.inj h
                exact g_vret X hr hlk hG hS dX7_look_267
              · have h := ite_y h q28
                refine lv_iconst (v := 3) hx hb dX7_look_249 (by decide) ?_
                refine lv_goto (tgt := 254) hx hb dX7_look_250 (by decide) ?_
                refine pf_X7_28 X hG hS (nx_0 n_a) k_a fl_X7_141 dX7_look_254 (fun H locs hG hS => ?_)
                obtain ⟨M31, eM31⟩ : ∃ y, y = sI M21 a 28 3 := ⟨_, rfl⟩
                rw [← eM31] at hG
                have h := nm_y h M31 eM31
                refine lv_aload_n hx hb dX7_look_257 rfl (lv_at hl 0 rfl) ?_
                refine lv_dup hx hb dX7_look_258 rfl ?_
                refine gf_X7_27 X hG (nx_0 n_a) k_a fl_X7_131 dX7_look_259 ?_
                refine lv_iconst (v := 1) hx hb dX7_look_262 (by decide) ?_
                refine lv_iadd hx hb dX7_look_263 ?_
                refine pf_X7_27 X hG hS (nx_0 n_a) k_a fl_X7_131 dX7_look_264 (fun H locs hG hS => ?_)
                obtain ⟨M32, eM32⟩ : ∃ y, y = sI M31 a 27 ((M31.1 a 27) + 1) := ⟨_, rfl⟩
                rw [← eM32] at hG
                have h := nm_y h M32 eM32
                obtain rfl := Option.some.inj h
                exact g_vret X hr hlk hG hS dX7_look_267
            · have h := ite_n h q27
              refine lv_aload_n hx hb dX7_look_144 rfl (lv_at hl 0 rfl) ?_
              refine lv_iconst (v := 2) hx hb dX7_look_145 (by decide) ?_
              refine pf_X7_28 X hG hS (nx_0 n_a) k_a fl_X7_141 dX7_look_146 (fun H locs hG hS => ?_)
              obtain ⟨M33, eM33⟩ : ∃ y, y = sI M21 a 28 2 := ⟨_, rfl⟩
              rw [← eM33] at hG
              have h := nm_y h M33 eM33
              refine wX7_look_149 X hr hlk k_a n_a _ _ _ _ _ h hG hS (lv_sub hl [0] rfl)
          · have h := ite_n h q25
            refine lv_aload_n hx hb dX7_look_85 rfl (lv_at hl 0 rfl) ?_
            refine lv_iconst (v := 1) hx hb dX7_look_86 (by decide) ?_
            refine pf_X7_28 X hG hS (nx_0 n_a) k_a fl_X7_141 dX7_look_87 (fun H locs hG hS => ?_)
            obtain ⟨M34, eM34⟩ : ∃ y, y = sI M21 a 28 1 := ⟨_, rfl⟩
            rw [← eM34] at hG
            have h := nm_y h M34 eM34
            refine wX7_look_90 X hr hlk k_a n_a _ _ _ _ _ h hG hS (lv_sub hl [0] rfl)
        · have h := ite_y h q22
          refine lv_aload_n hx hb dX7_look_62 rfl (lv_at hl 0 rfl) ?_
          refine lv_iconst (v := 0) hx hb dX7_look_63 (by decide) ?_
          refine pf_X7_28 X hG hS (nx_0 n_a) k_a fl_X7_141 dX7_look_64 (fun H locs hG hS => ?_)
          obtain ⟨M35, eM35⟩ : ∃ y, y = sI M21 a 28 0 := ⟨_, rfl⟩
          rw [← eM35] at hG
          have h := nm_y h M35 eM35
          refine lv_goto (tgt := 267) hx hb dX7_look_67 (by decide) ?_
          obtain rfl := Option.some.inj h
          exact g_vret X hr hlk hG hS dX7_look_267
      · have h := ite_y h q19
        refine lv_aload_n hx hb dX7_look_25 rfl (lv_at hl 0 rfl) ?_
        refine lv_dup hx hb dX7_look_26 rfl ?_
        refine gf_X7_27 X hG (nx_0 n_a) k_a fl_X7_131 dX7_look_27 ?_
        refine lv_iconst (v := 1) hx hb dX7_look_30 (by decide) ?_
        refine lv_iadd hx hb dX7_look_31 ?_
        refine pf_X7_27 X hG hS (nx_0 n_a) k_a fl_X7_131 dX7_look_32 (fun H locs hG hS => ?_)
        obtain ⟨M36, eM36⟩ : ∃ y, y = sI Mw a 27 ((Mw.1 a 27) + 1) := ⟨_, rfl⟩
        rw [← eM36] at hG
        have h := nm_y h M36 eM36
        refine lv_goto (tgt := 0) hx hb dX7_look_35 (by decide) ?_
        exact ih M36  _ _ _ h hG hS (lv_sub hl [0] rfl)
set_option maxRecDepth 100000 in
set_option maxHeartbeats 4000000 in
theorem ct_X7_look (l : Launch) (z : gZ) {N : Nat} {M : Mem} {a : Nat} {o : Mem} (k_a : kd a = 7) (n_a : a + 59 ≤ gn z) (h : fX7_look N M a = some o) : CtV l z yX7_look cX7_look 1 none { frames := 1, cells := 0, slots := 0, locals := 20 } [.ref (gad z a)] M o := by
  refine Ct_of rfl (Nat.le_of_ble_eq_true rfl) ?_
  intro p e s m below meth c ls X hr hlk hG hS hl
  have X : gX p m c _ _ s _ RX7 z := X
  have hl : lv_has ls 1 [(0, .ref (gad z a))] := hl
  have hx := X.1
  have hb := X.2.1
  unfold fX7_look at h
  refine wX7_look_0 X hr hlk k_a n_a _ _ _ _ _ h hG hS (lv_sub hl [0] rfl)
set_option maxRecDepth 100000 in
set_option maxHeartbeats 4000000 in
theorem ct_X7_wrong (l : Launch) (z : gZ) {N : Nat} {M : Mem} {a : Nat} {o : Int32 × Mem} (k_a : kd a = 7) (n_a : a + 59 ≤ gn z) (h : fX7_wrong N M a = some o) : CtI l z yX7_wrong cX7_wrong 1 (some .boolean) { frames := 0, cells := 0, slots := 0, locals := 0 } [.ref (gad z a)] M o.1 o.2 := by
  refine Ct_of rfl (Nat.le_of_ble_eq_true rfl) ?_
  intro p e s m below meth c ls X hr hlk hG hS hl
  have X : gX p m c _ _ s _ RX7 z := X
  have hl : lv_has ls 1 [(0, .ref (gad z a))] := hl
  have hx := X.1
  have hb := X.2.1
  unfold fX7_wrong at h
  refine lv_aload_n hx hb dX7_wrong_0 rfl (lv_at hl 0 rfl) ?_
  refine lv_aload_n hx hb dX7_wrong_1 rfl (lv_at hl 0 rfl) ?_
  refine gf_X7_29 X hG (nx_0 n_a) k_a fl_X7_134 dX7_wrong_2 ?_
  refine pf_X7_31 X hG hS (nx_0 n_a) k_a fl_X7_156 dX7_wrong_5 (fun H locs hG hS => ?_)
  obtain ⟨M1, eM1⟩ : ∃ y, y = sI M a 31 (M.1 a 29) := ⟨_, rfl⟩
  rw [← eM1] at hG
  have h := nm_y h M1 eM1
  refine lv_iconst (v := 0) hx hb dX7_wrong_8 (by decide) ?_
  obtain rfl := Option.some.inj h
  exact g_zret (zn (Or.inl rfl)) X hr hlk hG hS dX7_wrong_9
set_option maxRecDepth 100000 in
set_option maxHeartbeats 4000000 in
theorem wX7_isWord_28 {N : Nat} {p : Program} {l : Launch} {e : Env} {s : State} {m : MethodId} {args : Array Value} {below : List Frame} {meth : Method} {c : Code} {z : gZ} {M : Mem} {a : Nat} {b1 : Nat} {o : Int32} (X : gX p m c cX7_isWord 3 s args RX7 z) (hr : meth.sig.returnType = (some .boolean)) (hlk : meth.locks = false) (k_a : kd a = 7) (n_a : a + 59 ≤ gn z) (k_b1 : b1 < 10)  : ∀ (n : Nat) (w2 : Int32) (H : Heap) (locs : List Loc) (ls : Array Slot), fX7_isWord_28 N M a b1  n w2 = some o → gW z M H → va_S (gA z) s.heap H locs → lv_has ls 3 [(0, .ref (gad z a)), (1, .ref (gsk z b1)), (2, .int w2)] → W p l e { frames := 4, cells := 0, slots := 0, locals := 85 } s m args below meth c H locs 0 0 (MQ below (va_Qi (fun r' (_ : Unit) => r' = o) (fun _ t => gW z M t.heap) (gA z)) args s 0 0 (gA z)) (F0 m 28 ls []) := by
  have hx := X.1
  have hb := X.2.1
  intro n
  induction n with
  | zero => intro w2 H locs ls h; cases h
  | succ n ih =>
    intro w2 H locs ls h hG hS hl
    rw [fX7_isWord_28] at h
    refine lv_iload_n hx hb dX7_isWord_28 rfl (lv_at hl 2 rfl) ?_
    refine lv_aload_n hx hb dX7_isWord_29 rfl (lv_at hl 1 rfl) ?_
    obtain ⟨r1, hcr1, h⟩ := bd_y h
    refine g_cTI (k := b1) (av := []) (rest := [.int w2]) X hG hS (ct_J0_length_8abf5 l z k_b1 hcr1) mt_J0_length_8abf5 ml_X7_159 rfl ⟨rfl, rfl, Nat.le_of_ble_eq_true rfl, Nat.le_of_ble_eq_true rfl⟩ ⟨Nat.le_refl 0, Nat.le_refl 0⟩ k_b1 rfl hl.1 (Nat.le_of_ble_eq_true rfl) rfl dX7_isWord_30 (fun H locs hG hS => ?_)
    refine lv_icmp_ge (tgt := 63) hx hb dX7_isWord_33 (by decide) (fun q2 => ?_) (fun q2 => ?_)
    · have h := ite_y h q2
      refine lv_iconst (v := 1) hx hb dX7_isWord_63 (by decide) ?_
      obtain rfl := Option.some.inj h
      exact g_zret (zn (Or.inr rfl)) X hr hlk hG hS dX7_isWord_64
    · have h := ite_n h q2
      refine lv_aload_n hx hb dX7_isWord_36 rfl (lv_at hl 0 rfl) ?_
      refine gf_X7_7 X hG (nx_0 n_a) k_a fl_X7_34 dX7_isWord_37 ?_
      refine lv_aload_n hx hb dX7_isWord_40 rfl (lv_at hl 0 rfl) ?_
      refine gf_X7_29 X hG (nx_0 n_a) k_a fl_X7_134 dX7_isWord_41 ?_
      refine lv_iload_n hx hb dX7_isWord_44 rfl (lv_at hl 2 rfl) ?_
      refine lv_iadd hx hb dX7_isWord_45 ?_
      obtain ⟨i3, h⟩ := gd_y h
      refine g_iald X hG (nx_a (a := a) (k := 16) (n := 59) n_a (Nat.le_of_ble_eq_true rfl)) (kx_7_16 k_a) (by decide) i3 dX7_isWord_46 ?_
      refine lv_aload_n hx hb dX7_isWord_47 rfl (lv_at hl 1 rfl) ?_
      refine lv_iload_n hx hb dX7_isWord_48 rfl (lv_at hl 2 rfl) ?_
      obtain ⟨r4, hcr4, h⟩ := bd_y h
      refine g_cTI (k := b1) (av := [.int w2]) (rest := [.int (M.1 (a + 16) (((M.1 a 29) + w2) : Int32).toNatClampNeg)]) X hG hS (ct_J0_charAt_5068e l z k_b1 hcr4) mt_J0_charAt_5068e ml_X7_165 rfl ⟨rfl, rfl, Nat.le_of_ble_eq_true rfl, Nat.le_of_ble_eq_true rfl⟩ ⟨Nat.le_refl 0, Nat.le_refl 0⟩ k_b1 rfl hl.1 (Nat.le_of_ble_eq_true rfl) rfl dX7_isWord_49 (fun H locs hG hS => ?_)
      refine lv_icmp_eq (tgt := 57) hx hb dX7_isWord_52 (by decide) (fun q5 => ?_) (fun q5 => ?_)
      · have h := ite_y h q5
        refine lv_iinc (v := (w2 + 1)) (lv' := [(2, .int (w2 + 1)), (0, .ref (gad z a)), (1, .ref (gsk z b1))]) hx hb dX7_isWord_57 hl (k := 2) rfl rfl (by decide) rfl (fun ls hl => ?_)
        refine lv_goto (tgt := 28) hx hb dX7_isWord_60 (by decide) ?_
        exact ih (w2 + 1) _ _ _ h hG hS (lv_sub hl [1, 2, 0] rfl)
      · have h := ite_n h q5
        refine lv_iconst (v := 0) hx hb dX7_isWord_55 (by decide) ?_
        obtain rfl := Option.some.inj h
        exact g_zret (zn (Or.inl rfl)) X hr hlk hG hS dX7_isWord_56
set_option maxRecDepth 100000 in
set_option maxHeartbeats 4000000 in
theorem ct_X7_isWord (l : Launch) (z : gZ) {N : Nat} {M : Mem} {a : Nat} {b1 : Nat} {o : Int32} (k_a : kd a = 7) (n_a : a + 59 ≤ gn z) (k_b1 : b1 < 10) (h : fX7_isWord N M a b1 = some o) : CtI l z yX7_isWord cX7_isWord 3 (some .boolean) { frames := 4, cells := 0, slots := 0, locals := 85 } [.ref (gad z a), .ref (gsk z b1)] M o M := by
  refine Ct_of rfl (Nat.le_of_ble_eq_true rfl) ?_
  intro p e s m below meth c ls X hr hlk hG hS hl
  have X : gX p m c _ _ s _ RX7 z := X
  have hl : lv_has ls 3 [(0, .ref (gad z a)), (1, .ref (gsk z b1))] := hl
  have hx := X.1
  have hb := X.2.1
  unfold fX7_isWord at h
  refine lv_aload_n hx hb dX7_isWord_0 rfl (lv_at hl 0 rfl) ?_
  refine gf_X7_28 X hG (nx_0 n_a) k_a fl_X7_141 dX7_isWord_1 ?_
  refine lv_iconst (v := 1) hx hb dX7_isWord_4 (by decide) ?_
  refine lv_icmp_ne (tgt := 24) hx hb dX7_isWord_5 (by decide) (fun q1 => ?_) (fun q1 => ?_)
  · have h := ite_n h q1
    refine lv_iconst (v := 0) hx hb dX7_isWord_24 (by decide) ?_
    obtain rfl := Option.some.inj h
    exact g_zret (zn (Or.inl rfl)) X hr hlk hG hS dX7_isWord_25
  · have h := ite_y h q1
    refine lv_aload_n hx hb dX7_isWord_8 rfl (lv_at hl 0 rfl) ?_
    refine gf_X7_27 X hG (nx_0 n_a) k_a fl_X7_131 dX7_isWord_9 ?_
    refine lv_aload_n hx hb dX7_isWord_12 rfl (lv_at hl 0 rfl) ?_
    refine gf_X7_29 X hG (nx_0 n_a) k_a fl_X7_134 dX7_isWord_13 ?_
    refine lv_isub hx hb dX7_isWord_16 ?_
    refine lv_aload_n hx hb dX7_isWord_17 rfl (lv_at hl 1 rfl) ?_
    obtain ⟨r2, hcr2, h⟩ := bd_y h
    refine g_cTI (k := b1) (av := []) (rest := [.int ((M.1 a 27) - (M.1 a 29))]) X hG hS (ct_J0_length_8abf5 l z k_b1 hcr2) mt_J0_length_8abf5 ml_X7_159 rfl ⟨rfl, rfl, Nat.le_of_ble_eq_true rfl, Nat.le_of_ble_eq_true rfl⟩ ⟨Nat.le_refl 0, Nat.le_refl 0⟩ k_b1 rfl hl.1 (Nat.le_of_ble_eq_true rfl) rfl dX7_isWord_18 (fun H locs hG hS => ?_)
    refine lv_icmp_eq (tgt := 26) hx hb dX7_isWord_21 (by decide) (fun q3 => ?_) (fun q3 => ?_)
    · have h := ite_y h q3
      refine lv_iconst (v := 0) hx hb dX7_isWord_26 (by decide) ?_
      refine lv_istore_n (lv' := [(2, .int 0), (0, .ref (gad z a)), (1, .ref (gsk z b1))]) hx hb dX7_isWord_27 rfl hl (by decide) rfl (fun ls hl => ?_)
      refine wX7_isWord_28 X hr hlk k_a n_a k_b1 _ _ _ _ _ h hG hS (lv_sub hl [1, 2, 0] rfl)
    · have h := ite_n h q3
      refine lv_iconst (v := 0) hx hb dX7_isWord_24 (by decide) ?_
      obtain rfl := Option.some.inj h
      exact g_zret (zn (Or.inl rfl)) X hr hlk hG hS dX7_isWord_25
set_option maxRecDepth 100000 in
set_option maxHeartbeats 4000000 in
theorem ct_X7_word (l : Launch) (z : gZ) {N : Nat} {M : Mem} {a : Nat} {b1 : Nat} {o : Int32 × Mem} (k_a : kd a = 7) (n_a : a + 59 ≤ gn z) (k_b1 : b1 < 10) (h : fX7_word N M a b1 = some o) : CtI l z yX7_word cX7_word 2 (some .boolean) { frames := 5, cells := 0, slots := 0, locals := 107 } [.ref (gad z a), .ref (gsk z b1)] M o.1 o.2 := by
  refine Ct_of rfl (Nat.le_of_ble_eq_true rfl) ?_
  intro p e s m below meth c ls X hr hlk hG hS hl
  have X : gX p m c _ _ s _ RX7 z := X
  have hl : lv_has ls 2 [(0, .ref (gad z a)), (1, .ref (gsk z b1))] := hl
  have hx := X.1
  have hb := X.2.1
  unfold fX7_word at h
  refine lv_aload_n hx hb dX7_word_0 rfl (lv_at hl 0 rfl) ?_
  refine lv_aload_n hx hb dX7_word_1 rfl (lv_at hl 1 rfl) ?_
  obtain ⟨r1, hcr1, h⟩ := bd_y h
  refine g_cVI (a := a) (ci := 7) (T := TX7) (N := 37) (av := [.ref (gsk z b1)]) (rest := []) X hG hS (ct_X7_isWord l z k_a n_a k_b1 hcr1) mt_X7_isWord ml_X7_169 rfl ⟨rfl, rfl, Nat.le_of_ble_eq_true rfl, Nat.le_of_ble_eq_true rfl⟩ ⟨Nat.le_refl 0, Nat.le_refl 0⟩ (nx_0 n_a) k_a (by decide) rfl hl.1 (Nat.le_of_ble_eq_true rfl) rfl dX7_word_2 (fun H locs hG hS => ?_)
  refine lv_if_ne (tgt := 13) hx hb dX7_word_5 (by decide) (fun q2 => ?_) (fun q2 => ?_)
  · have h := ite_n h q2
    refine lv_aload_n hx hb dX7_word_13 rfl (lv_at hl 0 rfl) ?_
    obtain ⟨r3, hcr3, h⟩ := bd_y h
    refine g_cVV (a := a) (ci := 7) (T := TX7) (N := 37) (av := []) (rest := []) X hG hS (ct_X7_look l z k_a n_a hcr3) mt_X7_look ml_X7_177 rfl ⟨rfl, rfl, Nat.le_of_ble_eq_true rfl, Nat.le_of_ble_eq_true rfl⟩ ⟨Nat.le_refl 0, Nat.le_refl 0⟩ (nx_0 n_a) k_a (by decide) rfl hl.1 (Nat.le_of_ble_eq_true rfl) rfl dX7_word_14 (fun H locs hG hS => ?_)
    refine lv_iconst (v := 1) hx hb dX7_word_17 (by decide) ?_
    obtain rfl := Option.some.inj h
    exact g_zret (zn (Or.inr rfl)) X hr hlk hG hS dX7_word_18
  · have h := ite_y h q2
    refine lv_aload_n hx hb dX7_word_8 rfl (lv_at hl 0 rfl) ?_
    obtain ⟨r4, hcr4, h⟩ := bd_y h
    refine g_cVI (a := a) (ci := 7) (T := TX7) (N := 37) (av := []) (rest := []) X hG hS (ct_X7_wrong l z k_a n_a hcr4) mt_X7_wrong ml_X7_173 rfl ⟨rfl, rfl, Nat.le_of_ble_eq_true rfl, Nat.le_of_ble_eq_true rfl⟩ ⟨Nat.le_refl 0, Nat.le_refl 0⟩ (nx_0 n_a) k_a (by decide) rfl hl.1 (Nat.le_of_ble_eq_true rfl) rfl dX7_word_9 (fun H locs hG hS => ?_)
    obtain ⟨q5, h⟩ := gc_y h
    obtain rfl := Option.some.inj h
    exact g_zret (zn q5) X hr hlk hG hS dX7_word_12
set_option maxRecDepth 100000 in
set_option maxHeartbeats 4000000 in
theorem ct_X7_number (l : Launch) (z : gZ) {N : Nat} {M : Mem} {a : Nat} {v1 : Int32} {v2 : Int32} {o : Int32 × Mem} (k_a : kd a = 7) (n_a : a + 59 ≤ gn z) (h : fX7_number N M a v1 v2 = some o) : CtI l z yX7_number cX7_number 3 (some .boolean) { frames := 2, cells := 0, slots := 0, locals := 40 } [.ref (gad z a), .int v1, .int v2] M o.1 o.2 := by
  refine Ct_of rfl (Nat.le_of_ble_eq_true rfl) ?_
  intro p e s m below meth c ls X hr hlk hG hS hl
  have X : gX p m c _ _ s _ RX7 z := X
  have hl : lv_has ls 3 [(0, .ref (gad z a)), (1, .int v1), (2, .int v2)] := hl
  have hx := X.1
  have hb := X.2.1
  unfold fX7_number at h
  refine lv_aload_n hx hb dX7_number_0 rfl (lv_at hl 0 rfl) ?_
  refine gf_X7_28 X hG (nx_0 n_a) k_a fl_X7_141 dX7_number_1 ?_
  refine lv_iconst (v := 2) hx hb dX7_number_4 (by decide) ?_
  refine lv_icmp_ne (tgt := 22) hx hb dX7_number_5 (by decide) (fun q1 => ?_) (fun q1 => ?_)
  · have h := ite_n h q1
    refine lv_aload_n hx hb dX7_number_22 rfl (lv_at hl 0 rfl) ?_
    obtain ⟨r2, hcr2, h⟩ := bd_y h
    refine g_cVI (a := a) (ci := 7) (T := TX7) (N := 37) (av := []) (rest := []) X hG hS (ct_X7_wrong l z k_a n_a hcr2) mt_X7_wrong ml_X7_173 rfl ⟨rfl, rfl, Nat.le_of_ble_eq_true rfl, Nat.le_of_ble_eq_true rfl⟩ ⟨Nat.le_refl 0, Nat.le_refl 0⟩ (nx_0 n_a) k_a (by decide) rfl hl.1 (Nat.le_of_ble_eq_true rfl) rfl dX7_number_23 (fun H locs hG hS => ?_)
    obtain ⟨q3, h⟩ := gc_y h
    obtain rfl := Option.some.inj h
    exact g_zret (zn q3) X hr hlk hG hS dX7_number_26
  · have h := ite_y h q1
    refine lv_aload_n hx hb dX7_number_8 rfl (lv_at hl 0 rfl) ?_
    refine gf_X7_30 X hG (nx_0 n_a) k_a fl_X7_137 dX7_number_9 ?_
    refine lv_iload_n hx hb dX7_number_12 rfl (lv_at hl 1 rfl) ?_
    refine lv_i2l hx hb dX7_number_13 rfl ?_
    refine lv_iload_n hx hb dX7_number_14 rfl (lv_at hl 2 rfl) ?_
    refine lv_i2l hx hb dX7_number_15 rfl ?_
    obtain ⟨r4, hcr4, h⟩ := bd_y h
    refine g_cSI (av := [.long (M.2 a 30), .long ((v1 : Int32).toInt64), .long ((v2 : Int32).toInt64)]) (rest := []) X hG hS (ct_X7_in l z  hcr4) mt_X7_in ml_X7_88 rfl ⟨rfl, rfl, Nat.le_of_ble_eq_true rfl, Nat.le_of_ble_eq_true rfl⟩ ⟨Nat.le_refl 0, Nat.le_refl 0⟩ hl.1 (Nat.le_of_ble_eq_true rfl) rfl dX7_number_16 (fun H locs hG hS => ?_)
    refine lv_if_ne (tgt := 27) hx hb dX7_number_19 (by decide) (fun q5 => ?_) (fun q5 => ?_)
    · have h := ite_n h q5
      refine lv_aload_n hx hb dX7_number_27 rfl (lv_at hl 0 rfl) ?_
      refine lv_aload_n hx hb dX7_number_28 rfl (lv_at hl 0 rfl) ?_
      refine gf_X7_30 X hG (nx_0 n_a) k_a fl_X7_137 dX7_number_29 ?_
      refine lv_l2i hx hb dX7_number_32 rfl ?_
      refine pf_X7_32 X hG hS (nx_0 n_a) k_a fl_X7_180 dX7_number_33 (fun H locs hG hS => ?_)
      obtain ⟨M6, eM6⟩ : ∃ y, y = sI M a 32 (((M.2 a 30) : Int64).toInt32) := ⟨_, rfl⟩
      rw [← eM6] at hG
      have h := nm_y h M6 eM6
      refine lv_aload_n hx hb dX7_number_36 rfl (lv_at hl 0 rfl) ?_
      obtain ⟨r7, hcr7, h⟩ := bd_y h
      refine g_cVV (a := a) (ci := 7) (T := TX7) (N := 37) (av := []) (rest := []) X hG hS (ct_X7_look l z k_a n_a hcr7) mt_X7_look ml_X7_177 rfl ⟨rfl, rfl, Nat.le_of_ble_eq_true rfl, Nat.le_of_ble_eq_true rfl⟩ ⟨Nat.le_refl 0, Nat.le_refl 0⟩ (nx_0 n_a) k_a (by decide) rfl hl.1 (Nat.le_of_ble_eq_true rfl) rfl dX7_number_37 (fun H locs hG hS => ?_)
      refine lv_iconst (v := 1) hx hb dX7_number_40 (by decide) ?_
      obtain rfl := Option.some.inj h
      exact g_zret (zn (Or.inr rfl)) X hr hlk hG hS dX7_number_41
    · have h := ite_y h q5
      refine lv_aload_n hx hb dX7_number_22 rfl (lv_at hl 0 rfl) ?_
      obtain ⟨r8, hcr8, h⟩ := bd_y h
      refine g_cVI (a := a) (ci := 7) (T := TX7) (N := 37) (av := []) (rest := []) X hG hS (ct_X7_wrong l z k_a n_a hcr8) mt_X7_wrong ml_X7_173 rfl ⟨rfl, rfl, Nat.le_of_ble_eq_true rfl, Nat.le_of_ble_eq_true rfl⟩ ⟨Nat.le_refl 0, Nat.le_refl 0⟩ (nx_0 n_a) k_a (by decide) rfl hl.1 (Nat.le_of_ble_eq_true rfl) rfl dX7_number_23 (fun H locs hG hS => ?_)
      obtain ⟨q9, h⟩ := gc_y h
      obtain rfl := Option.some.inj h
      exact g_zret (zn q9) X hr hlk hG hS dX7_number_26
set_option maxRecDepth 100000 in
set_option maxHeartbeats 4000000 in
theorem ct_X7_tieThem (l : Launch) (z : gZ) {N : Nat} {M : Mem} {a : Nat} {v1 : Int32} {v2 : Int32} {v3 : Int32} {v4 : Int32} {o : Mem} (k_a : kd a = 7) (n_a : a + 59 ≤ gn z) (h : fX7_tieThem N M a v1 v2 v3 v4 = some o) : CtV l z yX7_tieThem cX7_tieThem 5 none { frames := 0, cells := 0, slots := 0, locals := 0 } [.ref (gad z a), .int v1, .int v2, .int v3, .int v4] M o := by
  refine Ct_of rfl (Nat.le_of_ble_eq_true rfl) ?_
  intro p e s m below meth c ls X hr hlk hG hS hl
  have X : gX p m c _ _ s _ RX7 z := X
  have hl : lv_has ls 5 [(0, .ref (gad z a)), (1, .int v1), (2, .int v2), (3, .int v3), (4, .int v4)] := hl
  have hx := X.1
  have hb := X.2.1
  unfold fX7_tieThem at h
  refine lv_aload_n hx hb dX7_tieThem_0 rfl (lv_at hl 0 rfl) ?_
  refine gf_X7_16 X hG (nx_0 n_a) k_a fl_X7_57 dX7_tieThem_1 ?_
  refine lv_iload_n hx hb dX7_tieThem_4 rfl (lv_at hl 1 rfl) ?_
  obtain ⟨i1, h⟩ := gd_y h
  refine g_aldII X hG (nx_a (a := a) (k := 33) (n := 59) n_a (Nat.le_of_ble_eq_true rfl)) (kx_7_33 k_a) (by decide) i1 dX7_tieThem_5 ?_
  refine lv_iload_n hx hb dX7_tieThem_6 rfl (lv_at hl 2 rfl) ?_
  refine lv_dup2_11 hx hb dX7_tieThem_7 rfl rfl ?_
  obtain ⟨i2, h⟩ := gd_y h
  refine g_iald X hG (nE n_a i1 (Nat.le_of_ble_eq_true rfl)) (ke_7_33 k_a i1) (by decide) i2 dX7_tieThem_8 ?_
  refine lv_iconst (v := 1) hx hb dX7_tieThem_9 (by decide) ?_
  refine lv_iload_n hx hb dX7_tieThem_10 rfl (lv_at hl 3 rfl) ?_
  refine lv_ishl hx hb dX7_tieThem_11 ?_
  refine lv_ior hx hb dX7_tieThem_12 ?_
  refine g_iast X hG hS (nE n_a i1 (Nat.le_of_ble_eq_true rfl)) (ke_7_33 k_a i1) (by decide) i2 dX7_tieThem_13 (fun H locs hG hS => ?_)
  obtain ⟨M3, eM3⟩ : ∃ y, y = sI M ((a + 33) + 1 + (v1 : Int32).toNatClampNeg) (v2 : Int32).toNatClampNeg ((M.1 ((a + 33) + 1 + (v1 : Int32).toNatClampNeg) (v2 : Int32).toNatClampNeg) ||| (1 <<< (v3 &&& 31))) := ⟨_, rfl⟩
  rw [← eM3] at hG
  have h := nm_y h M3 eM3
  refine lv_aload_n hx hb dX7_tieThem_14 rfl (lv_at hl 0 rfl) ?_
  refine gf_X7_16 X hG (nx_0 n_a) k_a fl_X7_57 dX7_tieThem_15 ?_
  refine lv_iload_n hx hb dX7_tieThem_18 rfl (lv_at hl 1 rfl) ?_
  refine g_aldII X hG (nx_a (a := a) (k := 33) (n := 59) n_a (Nat.le_of_ble_eq_true rfl)) (kx_7_33 k_a) (by decide) i1 dX7_tieThem_19 ?_
  refine lv_iload_n hx hb dX7_tieThem_20 rfl (lv_at hl 3 rfl) ?_
  refine lv_dup2_11 hx hb dX7_tieThem_21 rfl rfl ?_
  obtain ⟨i4, h⟩ := gd_y h
  refine g_iald X hG (nE n_a i1 (Nat.le_of_ble_eq_true rfl)) (ke_7_33 k_a i1) (by decide) i4 dX7_tieThem_22 ?_
  refine lv_iconst (v := 1) hx hb dX7_tieThem_23 (by decide) ?_
  refine lv_iload_n hx hb dX7_tieThem_24 rfl (lv_at hl 2 rfl) ?_
  refine lv_ishl hx hb dX7_tieThem_25 ?_
  refine lv_ior hx hb dX7_tieThem_26 ?_
  refine g_iast X hG hS (nE n_a i1 (Nat.le_of_ble_eq_true rfl)) (ke_7_33 k_a i1) (by decide) i4 dX7_tieThem_27 (fun H locs hG hS => ?_)
  obtain ⟨M5, eM5⟩ : ∃ y, y = sI M3 ((a + 33) + 1 + (v1 : Int32).toNatClampNeg) (v3 : Int32).toNatClampNeg ((M3.1 ((a + 33) + 1 + (v1 : Int32).toNatClampNeg) (v3 : Int32).toNatClampNeg) ||| (1 <<< (v2 &&& 31))) := ⟨_, rfl⟩
  rw [← eM5] at hG
  have h := nm_y h M5 eM5
  refine lv_aload_n hx hb dX7_tieThem_28 rfl (lv_at hl 0 rfl) ?_
  refine gf_X7_17 X hG (nx_0 n_a) k_a fl_X7_60 dX7_tieThem_29 ?_
  refine lv_iload_n hx hb dX7_tieThem_32 rfl (lv_at hl 1 rfl) ?_
  refine g_aldII X hG (nx_a (a := a) (k := 39) (n := 59) n_a (Nat.le_of_ble_eq_true rfl)) (kx_7_39 k_a) (by decide) i1 dX7_tieThem_33 ?_
  refine lv_iload_n hx hb dX7_tieThem_34 rfl (lv_at hl 2 rfl) ?_
  refine lv_bipush (v := 12) hx hb dX7_tieThem_35 (by decide) ?_
  refine lv_imul hx hb dX7_tieThem_37 ?_
  refine lv_iload_n hx hb dX7_tieThem_38 rfl (lv_at hl 3 rfl) ?_
  refine lv_iadd hx hb dX7_tieThem_39 ?_
  refine lv_iload hx hb dX7_tieThem_40 (lv_at hl 4 rfl) ?_
  obtain ⟨i6, h⟩ := gd_y h
  refine g_iast X hG hS (nE n_a i1 (Nat.le_of_ble_eq_true rfl)) (ke_7_39 k_a i1) (by decide) i6 dX7_tieThem_42 (fun H locs hG hS => ?_)
  obtain ⟨M7, eM7⟩ : ∃ y, y = sI M5 ((a + 39) + 1 + (v1 : Int32).toNatClampNeg) (((v2 * 12) + v3) : Int32).toNatClampNeg v4 := ⟨_, rfl⟩
  rw [← eM7] at hG
  have h := nm_y h M7 eM7
  refine lv_aload_n hx hb dX7_tieThem_43 rfl (lv_at hl 0 rfl) ?_
  refine gf_X7_17 X hG (nx_0 n_a) k_a fl_X7_60 dX7_tieThem_44 ?_
  refine lv_iload_n hx hb dX7_tieThem_47 rfl (lv_at hl 1 rfl) ?_
  refine g_aldII X hG (nx_a (a := a) (k := 39) (n := 59) n_a (Nat.le_of_ble_eq_true rfl)) (kx_7_39 k_a) (by decide) i1 dX7_tieThem_48 ?_
  refine lv_iload_n hx hb dX7_tieThem_49 rfl (lv_at hl 3 rfl) ?_
  refine lv_bipush (v := 12) hx hb dX7_tieThem_50 (by decide) ?_
  refine lv_imul hx hb dX7_tieThem_52 ?_
  refine lv_iload_n hx hb dX7_tieThem_53 rfl (lv_at hl 2 rfl) ?_
  refine lv_iadd hx hb dX7_tieThem_54 ?_
  refine lv_iload hx hb dX7_tieThem_55 (lv_at hl 4 rfl) ?_
  obtain ⟨i8, h⟩ := gd_y h
  refine g_iast X hG hS (nE n_a i1 (Nat.le_of_ble_eq_true rfl)) (ke_7_39 k_a i1) (by decide) i8 dX7_tieThem_57 (fun H locs hG hS => ?_)
  obtain ⟨M9, eM9⟩ : ∃ y, y = sI M7 ((a + 39) + 1 + (v1 : Int32).toNatClampNeg) (((v3 * 12) + v2) : Int32).toNatClampNeg v4 := ⟨_, rfl⟩
  rw [← eM9] at hG
  have h := nm_y h M9 eM9
  obtain rfl := Option.some.inj h
  exact g_vret X hr hlk hG hS dX7_tieThem_58
set_option maxRecDepth 100000 in
set_option maxHeartbeats 4000000 in
theorem ct_X7_tieNew (l : Launch) (z : gZ) {N : Nat} {M : Mem} {a : Nat} {v1 : Int32} {v2 : Int32} {v3 : Int32} {o : Mem} (k_a : kd a = 7) (n_a : a + 59 ≤ gn z) (h : fX7_tieNew N M a v1 v2 v3 = some o) : CtV l z yX7_tieNew cX7_tieNew 4 none { frames := 1, cells := 0, slots := 0, locals := 24 } [.ref (gad z a), .int v1, .int v2, .int v3] M o := by
  refine Ct_of rfl (Nat.le_of_ble_eq_true rfl) ?_
  intro p e s m below meth c ls X hr hlk hG hS hl
  have X : gX p m c _ _ s _ RX7 z := X
  have hl : lv_has ls 4 [(0, .ref (gad z a)), (1, .int v1), (2, .int v2), (3, .int v3)] := hl
  have hx := X.1
  have hb := X.2.1
  unfold fX7_tieNew at h
  refine lv_iload_n hx hb dX7_tieNew_0 rfl (lv_at hl 2 rfl) ?_
  refine lv_iload_n hx hb dX7_tieNew_1 rfl (lv_at hl 3 rfl) ?_
  refine lv_icmp_eq (tgt := 28) hx hb dX7_tieNew_2 (by decide) (fun q1 => ?_) (fun q1 => ?_)
  · have h := ite_y h q1
    obtain rfl := Option.some.inj h
    exact g_vret X hr hlk hG hS dX7_tieNew_28
  · have h := ite_n h q1
    refine lv_aload_n hx hb dX7_tieNew_5 rfl (lv_at hl 0 rfl) ?_
    refine gf_X7_16 X hG (nx_0 n_a) k_a fl_X7_57 dX7_tieNew_6 ?_
    refine lv_iload_n hx hb dX7_tieNew_9 rfl (lv_at hl 1 rfl) ?_
    obtain ⟨i2, h⟩ := gd_y h
    refine g_aldII X hG (nx_a (a := a) (k := 33) (n := 59) n_a (Nat.le_of_ble_eq_true rfl)) (kx_7_33 k_a) (by decide) i2 dX7_tieNew_10 ?_
    refine lv_iload_n hx hb dX7_tieNew_11 rfl (lv_at hl 2 rfl) ?_
    obtain ⟨i3, h⟩ := gd_y h
    refine g_iald X hG (nE n_a i2 (Nat.le_of_ble_eq_true rfl)) (ke_7_33 k_a i2) (by decide) i3 dX7_tieNew_12 ?_
    refine lv_iload_n hx hb dX7_tieNew_13 rfl (lv_at hl 3 rfl) ?_
    refine lv_ishr hx hb dX7_tieNew_14 ?_
    refine lv_iconst (v := 1) hx hb dX7_tieNew_15 (by decide) ?_
    refine lv_iand hx hb dX7_tieNew_16 ?_
    refine lv_if_ne (tgt := 28) hx hb dX7_tieNew_17 (by decide) (fun q4 => ?_) (fun q4 => ?_)
    · have h := ite_n h q4
      obtain rfl := Option.some.inj h
      exact g_vret X hr hlk hG hS dX7_tieNew_28
    · have h := ite_y h q4
      refine lv_aload_n hx hb dX7_tieNew_20 rfl (lv_at hl 0 rfl) ?_
      refine lv_iload_n hx hb dX7_tieNew_21 rfl (lv_at hl 1 rfl) ?_
      refine lv_iload_n hx hb dX7_tieNew_22 rfl (lv_at hl 2 rfl) ?_
      refine lv_iload_n hx hb dX7_tieNew_23 rfl (lv_at hl 3 rfl) ?_
      refine lv_iconst (v := 0) hx hb dX7_tieNew_24 (by decide) ?_
      obtain ⟨r5, hcr5, h⟩ := bd_y h
      refine g_cVV (a := a) (ci := 7) (T := TX7) (N := 37) (av := [.int v1, .int v2, .int v3, .int 0]) (rest := []) X hG hS (ct_X7_tieThem l z k_a n_a hcr5) mt_X7_tieThem ml_X7_183 rfl ⟨rfl, rfl, Nat.le_of_ble_eq_true rfl, Nat.le_of_ble_eq_true rfl⟩ ⟨Nat.le_refl 0, Nat.le_refl 0⟩ (nx_0 n_a) k_a (by decide) rfl hl.1 (Nat.le_of_ble_eq_true rfl) rfl dX7_tieNew_25 (fun H locs hG hS => ?_)
      obtain rfl := Option.some.inj h
      exact g_vret X hr hlk hG hS dX7_tieNew_28
set_option maxRecDepth 100000 in
set_option maxHeartbeats 4000000 in
theorem ct_X7_tieTold (l : Launch) (z : gZ) {N : Nat} {M : Mem} {a : Nat} {v1 : Int32} {v2 : Int32} {o : Int32 × Mem} (k_a : kd a = 7) (n_a : a + 59 ≤ gn z) (h : fX7_tieTold N M a v1 v2 = some o) : CtI l z yX7_tieTold cX7_tieTold 6 (some .boolean) { frames := 5, cells := 0, slots := 0, locals := 107 } [.ref (gad z a), .int v1, .int v2] M o.1 o.2 := by
  refine Ct_of rfl (Nat.le_of_ble_eq_true rfl) ?_
  intro p e s m below meth c ls X hr hlk hG hS hl
  have X : gX p m c _ _ s _ RX7 z := X
  have hl : lv_has ls 6 [(0, .ref (gad z a)), (1, .int v1), (2, .int v2)] := hl
  have hx := X.1
  have hb := X.2.1
  unfold fX7_tieTold at h
  refine lv_aload_n hx hb dX7_tieTold_0 rfl (lv_at hl 0 rfl) ?_
  obtain ⟨r1, hcr1, h⟩ := bd_y h
  refine g_cVV (a := a) (ci := 7) (T := TX7) (N := 37) (av := []) (rest := []) X hG hS (ct_X7_look l z k_a n_a hcr1) mt_X7_look ml_X7_177 rfl ⟨rfl, rfl, Nat.le_of_ble_eq_true rfl, Nat.le_of_ble_eq_true rfl⟩ ⟨Nat.le_refl 0, Nat.le_refl 0⟩ (nx_0 n_a) k_a (by decide) rfl hl.1 (Nat.le_of_ble_eq_true rfl) rfl dX7_tieTold_1 (fun H locs hG hS => ?_)
  refine lv_aload_n hx hb dX7_tieTold_4 rfl (lv_at hl 0 rfl) ?_
  refine lv_iconst (v := 0) hx hb dX7_tieTold_5 (by decide) ?_
  refine lv_iload_n hx hb dX7_tieTold_6 rfl (lv_at hl 2 rfl) ?_
  refine lv_iconst (v := 1) hx hb dX7_tieTold_7 (by decide) ?_
  refine lv_isub hx hb dX7_tieTold_8 ?_
  obtain ⟨r2, hcr2, h⟩ := bd_y h
  refine g_cVI (a := a) (ci := 7) (T := TX7) (N := 37) (av := [.int 0, .int (v2 - 1)]) (rest := []) X hG hS (ct_X7_number l z k_a n_a hcr2) mt_X7_number ml_X7_189 rfl ⟨rfl, rfl, Nat.le_of_ble_eq_true rfl, Nat.le_of_ble_eq_true rfl⟩ ⟨Nat.le_refl 0, Nat.le_refl 0⟩ (nx_0 n_a) k_a (by decide) rfl hl.1 (Nat.le_of_ble_eq_true rfl) rfl dX7_tieTold_9 (fun H locs hG hS => ?_)
  refine lv_if_ne (tgt := 17) hx hb dX7_tieTold_12 (by decide) (fun q3 => ?_) (fun q3 => ?_)
  · have h := ite_n h q3
    refine lv_aload_n hx hb dX7_tieTold_17 rfl (lv_at hl 0 rfl) ?_
    refine gf_X7_32 X hG (nx_0 n_a) k_a fl_X7_180 dX7_tieTold_18 ?_
    refine lv_topi (fun x4 ex4 => ?_)
    have h := nm_y h x4 ex4
    refine lv_istore_n (lv' := [(3, .int x4), (0, .ref (gad z a)), (1, .int v1), (2, .int v2)]) hx hb dX7_tieTold_21 rfl hl (by decide) rfl (fun ls hl => ?_)
    refine lv_aload_n hx hb dX7_tieTold_22 rfl (lv_at hl 1 rfl) ?_
    refine gf_X7_28 X hG (nx_0 n_a) k_a fl_X7_141 dX7_tieTold_23 ?_
    refine lv_iconst (v := 2) hx hb dX7_tieTold_26 (by decide) ?_
    refine lv_icmp_ne (tgt := 45) hx hb dX7_tieTold_27 (by decide) (fun q5 => ?_) (fun q5 => ?_)
    · have h := ite_n h q5
      refine lv_aload_n hx hb dX7_tieTold_45 rfl (lv_at hl 1 rfl) ?_
      refine lv_iconst (v := 0) hx hb dX7_tieTold_46 (by decide) ?_
      refine lv_iload_n hx hb dX7_tieTold_47 rfl (lv_at hl 3 rfl) ?_
      refine lv_iconst (v := 1) hx hb dX7_tieTold_48 (by decide) ?_
      refine lv_isub hx hb dX7_tieTold_49 ?_
      obtain ⟨r6, hcr6, h⟩ := bd_y h
      refine g_cVI (a := a) (ci := 7) (T := TX7) (N := 37) (av := [.int 0, .int (v2 - 1)]) (rest := []) X hG hS (ct_X7_number l z k_a n_a hcr6) mt_X7_number ml_X7_189 rfl ⟨rfl, rfl, Nat.le_of_ble_eq_true rfl, Nat.le_of_ble_eq_true rfl⟩ ⟨Nat.le_refl 0, Nat.le_refl 0⟩ (nx_0 n_a) k_a (by decide) rfl hl.1 (Nat.le_of_ble_eq_true rfl) rfl dX7_tieTold_50 (fun H locs hG hS => ?_)
      refine lv_if_ne (tgt := 58) hx hb dX7_tieTold_53 (by decide) (fun q7 => ?_) (fun q7 => ?_)
      · have h := ite_n h q7
        refine lv_aload_n hx hb dX7_tieTold_58 rfl (lv_at hl 1 rfl) ?_
        refine gf_X7_32 X hG (nx_0 n_a) k_a fl_X7_180 dX7_tieTold_59 ?_
        refine lv_topi (fun x8 ex8 => ?_)
        have h := nm_y h x8 ex8
        refine lv_istore (lv' := [(4, .int x8), (3, .int x4), (0, .ref (gad z a)), (1, .int v1), (2, .int v2)]) hx hb dX7_tieTold_62 hl (by decide) rfl (fun ls hl => ?_)
        refine lv_iconst (v := 0) hx hb dX7_tieTold_64 (by decide) ?_
        refine lv_istore (lv' := [(5, .int 0), (4, .int x8), (3, .int x4), (0, .ref (gad z a)), (1, .int v1), (2, .int v2)]) hx hb dX7_tieTold_65 hl (by decide) rfl (fun ls hl => ?_)
        refine lv_aload_n hx hb dX7_tieTold_67 rfl (lv_at hl 3 rfl) ?_
        refine g_ldcS X (k := 6) (tx := "price") (by decide) dX7_tieTold_68 ?_
        obtain ⟨r9, hcr9, h⟩ := bd_y h
        refine g_cVI (a := a) (ci := 7) (T := TX7) (N := 37) (av := [.ref (gsk z 6)]) (rest := []) X hG hS (ct_X7_isWord l z k_a n_a (by decide : 6 < 10) hcr9) mt_X7_isWord ml_X7_169 rfl ⟨rfl, rfl, Nat.le_of_ble_eq_true rfl, Nat.le_of_ble_eq_true rfl⟩ ⟨Nat.le_refl 0, Nat.le_refl 0⟩ (nx_0 n_a) k_a (by decide) rfl hl.1 (Nat.le_of_ble_eq_true rfl) rfl dX7_tieTold_70 (fun H locs hG hS => ?_)
        refine lv_if_eq (tgt := 98) hx hb dX7_tieTold_73 (by decide) (fun q10 => ?_) (fun q10 => ?_)
        · have h := ite_y h q10
          refine lv_aload_n hx hb dX7_tieTold_98 rfl (lv_at hl 3 rfl) ?_
          refine lv_iload_n hx hb dX7_tieTold_99 rfl (lv_at hl 4 rfl) ?_
          refine lv_iload_n hx hb dX7_tieTold_100 rfl (lv_at hl 2 rfl) ?_
          refine lv_iload hx hb dX7_tieTold_101 (lv_at hl 1 rfl) ?_
          refine lv_iload hx hb dX7_tieTold_103 (lv_at hl 0 rfl) ?_
          obtain ⟨r11, hcr11, h⟩ := bd_y h
          refine g_cVV (a := a) (ci := 7) (T := TX7) (N := 37) (av := [.int v1, .int x4, .int x8, .int 0]) (rest := []) X hG hS (ct_X7_tieThem l z k_a n_a hcr11) mt_X7_tieThem ml_X7_183 rfl ⟨rfl, rfl, Nat.le_of_ble_eq_true rfl, Nat.le_of_ble_eq_true rfl⟩ ⟨Nat.le_refl 0, Nat.le_refl 0⟩ (nx_0 n_a) k_a (by decide) rfl hl.1 (Nat.le_of_ble_eq_true rfl) rfl dX7_tieTold_105 (fun H locs hG hS => ?_)
          refine lv_iconst (v := 1) hx hb dX7_tieTold_108 (by decide) ?_
          obtain rfl := Option.some.inj h
          exact g_zret (zn (Or.inr rfl)) X hr hlk hG hS dX7_tieTold_109
        · have h := ite_n h q10
          refine lv_aload_n hx hb dX7_tieTold_76 rfl (lv_at hl 3 rfl) ?_
          obtain ⟨r12, hcr12, h⟩ := bd_y h
          refine g_cVV (a := a) (ci := 7) (T := TX7) (N := 37) (av := []) (rest := []) X hG hS (ct_X7_look l z k_a n_a hcr12) mt_X7_look ml_X7_177 rfl ⟨rfl, rfl, Nat.le_of_ble_eq_true rfl, Nat.le_of_ble_eq_true rfl⟩ ⟨Nat.le_refl 0, Nat.le_refl 0⟩ (nx_0 n_a) k_a (by decide) rfl hl.1 (Nat.le_of_ble_eq_true rfl) rfl dX7_tieTold_77 (fun H locs hG hS => ?_)
          refine lv_aload_n hx hb dX7_tieTold_80 rfl (lv_at hl 3 rfl) ?_
          refine lv_iconst (v := 0) hx hb dX7_tieTold_81 (by decide) ?_
          refine lv_bipush (v := 9) hx hb dX7_tieTold_82 (by decide) ?_
          obtain ⟨r13, hcr13, h⟩ := bd_y h
          refine g_cVI (a := a) (ci := 7) (T := TX7) (N := 37) (av := [.int 0, .int 9]) (rest := []) X hG hS (ct_X7_number l z k_a n_a hcr13) mt_X7_number ml_X7_189 rfl ⟨rfl, rfl, Nat.le_of_ble_eq_true rfl, Nat.le_of_ble_eq_true rfl⟩ ⟨Nat.le_refl 0, Nat.le_refl 0⟩ (nx_0 n_a) k_a (by decide) rfl hl.1 (Nat.le_of_ble_eq_true rfl) rfl dX7_tieTold_84 (fun H locs hG hS => ?_)
          refine lv_if_ne (tgt := 92) hx hb dX7_tieTold_87 (by decide) (fun q14 => ?_) (fun q14 => ?_)
          · have h := ite_n h q14
            refine lv_aload_n hx hb dX7_tieTold_92 rfl (lv_at hl 3 rfl) ?_
            refine gf_X7_32 X hG (nx_0 n_a) k_a fl_X7_180 dX7_tieTold_93 ?_
            refine lv_topi (fun x15 ex15 => ?_)
            have h := nm_y h x15 ex15
            refine lv_istore (lv' := [(5, .int x15), (4, .int x8), (3, .int x4), (0, .ref (gad z a)), (1, .int v1), (2, .int v2)]) hx hb dX7_tieTold_96 hl (by decide) rfl (fun ls hl => ?_)
            refine lv_aload_n hx hb dX7_tieTold_98 rfl (lv_at hl 3 rfl) ?_
            refine lv_iload_n hx hb dX7_tieTold_99 rfl (lv_at hl 4 rfl) ?_
            refine lv_iload_n hx hb dX7_tieTold_100 rfl (lv_at hl 2 rfl) ?_
            refine lv_iload hx hb dX7_tieTold_101 (lv_at hl 1 rfl) ?_
            refine lv_iload hx hb dX7_tieTold_103 (lv_at hl 0 rfl) ?_
            obtain ⟨r16, hcr16, h⟩ := bd_y h
            refine g_cVV (a := a) (ci := 7) (T := TX7) (N := 37) (av := [.int v1, .int x4, .int x8, .int x15]) (rest := []) X hG hS (ct_X7_tieThem l z k_a n_a hcr16) mt_X7_tieThem ml_X7_183 rfl ⟨rfl, rfl, Nat.le_of_ble_eq_true rfl, Nat.le_of_ble_eq_true rfl⟩ ⟨Nat.le_refl 0, Nat.le_refl 0⟩ (nx_0 n_a) k_a (by decide) rfl hl.1 (Nat.le_of_ble_eq_true rfl) rfl dX7_tieTold_105 (fun H locs hG hS => ?_)
            refine lv_iconst (v := 1) hx hb dX7_tieTold_108 (by decide) ?_
            obtain rfl := Option.some.inj h
            exact g_zret (zn (Or.inr rfl)) X hr hlk hG hS dX7_tieTold_109
          · have h := ite_y h q14
            refine lv_iconst (v := 0) hx hb dX7_tieTold_90 (by decide) ?_
            obtain rfl := Option.some.inj h
            exact g_zret (zn (Or.inl rfl)) X hr hlk hG hS dX7_tieTold_91
      · have h := ite_y h q7
        refine lv_iconst (v := 0) hx hb dX7_tieTold_56 (by decide) ?_
        obtain rfl := Option.some.inj h
        exact g_zret (zn (Or.inl rfl)) X hr hlk hG hS dX7_tieTold_57
    · have h := ite_y h q5
      refine lv_aload_n hx hb dX7_tieTold_30 rfl (lv_at hl 1 rfl) ?_
      refine gf_X7_30 X hG (nx_0 n_a) k_a fl_X7_137 dX7_tieTold_31 ?_
      refine lv_iload_n hx hb dX7_tieTold_34 rfl (lv_at hl 0 rfl) ?_
      refine lv_i2l hx hb dX7_tieTold_35 rfl ?_
      refine W.lcmp hx hb dX7_tieTold_36 ?_
      refine lv_if_ne (tgt := 45) hx hb dX7_tieTold_37 (by decide) (fun q17 => ?_) (fun q17 => ?_)
      · have h := ite_n h q17
        refine lv_aload_n hx hb dX7_tieTold_45 rfl (lv_at hl 1 rfl) ?_
        refine lv_iconst (v := 0) hx hb dX7_tieTold_46 (by decide) ?_
        refine lv_iload_n hx hb dX7_tieTold_47 rfl (lv_at hl 3 rfl) ?_
        refine lv_iconst (v := 1) hx hb dX7_tieTold_48 (by decide) ?_
        refine lv_isub hx hb dX7_tieTold_49 ?_
        obtain ⟨r18, hcr18, h⟩ := bd_y h
        refine g_cVI (a := a) (ci := 7) (T := TX7) (N := 37) (av := [.int 0, .int (v2 - 1)]) (rest := []) X hG hS (ct_X7_number l z k_a n_a hcr18) mt_X7_number ml_X7_189 rfl ⟨rfl, rfl, Nat.le_of_ble_eq_true rfl, Nat.le_of_ble_eq_true rfl⟩ ⟨Nat.le_refl 0, Nat.le_refl 0⟩ (nx_0 n_a) k_a (by decide) rfl hl.1 (Nat.le_of_ble_eq_true rfl) rfl dX7_tieTold_50 (fun H locs hG hS => ?_)
        refine lv_if_ne (tgt := 58) hx hb dX7_tieTold_53 (by decide) (fun q19 => ?_) (fun q19 => ?_)
        · have h := ite_n h q19
          refine lv_aload_n hx hb dX7_tieTold_58 rfl (lv_at hl 1 rfl) ?_
          refine gf_X7_32 X hG (nx_0 n_a) k_a fl_X7_180 dX7_tieTold_59 ?_
          refine lv_topi (fun x20 ex20 => ?_)
          have h := nm_y h x20 ex20
          refine lv_istore (lv' := [(4, .int x20), (3, .int x4), (0, .ref (gad z a)), (1, .int v1), (2, .int v2)]) hx hb dX7_tieTold_62 hl (by decide) rfl (fun ls hl => ?_)
          refine lv_iconst (v := 0) hx hb dX7_tieTold_64 (by decide) ?_
          refine lv_istore (lv' := [(5, .int 0), (4, .int x20), (3, .int x4), (0, .ref (gad z a)), (1, .int v1), (2, .int v2)]) hx hb dX7_tieTold_65 hl (by decide) rfl (fun ls hl => ?_)
          refine lv_aload_n hx hb dX7_tieTold_67 rfl (lv_at hl 3 rfl) ?_
          refine g_ldcS X (k := 6) (tx := "price") (by decide) dX7_tieTold_68 ?_
          obtain ⟨r21, hcr21, h⟩ := bd_y h
          refine g_cVI (a := a) (ci := 7) (T := TX7) (N := 37) (av := [.ref (gsk z 6)]) (rest := []) X hG hS (ct_X7_isWord l z k_a n_a (by decide : 6 < 10) hcr21) mt_X7_isWord ml_X7_169 rfl ⟨rfl, rfl, Nat.le_of_ble_eq_true rfl, Nat.le_of_ble_eq_true rfl⟩ ⟨Nat.le_refl 0, Nat.le_refl 0⟩ (nx_0 n_a) k_a (by decide) rfl hl.1 (Nat.le_of_ble_eq_true rfl) rfl dX7_tieTold_70 (fun H locs hG hS => ?_)
          refine lv_if_eq (tgt := 98) hx hb dX7_tieTold_73 (by decide) (fun q22 => ?_) (fun q22 => ?_)
          · have h := ite_y h q22
            refine lv_aload_n hx hb dX7_tieTold_98 rfl (lv_at hl 3 rfl) ?_
            refine lv_iload_n hx hb dX7_tieTold_99 rfl (lv_at hl 4 rfl) ?_
            refine lv_iload_n hx hb dX7_tieTold_100 rfl (lv_at hl 2 rfl) ?_
            refine lv_iload hx hb dX7_tieTold_101 (lv_at hl 1 rfl) ?_
            refine lv_iload hx hb dX7_tieTold_103 (lv_at hl 0 rfl) ?_
            obtain ⟨r23, hcr23, h⟩ := bd_y h
            refine g_cVV (a := a) (ci := 7) (T := TX7) (N := 37) (av := [.int v1, .int x4, .int x20, .int 0]) (rest := []) X hG hS (ct_X7_tieThem l z k_a n_a hcr23) mt_X7_tieThem ml_X7_183 rfl ⟨rfl, rfl, Nat.le_of_ble_eq_true rfl, Nat.le_of_ble_eq_true rfl⟩ ⟨Nat.le_refl 0, Nat.le_refl 0⟩ (nx_0 n_a) k_a (by decide) rfl hl.1 (Nat.le_of_ble_eq_true rfl) rfl dX7_tieTold_105 (fun H locs hG hS => ?_)
            refine lv_iconst (v := 1) hx hb dX7_tieTold_108 (by decide) ?_
            obtain rfl := Option.some.inj h
            exact g_zret (zn (Or.inr rfl)) X hr hlk hG hS dX7_tieTold_109
          · have h := ite_n h q22
            refine lv_aload_n hx hb dX7_tieTold_76 rfl (lv_at hl 3 rfl) ?_
            obtain ⟨r24, hcr24, h⟩ := bd_y h
            refine g_cVV (a := a) (ci := 7) (T := TX7) (N := 37) (av := []) (rest := []) X hG hS (ct_X7_look l z k_a n_a hcr24) mt_X7_look ml_X7_177 rfl ⟨rfl, rfl, Nat.le_of_ble_eq_true rfl, Nat.le_of_ble_eq_true rfl⟩ ⟨Nat.le_refl 0, Nat.le_refl 0⟩ (nx_0 n_a) k_a (by decide) rfl hl.1 (Nat.le_of_ble_eq_true rfl) rfl dX7_tieTold_77 (fun H locs hG hS => ?_)
            refine lv_aload_n hx hb dX7_tieTold_80 rfl (lv_at hl 3 rfl) ?_
            refine lv_iconst (v := 0) hx hb dX7_tieTold_81 (by decide) ?_
            refine lv_bipush (v := 9) hx hb dX7_tieTold_82 (by decide) ?_
            obtain ⟨r25, hcr25, h⟩ := bd_y h
            refine g_cVI (a := a) (ci := 7) (T := TX7) (N := 37) (av := [.int 0, .int 9]) (rest := []) X hG hS (ct_X7_number l z k_a n_a hcr25) mt_X7_number ml_X7_189 rfl ⟨rfl, rfl, Nat.le_of_ble_eq_true rfl, Nat.le_of_ble_eq_true rfl⟩ ⟨Nat.le_refl 0, Nat.le_refl 0⟩ (nx_0 n_a) k_a (by decide) rfl hl.1 (Nat.le_of_ble_eq_true rfl) rfl dX7_tieTold_84 (fun H locs hG hS => ?_)
            refine lv_if_ne (tgt := 92) hx hb dX7_tieTold_87 (by decide) (fun q26 => ?_) (fun q26 => ?_)
            · have h := ite_n h q26
              refine lv_aload_n hx hb dX7_tieTold_92 rfl (lv_at hl 3 rfl) ?_
              refine gf_X7_32 X hG (nx_0 n_a) k_a fl_X7_180 dX7_tieTold_93 ?_
              refine lv_topi (fun x27 ex27 => ?_)
              have h := nm_y h x27 ex27
              refine lv_istore (lv' := [(5, .int x27), (4, .int x20), (3, .int x4), (0, .ref (gad z a)), (1, .int v1), (2, .int v2)]) hx hb dX7_tieTold_96 hl (by decide) rfl (fun ls hl => ?_)
              refine lv_aload_n hx hb dX7_tieTold_98 rfl (lv_at hl 3 rfl) ?_
              refine lv_iload_n hx hb dX7_tieTold_99 rfl (lv_at hl 4 rfl) ?_
              refine lv_iload_n hx hb dX7_tieTold_100 rfl (lv_at hl 2 rfl) ?_
              refine lv_iload hx hb dX7_tieTold_101 (lv_at hl 1 rfl) ?_
              refine lv_iload hx hb dX7_tieTold_103 (lv_at hl 0 rfl) ?_
              obtain ⟨r28, hcr28, h⟩ := bd_y h
              refine g_cVV (a := a) (ci := 7) (T := TX7) (N := 37) (av := [.int v1, .int x4, .int x20, .int x27]) (rest := []) X hG hS (ct_X7_tieThem l z k_a n_a hcr28) mt_X7_tieThem ml_X7_183 rfl ⟨rfl, rfl, Nat.le_of_ble_eq_true rfl, Nat.le_of_ble_eq_true rfl⟩ ⟨Nat.le_refl 0, Nat.le_refl 0⟩ (nx_0 n_a) k_a (by decide) rfl hl.1 (Nat.le_of_ble_eq_true rfl) rfl dX7_tieTold_105 (fun H locs hG hS => ?_)
              refine lv_iconst (v := 1) hx hb dX7_tieTold_108 (by decide) ?_
              obtain rfl := Option.some.inj h
              exact g_zret (zn (Or.inr rfl)) X hr hlk hG hS dX7_tieTold_109
            · have h := ite_y h q26
              refine lv_iconst (v := 0) hx hb dX7_tieTold_90 (by decide) ?_
              obtain rfl := Option.some.inj h
              exact g_zret (zn (Or.inl rfl)) X hr hlk hG hS dX7_tieTold_91
        · have h := ite_y h q19
          refine lv_iconst (v := 0) hx hb dX7_tieTold_56 (by decide) ?_
          obtain rfl := Option.some.inj h
          exact g_zret (zn (Or.inl rfl)) X hr hlk hG hS dX7_tieTold_57
      · have h := ite_y h q17
        refine lv_aload_n hx hb dX7_tieTold_40 rfl (lv_at hl 1 rfl) ?_
        obtain ⟨r29, hcr29, h⟩ := bd_y h
        refine g_cVI (a := a) (ci := 7) (T := TX7) (N := 37) (av := []) (rest := []) X hG hS (ct_X7_wrong l z k_a n_a hcr29) mt_X7_wrong ml_X7_173 rfl ⟨rfl, rfl, Nat.le_of_ble_eq_true rfl, Nat.le_of_ble_eq_true rfl⟩ ⟨Nat.le_refl 0, Nat.le_refl 0⟩ (nx_0 n_a) k_a (by decide) rfl hl.1 (Nat.le_of_ble_eq_true rfl) rfl dX7_tieTold_41 (fun H locs hG hS => ?_)
        obtain ⟨q30, h⟩ := gc_y h
        obtain rfl := Option.some.inj h
        exact g_zret (zn q30) X hr hlk hG hS dX7_tieTold_44
  · have h := ite_y h q3
    refine lv_iconst (v := 0) hx hb dX7_tieTold_15 (by decide) ?_
    obtain rfl := Option.some.inj h
    exact g_zret (zn (Or.inl rfl)) X hr hlk hG hS dX7_tieTold_16
set_option maxRecDepth 100000 in
set_option maxHeartbeats 4000000 in
theorem wX7_statement_69 {N : Nat} {p : Program} {l : Launch} {e : Env} {s : State} {m : MethodId} {args : Array Value} {below : List Frame} {meth : Method} {c : Code} {z : gZ} {a : Nat} {g3 : Nat} {u2 : Int32} {o : Int32 × Mem} (X : gX p m c cX7_statement 5 s args RX7 z) (hr : meth.sig.returnType = (some .boolean)) (hlk : meth.locks = false) (k_a : kd a = 7) (n_a : a + 59 ≤ gn z) (k_g3 : kd g3 = 10000 + 12) (n_g3 : g3 < gn z)  : ∀ (n : Nat) (Mw : Mem) (w4 : Int32) (H : Heap) (locs : List Loc) (ls : Array Slot), fX7_statement_69 N a g3 u2  n Mw w4 = some o → gW z Mw H → va_S (gA z) s.heap H locs → lv_has ls 5 [(0, .ref (gad z a)), (2, .int u2), (3, .ref (gad z g3)), (4, .int w4)] → W p l e { frames := 6, cells := 0, slots := 0, locals := 132 } s m args below meth c H locs 0 0 (MQ below (va_Qi (fun r' (_ : Unit) => r' = o.1) (fun _ t => gW z o.2 t.heap) (gA z)) args s 0 0 (gA z)) (F0 m 69 ls []) := by
  have hx := X.1
  have hb := X.2.1
  intro n
  induction n with
  | zero => intro Mw w4 H locs ls h; cases h
  | succ n ih =>
    intro Mw w4 H locs ls h hG hS hl
    rw [fX7_statement_69] at h
    refine lv_iload hx hb dX7_statement_69 (lv_at hl 3 rfl) ?_
    refine lv_iload_n hx hb dX7_statement_71 rfl (lv_at hl 1 rfl) ?_
    refine lv_icmp_ge (tgt := 89) hx hb dX7_statement_72 (by decide) (fun q1 => ?_) (fun q1 => ?_)
    · have h := ite_y h q1
      refine lv_iconst (v := 1) hx hb dX7_statement_89 (by decide) ?_
      obtain rfl := Option.some.inj h
      exact g_zret (zn (Or.inr rfl)) X hr hlk hG hS dX7_statement_90
    · have h := ite_n h q1
      refine lv_aload_n hx hb dX7_statement_75 rfl (lv_at hl 2 rfl) ?_
      refine lv_iload hx hb dX7_statement_76 (lv_at hl 3 rfl) ?_
      refine lv_aload_n hx hb dX7_statement_78 rfl (lv_at hl 0 rfl) ?_
      refine gf_X7_32 X hG (nx_0 n_a) k_a fl_X7_180 dX7_statement_79 ?_
      obtain ⟨i2, h⟩ := gd_y h
      refine g_iast X hG hS n_g3 k_g3 (by decide) i2 dX7_statement_82 (fun H locs hG hS => ?_)
      obtain ⟨M3, eM3⟩ : ∃ y, y = sI Mw g3 (w4 : Int32).toNatClampNeg (Mw.1 a 32) := ⟨_, rfl⟩
      rw [← eM3] at hG
      have h := nm_y h M3 eM3
      refine lv_iinc (v := (w4 + 1)) (lv' := [(4, .int (w4 + 1)), (0, .ref (gad z a)), (2, .int u2), (3, .ref (gad z g3))]) hx hb dX7_statement_83 hl (k := 3) rfl rfl (by decide) rfl (fun ls hl => ?_)
      refine lv_goto (tgt := 69) hx hb dX7_statement_86 (by decide) ?_
      exact ih M3 (w4 + 1) _ _ _ h hG hS (lv_sub hl [1, 2, 3, 0] rfl)
set_option maxRecDepth 100000 in
set_option maxHeartbeats 4000000 in
theorem wX7_statement_353 {N : Nat} {p : Program} {l : Launch} {e : Env} {s : State} {m : MethodId} {args : Array Value} {below : List Frame} {meth : Method} {c : Code} {z : gZ} {a : Nat} {u1 : Int32} {u2 : Int32} {u3 : Int32} {o : Int32 × Mem} (X : gX p m c cX7_statement 5 s args RX7 z) (hr : meth.sig.returnType = (some .boolean)) (hlk : meth.locks = false) (k_a : kd a = 7) (n_a : a + 59 ≤ gn z)  {K373 : Mem → Option (Int32 × Mem)} (hK373 : ∀ (Mw : Mem) (H : Heap) (locs : List Loc) (ls : Array Slot), K373 Mw = some o → gW z Mw H → va_S (gA z) s.heap H locs → lv_has ls 5 [(0, .ref (gad z a)), (1, .int u1), (2, .int u2), (3, .int u3)] → W p l e { frames := 6, cells := 0, slots := 0, locals := 132 } s m args below meth c H locs 0 0 (MQ below (va_Qi (fun r' (_ : Unit) => r' = o.1) (fun _ t => gW z o.2 t.heap) (gA z)) args s 0 0 (gA z)) (F0 m 373 ls [])) : ∀ (n : Nat) (Mw : Mem) (w4 : Int32) (H : Heap) (locs : List Loc) (ls : Array Slot), fX7_statement_353 N a u1 u2 u3 K373 n Mw w4 = some o → gW z Mw H → va_S (gA z) s.heap H locs → lv_has ls 5 [(0, .ref (gad z a)), (1, .int u1), (2, .int u2), (3, .int u3), (4, .int w4)] → W p l e { frames := 6, cells := 0, slots := 0, locals := 132 } s m args below meth c H locs 0 0 (MQ below (va_Qi (fun r' (_ : Unit) => r' = o.1) (fun _ t => gW z o.2 t.heap) (gA z)) args s 0 0 (gA z)) (F0 m 353 ls []) := by
  have hx := X.1
  have hb := X.2.1
  intro n
  induction n with
  | zero => intro Mw w4 H locs ls h; cases h
  | succ n ih =>
    intro Mw w4 H locs ls h hG hS hl
    rw [fX7_statement_353] at h
    refine lv_iload hx hb dX7_statement_353 (lv_at hl 4 rfl) ?_
    refine lv_iload_n hx hb dX7_statement_355 rfl (lv_at hl 3 rfl) ?_
    refine lv_icmp_ge (tgt := 373) hx hb dX7_statement_356 (by decide) (fun q1 => ?_) (fun q1 => ?_)
    · have h := ite_y h q1
      exact hK373 Mw  _ _ _ h hG hS (lv_sub hl [0, 1, 2, 3] rfl)
    · have h := ite_n h q1
      refine lv_aload_n hx hb dX7_statement_359 rfl (lv_at hl 0 rfl) ?_
      refine lv_iload_n hx hb dX7_statement_360 rfl (lv_at hl 1 rfl) ?_
      refine lv_iload hx hb dX7_statement_361 (lv_at hl 4 rfl) ?_
      refine lv_iload_n hx hb dX7_statement_363 rfl (lv_at hl 3 rfl) ?_
      obtain ⟨r2, hcr2, h⟩ := bd_y h
      refine g_cVV (a := a) (ci := 7) (T := TX7) (N := 37) (av := [.int u1, .int w4, .int u3]) (rest := []) X hG hS (ct_X7_tieNew l z k_a n_a hcr2) mt_X7_tieNew ml_X7_206 rfl ⟨rfl, rfl, Nat.le_of_ble_eq_true rfl, Nat.le_of_ble_eq_true rfl⟩ ⟨Nat.le_refl 0, Nat.le_refl 0⟩ (nx_0 n_a) k_a (by decide) rfl hl.1 (Nat.le_of_ble_eq_true rfl) rfl dX7_statement_364 (fun H locs hG hS => ?_)
      refine lv_iinc (v := (w4 + 1)) (lv' := [(4, .int (w4 + 1)), (0, .ref (gad z a)), (1, .int u1), (2, .int u2), (3, .int u3)]) hx hb dX7_statement_367 hl (k := 4) rfl rfl (by decide) rfl (fun ls hl => ?_)
      refine lv_goto (tgt := 353) hx hb dX7_statement_370 (by decide) ?_
      exact ih r2 (w4 + 1) _ _ _ h hG hS (lv_sub hl [1, 2, 3, 4, 0] rfl)
set_option maxRecDepth 100000 in
set_option maxHeartbeats 4000000 in
theorem wX7_statement_345 {N : Nat} {p : Program} {l : Launch} {e : Env} {s : State} {m : MethodId} {args : Array Value} {below : List Frame} {meth : Method} {c : Code} {z : gZ} {a : Nat} {u1 : Int32} {u2 : Int32} {o : Int32 × Mem} (X : gX p m c cX7_statement 5 s args RX7 z) (hr : meth.sig.returnType = (some .boolean)) (hlk : meth.locks = false) (k_a : kd a = 7) (n_a : a + 59 ≤ gn z)  : ∀ (n : Nat) (Mw : Mem) (w3 : Int32) (H : Heap) (locs : List Loc) (ls : Array Slot), fX7_statement_345 N a u1 u2  n Mw w3 = some o → gW z Mw H → va_S (gA z) s.heap H locs → lv_has ls 5 [(0, .ref (gad z a)), (1, .int u1), (2, .int u2), (3, .int w3)] → W p l e { frames := 6, cells := 0, slots := 0, locals := 132 } s m args below meth c H locs 0 0 (MQ below (va_Qi (fun r' (_ : Unit) => r' = o.1) (fun _ t => gW z o.2 t.heap) (gA z)) args s 0 0 (gA z)) (F0 m 345 ls []) := by
  have hx := X.1
  have hb := X.2.1
  intro n
  induction n with
  | zero => intro Mw w3 H locs ls h; cases h
  | succ n ih =>
    intro Mw w3 H locs ls h hG hS hl
    rw [fX7_statement_345] at h
    refine lv_iload_n hx hb dX7_statement_345 rfl (lv_at hl 3 rfl) ?_
    refine lv_iload_n hx hb dX7_statement_346 rfl (lv_at hl 2 rfl) ?_
    refine lv_icmp_ge (tgt := 379) hx hb dX7_statement_347 (by decide) (fun q1 => ?_) (fun q1 => ?_)
    · have h := ite_y h q1
      refine lv_iconst (v := 1) hx hb dX7_statement_379 (by decide) ?_
      obtain rfl := Option.some.inj h
      exact g_zret (zn (Or.inr rfl)) X hr hlk hG hS dX7_statement_380
    · have h := ite_n h q1
      refine lv_iconst (v := 0) hx hb dX7_statement_350 (by decide) ?_
      refine lv_istore (lv' := [(4, .int 0), (0, .ref (gad z a)), (1, .int u1), (2, .int u2), (3, .int w3)]) hx hb dX7_statement_351 hl (by decide) rfl (fun ls hl => ?_)
      refine wX7_statement_353 X hr hlk k_a n_a ?_ _ _ _ _ _ _ h hG hS (lv_sub hl [1, 2, 3, 4, 0] rfl)
      · intro My353 H locs ls h hG hS hl
        refine lv_iinc (v := (w3 + 1)) (lv' := [(3, .int (w3 + 1)), (0, .ref (gad z a)), (1, .int u1), (2, .int u2)]) hx hb dX7_statement_373 hl (k := 3) rfl rfl (by decide) rfl (fun ls hl => ?_)
        refine lv_goto (tgt := 345) hx hb dX7_statement_376 (by decide) ?_
        exact ih My353 (w3 + 1) _ _ _ h hG hS (lv_sub hl [1, 2, 3, 0] rfl)
set_option maxRecDepth 100000 in
set_option maxHeartbeats 4000000 in
theorem wX7_statement_306 {N : Nat} {p : Program} {l : Launch} {e : Env} {s : State} {m : MethodId} {args : Array Value} {below : List Frame} {meth : Method} {c : Code} {z : gZ} {a : Nat} {u1 : Int32} {u2 : Int32} {o : Int32 × Mem} (X : gX p m c cX7_statement 5 s args RX7 z) (hr : meth.sig.returnType = (some .boolean)) (hlk : meth.locks = false) (k_a : kd a = 7) (n_a : a + 59 ≤ gn z)  : ∀ (n : Nat) (Mw : Mem) (w3 : Int32) (H : Heap) (locs : List Loc) (ls : Array Slot), fX7_statement_306 N a u1 u2  n Mw w3 = some o → gW z Mw H → va_S (gA z) s.heap H locs → lv_has ls 5 [(0, .ref (gad z a)), (1, .int u1), (2, .int u2), (3, .int w3)] → W p l e { frames := 6, cells := 0, slots := 0, locals := 132 } s m args below meth c H locs 0 0 (MQ below (va_Qi (fun r' (_ : Unit) => r' = o.1) (fun _ t => gW z o.2 t.heap) (gA z)) args s 0 0 (gA z)) (F0 m 306 ls []) := by
  have hx := X.1
  have hb := X.2.1
  intro n
  induction n with
  | zero => intro Mw w3 H locs ls h; cases h
  | succ n ih =>
    intro Mw w3 H locs ls h hG hS hl
    rw [fX7_statement_306] at h
    refine lv_iload_n hx hb dX7_statement_306 rfl (lv_at hl 3 rfl) ?_
    refine lv_iload_n hx hb dX7_statement_307 rfl (lv_at hl 2 rfl) ?_
    refine lv_icmp_ge (tgt := 328) hx hb dX7_statement_308 (by decide) (fun q1 => ?_) (fun q1 => ?_)
    · have h := ite_y h q1
      refine lv_iconst (v := 1) hx hb dX7_statement_328 (by decide) ?_
      obtain rfl := Option.some.inj h
      exact g_zret (zn (Or.inr rfl)) X hr hlk hG hS dX7_statement_329
    · have h := ite_n h q1
      refine lv_aload_n hx hb dX7_statement_311 rfl (lv_at hl 0 rfl) ?_
      refine lv_iload_n hx hb dX7_statement_312 rfl (lv_at hl 1 rfl) ?_
      refine lv_iload_n hx hb dX7_statement_313 rfl (lv_at hl 3 rfl) ?_
      refine lv_iload_n hx hb dX7_statement_314 rfl (lv_at hl 3 rfl) ?_
      refine lv_iconst (v := 1) hx hb dX7_statement_315 (by decide) ?_
      refine lv_iadd hx hb dX7_statement_316 ?_
      refine lv_iload_n hx hb dX7_statement_317 rfl (lv_at hl 2 rfl) ?_
      obtain ⟨q2, h⟩ := gc_y h
      refine lv_irem hx hb dX7_statement_318 q2 ?_
      obtain ⟨r3, hcr3, h⟩ := bd_y h
      refine g_cVV (a := a) (ci := 7) (T := TX7) (N := 37) (av := [.int u1, .int w3, .int ((w3 + 1) - (w3 + 1) / u2 * u2)]) (rest := []) X hG hS (ct_X7_tieNew l z k_a n_a hcr3) mt_X7_tieNew ml_X7_206 rfl ⟨rfl, rfl, Nat.le_of_ble_eq_true rfl, Nat.le_of_ble_eq_true rfl⟩ ⟨Nat.le_refl 0, Nat.le_refl 0⟩ (nx_0 n_a) k_a (by decide) rfl hl.1 (Nat.le_of_ble_eq_true rfl) rfl dX7_statement_319 (fun H locs hG hS => ?_)
      refine lv_iinc (v := (w3 + 1)) (lv' := [(3, .int (w3 + 1)), (0, .ref (gad z a)), (1, .int u1), (2, .int u2)]) hx hb dX7_statement_322 hl (k := 3) rfl rfl (by decide) rfl (fun ls hl => ?_)
      refine lv_goto (tgt := 306) hx hb dX7_statement_325 (by decide) ?_
      exact ih r3 (w3 + 1) _ _ _ h hG hS (lv_sub hl [1, 2, 3, 0] rfl)
set_option maxRecDepth 100000 in
set_option maxHeartbeats 4000000 in
theorem ct_X7_statement (l : Launch) (z : gZ) {N : Nat} {M : Mem} {a : Nat} {v1 : Int32} {o : Int32 × Mem} (k_a : kd a = 7) (n_a : a + 59 ≤ gn z) (h : fX7_statement N M a v1 = some o) : CtI l z yX7_statement cX7_statement 5 (some .boolean) { frames := 6, cells := 0, slots := 0, locals := 132 } [.ref (gad z a), .int v1] M o.1 o.2 := by
  refine Ct_of rfl (Nat.le_of_ble_eq_true rfl) ?_
  intro p e s m below meth c ls X hr hlk hG hS hl
  have X : gX p m c _ _ s _ RX7 z := X
  have hl : lv_has ls 5 [(0, .ref (gad z a)), (1, .int v1)] := hl
  have hx := X.1
  have hb := X.2.1
  unfold fX7_statement at h
  refine lv_aload_n hx hb dX7_statement_0 rfl (lv_at hl 0 rfl) ?_
  refine gf_X7_11 X hG (nx_0 n_a) k_a fl_X7_40 dX7_statement_1 ?_
  refine lv_iload_n hx hb dX7_statement_4 rfl (lv_at hl 1 rfl) ?_
  obtain ⟨i1, h⟩ := gd_y h
  refine g_iald X hG (nx_a (a := a) (k := 18) (n := 59) n_a (Nat.le_of_ble_eq_true rfl)) (kx_7_18 k_a) (by decide) i1 dX7_statement_5 ?_
  refine lv_topi (fun x2 ex2 => ?_)
  have h := nm_y h x2 ex2
  refine lv_istore_n (lv' := [(2, .int x2), (0, .ref (gad z a)), (1, .int v1)]) hx hb dX7_statement_6 rfl hl (by decide) rfl (fun ls hl => ?_)
  refine lv_aload_n hx hb dX7_statement_7 rfl (lv_at hl 1 rfl) ?_
  refine g_ldcS X (k := 1) (tx := "cost") (by decide) dX7_statement_8 ?_
  obtain ⟨r3, hcr3, h⟩ := bd_y h
  refine g_cVI (a := a) (ci := 7) (T := TX7) (N := 37) (av := [.ref (gsk z 1)]) (rest := []) X hG hS (ct_X7_isWord l z k_a n_a (by decide : 1 < 10) hcr3) mt_X7_isWord ml_X7_169 rfl ⟨rfl, rfl, Nat.le_of_ble_eq_true rfl, Nat.le_of_ble_eq_true rfl⟩ ⟨Nat.le_refl 0, Nat.le_refl 0⟩ (nx_0 n_a) k_a (by decide) rfl hl.1 (Nat.le_of_ble_eq_true rfl) rfl dX7_statement_10 (fun H locs hG hS => ?_)
  refine lv_if_ne (tgt := 25) hx hb dX7_statement_13 (by decide) (fun q4 => ?_) (fun q4 => ?_)
  · have h := ite_n h q4
    refine lv_aload_n hx hb dX7_statement_25 rfl (lv_at hl 1 rfl) ?_
    refine g_ldcS X (k := 1) (tx := "cost") (by decide) dX7_statement_26 ?_
    obtain ⟨r5, hcr5, h⟩ := bd_y h
    refine g_cVI (a := a) (ci := 7) (T := TX7) (N := 37) (av := [.ref (gsk z 1)]) (rest := []) X hG hS (ct_X7_isWord l z k_a n_a (by decide : 1 < 10) hcr5) mt_X7_isWord ml_X7_169 rfl ⟨rfl, rfl, Nat.le_of_ble_eq_true rfl, Nat.le_of_ble_eq_true rfl⟩ ⟨Nat.le_refl 0, Nat.le_refl 0⟩ (nx_0 n_a) k_a (by decide) rfl hl.1 (Nat.le_of_ble_eq_true rfl) rfl dX7_statement_28 (fun H locs hG hS => ?_)
    refine lv_if_eq (tgt := 43) hx hb dX7_statement_31 (by decide) (fun q6 => ?_) (fun q6 => ?_)
    · have h := ite_y h q6
      refine lv_aload_n hx hb dX7_statement_43 rfl (lv_at hl 1 rfl) ?_
      refine gf_X7_15 X hG (nx_0 n_a) k_a fl_X7_54 dX7_statement_44 ?_
      refine lv_iload_n hx hb dX7_statement_47 rfl (lv_at hl 2 rfl) ?_
      refine g_aldII X hG (nx_a (a := a) (k := 27) (n := 59) n_a (Nat.le_of_ble_eq_true rfl)) (kx_7_27 k_a) (by decide) i1 dX7_statement_48 ?_
      refine lv_astore_n (lv' := [(3, .ref (gad z ((a + 27) + 1 + (v1 : Int32).toNatClampNeg))), (2, .int x2), (0, .ref (gad z a)), (1, .int v1)]) hx hb dX7_statement_49 rfl hl (by decide) rfl (fun ls hl => ?_)
      refine lv_aload_n hx hb dX7_statement_50 rfl (lv_at hl 2 rfl) ?_
      obtain ⟨r7, hcr7, h⟩ := bd_y h
      refine g_cVV (a := a) (ci := 7) (T := TX7) (N := 37) (av := []) (rest := []) X hG hS (ct_X7_look l z k_a n_a hcr7) mt_X7_look ml_X7_177 rfl ⟨rfl, rfl, Nat.le_of_ble_eq_true rfl, Nat.le_of_ble_eq_true rfl⟩ ⟨Nat.le_refl 0, Nat.le_refl 0⟩ (nx_0 n_a) k_a (by decide) rfl hl.1 (Nat.le_of_ble_eq_true rfl) rfl dX7_statement_51 (fun H locs hG hS => ?_)
      refine lv_aload_n hx hb dX7_statement_54 rfl (lv_at hl 2 rfl) ?_
      refine lv_iconst (v := 0) hx hb dX7_statement_55 (by decide) ?_
      refine lv_bipush (v := 99) hx hb dX7_statement_56 (by decide) ?_
      obtain ⟨r8, hcr8, h⟩ := bd_y h
      refine g_cVI (a := a) (ci := 7) (T := TX7) (N := 37) (av := [.int 0, .int 99]) (rest := []) X hG hS (ct_X7_number l z k_a n_a hcr8) mt_X7_number ml_X7_189 rfl ⟨rfl, rfl, Nat.le_of_ble_eq_true rfl, Nat.le_of_ble_eq_true rfl⟩ ⟨Nat.le_refl 0, Nat.le_refl 0⟩ (nx_0 n_a) k_a (by decide) rfl hl.1 (Nat.le_of_ble_eq_true rfl) rfl dX7_statement_58 (fun H locs hG hS => ?_)
      refine lv_if_ne (tgt := 66) hx hb dX7_statement_61 (by decide) (fun q9 => ?_) (fun q9 => ?_)
      · have h := ite_n h q9
        refine lv_iconst (v := 0) hx hb dX7_statement_66 (by decide) ?_
        refine lv_istore (lv' := [(4, .int 0), (3, .ref (gad z ((a + 27) + 1 + (v1 : Int32).toNatClampNeg))), (2, .int x2), (0, .ref (gad z a)), (1, .int v1)]) hx hb dX7_statement_67 hl (by decide) rfl (fun ls hl => ?_)
        refine wX7_statement_69 X hr hlk k_a n_a (ke_7_27 k_a i1) (nE n_a i1 (Nat.le_of_ble_eq_true rfl)) _ _ _ _ _ _ h hG hS (lv_sub hl [3, 2, 1, 0] rfl)
      · have h := ite_y h q9
        refine lv_iconst (v := 0) hx hb dX7_statement_64 (by decide) ?_
        obtain rfl := Option.some.inj h
        exact g_zret (zn (Or.inl rfl)) X hr hlk hG hS dX7_statement_65
    · have h := ite_n h q6
      refine lv_aload_n hx hb dX7_statement_34 rfl (lv_at hl 1 rfl) ?_
      refine gf_X7_14 X hG (nx_0 n_a) k_a fl_X7_51 dX7_statement_35 ?_
      refine lv_iload_n hx hb dX7_statement_38 rfl (lv_at hl 2 rfl) ?_
      refine g_aldII X hG (nx_a (a := a) (k := 21) (n := 59) n_a (Nat.le_of_ble_eq_true rfl)) (kx_7_21 k_a) (by decide) i1 dX7_statement_39 ?_
      refine lv_goto (tgt := 49) hx hb dX7_statement_40 (by decide) ?_
      refine lv_astore_n (lv' := [(3, .ref (gad z ((a + 21) + 1 + (v1 : Int32).toNatClampNeg))), (2, .int x2), (0, .ref (gad z a)), (1, .int v1)]) hx hb dX7_statement_49 rfl hl (by decide) rfl (fun ls hl => ?_)
      refine lv_aload_n hx hb dX7_statement_50 rfl (lv_at hl 2 rfl) ?_
      obtain ⟨r10, hcr10, h⟩ := bd_y h
      refine g_cVV (a := a) (ci := 7) (T := TX7) (N := 37) (av := []) (rest := []) X hG hS (ct_X7_look l z k_a n_a hcr10) mt_X7_look ml_X7_177 rfl ⟨rfl, rfl, Nat.le_of_ble_eq_true rfl, Nat.le_of_ble_eq_true rfl⟩ ⟨Nat.le_refl 0, Nat.le_refl 0⟩ (nx_0 n_a) k_a (by decide) rfl hl.1 (Nat.le_of_ble_eq_true rfl) rfl dX7_statement_51 (fun H locs hG hS => ?_)
      refine lv_aload_n hx hb dX7_statement_54 rfl (lv_at hl 2 rfl) ?_
      refine lv_iconst (v := 0) hx hb dX7_statement_55 (by decide) ?_
      refine lv_bipush (v := 99) hx hb dX7_statement_56 (by decide) ?_
      obtain ⟨r11, hcr11, h⟩ := bd_y h
      refine g_cVI (a := a) (ci := 7) (T := TX7) (N := 37) (av := [.int 0, .int 99]) (rest := []) X hG hS (ct_X7_number l z k_a n_a hcr11) mt_X7_number ml_X7_189 rfl ⟨rfl, rfl, Nat.le_of_ble_eq_true rfl, Nat.le_of_ble_eq_true rfl⟩ ⟨Nat.le_refl 0, Nat.le_refl 0⟩ (nx_0 n_a) k_a (by decide) rfl hl.1 (Nat.le_of_ble_eq_true rfl) rfl dX7_statement_58 (fun H locs hG hS => ?_)
      refine lv_if_ne (tgt := 66) hx hb dX7_statement_61 (by decide) (fun q12 => ?_) (fun q12 => ?_)
      · have h := ite_n h q12
        refine lv_iconst (v := 0) hx hb dX7_statement_66 (by decide) ?_
        refine lv_istore (lv' := [(4, .int 0), (3, .ref (gad z ((a + 21) + 1 + (v1 : Int32).toNatClampNeg))), (2, .int x2), (0, .ref (gad z a)), (1, .int v1)]) hx hb dX7_statement_67 hl (by decide) rfl (fun ls hl => ?_)
        refine wX7_statement_69 X hr hlk k_a n_a (ke_7_21 k_a i1) (nE n_a i1 (Nat.le_of_ble_eq_true rfl)) _ _ _ _ _ _ h hG hS (lv_sub hl [3, 2, 1, 0] rfl)
      · have h := ite_y h q12
        refine lv_iconst (v := 0) hx hb dX7_statement_64 (by decide) ?_
        obtain rfl := Option.some.inj h
        exact g_zret (zn (Or.inl rfl)) X hr hlk hG hS dX7_statement_65
  · have h := ite_y h q4
    refine lv_aload_n hx hb dX7_statement_16 rfl (lv_at hl 1 rfl) ?_
    refine g_ldcS X (k := 2) (tx := "worth") (by decide) dX7_statement_17 ?_
    obtain ⟨r13, hcr13, h⟩ := bd_y h
    refine g_cVI (a := a) (ci := 7) (T := TX7) (N := 37) (av := [.ref (gsk z 2)]) (rest := []) X hG hS (ct_X7_isWord l z k_a n_a (by decide : 2 < 10) hcr13) mt_X7_isWord ml_X7_169 rfl ⟨rfl, rfl, Nat.le_of_ble_eq_true rfl, Nat.le_of_ble_eq_true rfl⟩ ⟨Nat.le_refl 0, Nat.le_refl 0⟩ (nx_0 n_a) k_a (by decide) rfl hl.1 (Nat.le_of_ble_eq_true rfl) rfl dX7_statement_19 (fun H locs hG hS => ?_)
    refine lv_if_eq (tgt := 91) hx hb dX7_statement_22 (by decide) (fun q14 => ?_) (fun q14 => ?_)
    · have h := ite_y h q14
      refine lv_aload_n hx hb dX7_statement_91 rfl (lv_at hl 1 rfl) ?_
      refine g_ldcS X (k := 3) (tx := "more") (by decide) dX7_statement_92 ?_
      obtain ⟨r15, hcr15, h⟩ := bd_y h
      refine g_cVI (a := a) (ci := 7) (T := TX7) (N := 37) (av := [.ref (gsk z 3)]) (rest := []) X hG hS (ct_X7_isWord l z k_a n_a (by decide : 3 < 10) hcr15) mt_X7_isWord ml_X7_169 rfl ⟨rfl, rfl, Nat.le_of_ble_eq_true rfl, Nat.le_of_ble_eq_true rfl⟩ ⟨Nat.le_refl 0, Nat.le_refl 0⟩ (nx_0 n_a) k_a (by decide) rfl hl.1 (Nat.le_of_ble_eq_true rfl) rfl dX7_statement_94 (fun H locs hG hS => ?_)
      refine lv_if_eq (tgt := 128) hx hb dX7_statement_97 (by decide) (fun q16 => ?_) (fun q16 => ?_)
      · have h := ite_y h q16
        refine lv_aload_n hx hb dX7_statement_128 rfl (lv_at hl 1 rfl) ?_
        refine g_ldcS X (k := 4) (tx := "one") (by decide) dX7_statement_129 ?_
        obtain ⟨r17, hcr17, h⟩ := bd_y h
        refine g_cVI (a := a) (ci := 7) (T := TX7) (N := 37) (av := [.ref (gsk z 4)]) (rest := []) X hG hS (ct_X7_isWord l z k_a n_a (by decide : 4 < 10) hcr17) mt_X7_isWord ml_X7_169 rfl ⟨rfl, rfl, Nat.le_of_ble_eq_true rfl, Nat.le_of_ble_eq_true rfl⟩ ⟨Nat.le_refl 0, Nat.le_refl 0⟩ (nx_0 n_a) k_a (by decide) rfl hl.1 (Nat.le_of_ble_eq_true rfl) rfl dX7_statement_131 (fun H locs hG hS => ?_)
        refine lv_if_eq (tgt := 227) hx hb dX7_statement_134 (by decide) (fun q18 => ?_) (fun q18 => ?_)
        · have h := ite_y h q18
          refine lv_aload_n hx hb dX7_statement_227 rfl (lv_at hl 1 rfl) ?_
          refine g_ldcS X (k := 5) (tx := "tie") (by decide) dX7_statement_228 ?_
          obtain ⟨r19, hcr19, h⟩ := bd_y h
          refine g_cVI (a := a) (ci := 7) (T := TX7) (N := 37) (av := [.ref (gsk z 5)]) (rest := []) X hG hS (ct_X7_isWord l z k_a n_a (by decide : 5 < 10) hcr19) mt_X7_isWord ml_X7_169 rfl ⟨rfl, rfl, Nat.le_of_ble_eq_true rfl, Nat.le_of_ble_eq_true rfl⟩ ⟨Nat.le_refl 0, Nat.le_refl 0⟩ (nx_0 n_a) k_a (by decide) rfl hl.1 (Nat.le_of_ble_eq_true rfl) rfl dX7_statement_230 (fun H locs hG hS => ?_)
          refine lv_if_eq (tgt := 243) hx hb dX7_statement_233 (by decide) (fun q20 => ?_) (fun q20 => ?_)
          · have h := ite_y h q20
            refine lv_aload_n hx hb dX7_statement_243 rfl (lv_at hl 1 rfl) ?_
            refine g_ldcS X (k := 7) (tx := "must") (by decide) dX7_statement_244 ?_
            obtain ⟨r21, hcr21, h⟩ := bd_y h
            refine g_cVI (a := a) (ci := 7) (T := TX7) (N := 37) (av := [.ref (gsk z 7)]) (rest := []) X hG hS (ct_X7_isWord l z k_a n_a (by decide : 7 < 10) hcr21) mt_X7_isWord ml_X7_169 rfl ⟨rfl, rfl, Nat.le_of_ble_eq_true rfl, Nat.le_of_ble_eq_true rfl⟩ ⟨Nat.le_refl 0, Nat.le_refl 0⟩ (nx_0 n_a) k_a (by decide) rfl hl.1 (Nat.le_of_ble_eq_true rfl) rfl dX7_statement_246 (fun H locs hG hS => ?_)
            refine lv_if_eq (tgt := 286) hx hb dX7_statement_249 (by decide) (fun q22 => ?_) (fun q22 => ?_)
            · have h := ite_y h q22
              refine lv_aload_n hx hb dX7_statement_286 rfl (lv_at hl 1 rfl) ?_
              refine g_ldcS X (k := 8) (tx := "ring") (by decide) dX7_statement_287 ?_
              obtain ⟨r23, hcr23, h⟩ := bd_y h
              refine g_cVI (a := a) (ci := 7) (T := TX7) (N := 37) (av := [.ref (gsk z 8)]) (rest := []) X hG hS (ct_X7_isWord l z k_a n_a (by decide : 8 < 10) hcr23) mt_X7_isWord ml_X7_169 rfl ⟨rfl, rfl, Nat.le_of_ble_eq_true rfl, Nat.le_of_ble_eq_true rfl⟩ ⟨Nat.le_refl 0, Nat.le_refl 0⟩ (nx_0 n_a) k_a (by decide) rfl hl.1 (Nat.le_of_ble_eq_true rfl) rfl dX7_statement_289 (fun H locs hG hS => ?_)
              refine lv_if_eq (tgt := 330) hx hb dX7_statement_292 (by decide) (fun q24 => ?_) (fun q24 => ?_)
              · have h := ite_y h q24
                refine lv_aload_n hx hb dX7_statement_330 rfl (lv_at hl 1 rfl) ?_
                refine g_ldcS X (k := 9) (tx := "all") (by decide) dX7_statement_331 ?_
                obtain ⟨r25, hcr25, h⟩ := bd_y h
                refine g_cVI (a := a) (ci := 7) (T := TX7) (N := 37) (av := [.ref (gsk z 9)]) (rest := []) X hG hS (ct_X7_isWord l z k_a n_a (by decide : 9 < 10) hcr25) mt_X7_isWord ml_X7_169 rfl ⟨rfl, rfl, Nat.le_of_ble_eq_true rfl, Nat.le_of_ble_eq_true rfl⟩ ⟨Nat.le_refl 0, Nat.le_refl 0⟩ (nx_0 n_a) k_a (by decide) rfl hl.1 (Nat.le_of_ble_eq_true rfl) rfl dX7_statement_333 (fun H locs hG hS => ?_)
                refine lv_if_eq (tgt := 381) hx hb dX7_statement_336 (by decide) (fun q26 => ?_) (fun q26 => ?_)
                · have h := ite_y h q26
                  refine lv_aload_n hx hb dX7_statement_381 rfl (lv_at hl 1 rfl) ?_
                  obtain ⟨r27, hcr27, h⟩ := bd_y h
                  refine g_cVI (a := a) (ci := 7) (T := TX7) (N := 37) (av := []) (rest := []) X hG hS (ct_X7_wrong l z k_a n_a hcr27) mt_X7_wrong ml_X7_173 rfl ⟨rfl, rfl, Nat.le_of_ble_eq_true rfl, Nat.le_of_ble_eq_true rfl⟩ ⟨Nat.le_refl 0, Nat.le_refl 0⟩ (nx_0 n_a) k_a (by decide) rfl hl.1 (Nat.le_of_ble_eq_true rfl) rfl dX7_statement_382 (fun H locs hG hS => ?_)
                  obtain ⟨q28, h⟩ := gc_y h
                  obtain rfl := Option.some.inj h
                  exact g_zret (zn q28) X hr hlk hG hS dX7_statement_385
                · have h := ite_n h q26
                  refine lv_aload_n hx hb dX7_statement_339 rfl (lv_at hl 1 rfl) ?_
                  obtain ⟨r29, hcr29, h⟩ := bd_y h
                  refine g_cVV (a := a) (ci := 7) (T := TX7) (N := 37) (av := []) (rest := []) X hG hS (ct_X7_look l z k_a n_a hcr29) mt_X7_look ml_X7_177 rfl ⟨rfl, rfl, Nat.le_of_ble_eq_true rfl, Nat.le_of_ble_eq_true rfl⟩ ⟨Nat.le_refl 0, Nat.le_refl 0⟩ (nx_0 n_a) k_a (by decide) rfl hl.1 (Nat.le_of_ble_eq_true rfl) rfl dX7_statement_340 (fun H locs hG hS => ?_)
                  refine lv_iconst (v := 0) hx hb dX7_statement_343 (by decide) ?_
                  refine lv_istore_n (lv' := [(3, .int 0), (2, .int x2), (0, .ref (gad z a)), (1, .int v1)]) hx hb dX7_statement_344 rfl hl (by decide) rfl (fun ls hl => ?_)
                  refine wX7_statement_345 X hr hlk k_a n_a _ _ _ _ _ _ h hG hS (lv_sub hl [2, 3, 1, 0] rfl)
              · have h := ite_n h q24
                refine lv_iload_n hx hb dX7_statement_295 rfl (lv_at hl 0 rfl) ?_
                refine lv_iconst (v := 3) hx hb dX7_statement_296 (by decide) ?_
                refine lv_icmp_lt (tgt := 330) hx hb dX7_statement_297 (by decide) (fun q30 => ?_) (fun q30 => ?_)
                · have h := ite_y h q30
                  refine lv_aload_n hx hb dX7_statement_330 rfl (lv_at hl 1 rfl) ?_
                  refine g_ldcS X (k := 9) (tx := "all") (by decide) dX7_statement_331 ?_
                  obtain ⟨r31, hcr31, h⟩ := bd_y h
                  refine g_cVI (a := a) (ci := 7) (T := TX7) (N := 37) (av := [.ref (gsk z 9)]) (rest := []) X hG hS (ct_X7_isWord l z k_a n_a (by decide : 9 < 10) hcr31) mt_X7_isWord ml_X7_169 rfl ⟨rfl, rfl, Nat.le_of_ble_eq_true rfl, Nat.le_of_ble_eq_true rfl⟩ ⟨Nat.le_refl 0, Nat.le_refl 0⟩ (nx_0 n_a) k_a (by decide) rfl hl.1 (Nat.le_of_ble_eq_true rfl) rfl dX7_statement_333 (fun H locs hG hS => ?_)
                  refine lv_if_eq (tgt := 381) hx hb dX7_statement_336 (by decide) (fun q32 => ?_) (fun q32 => ?_)
                  · have h := ite_y h q32
                    refine lv_aload_n hx hb dX7_statement_381 rfl (lv_at hl 1 rfl) ?_
                    obtain ⟨r33, hcr33, h⟩ := bd_y h
                    refine g_cVI (a := a) (ci := 7) (T := TX7) (N := 37) (av := []) (rest := []) X hG hS (ct_X7_wrong l z k_a n_a hcr33) mt_X7_wrong ml_X7_173 rfl ⟨rfl, rfl, Nat.le_of_ble_eq_true rfl, Nat.le_of_ble_eq_true rfl⟩ ⟨Nat.le_refl 0, Nat.le_refl 0⟩ (nx_0 n_a) k_a (by decide) rfl hl.1 (Nat.le_of_ble_eq_true rfl) rfl dX7_statement_382 (fun H locs hG hS => ?_)
                    obtain ⟨q34, h⟩ := gc_y h
                    obtain rfl := Option.some.inj h
                    exact g_zret (zn q34) X hr hlk hG hS dX7_statement_385
                  · have h := ite_n h q32
                    refine lv_aload_n hx hb dX7_statement_339 rfl (lv_at hl 1 rfl) ?_
                    obtain ⟨r35, hcr35, h⟩ := bd_y h
                    refine g_cVV (a := a) (ci := 7) (T := TX7) (N := 37) (av := []) (rest := []) X hG hS (ct_X7_look l z k_a n_a hcr35) mt_X7_look ml_X7_177 rfl ⟨rfl, rfl, Nat.le_of_ble_eq_true rfl, Nat.le_of_ble_eq_true rfl⟩ ⟨Nat.le_refl 0, Nat.le_refl 0⟩ (nx_0 n_a) k_a (by decide) rfl hl.1 (Nat.le_of_ble_eq_true rfl) rfl dX7_statement_340 (fun H locs hG hS => ?_)
                    refine lv_iconst (v := 0) hx hb dX7_statement_343 (by decide) ?_
                    refine lv_istore_n (lv' := [(3, .int 0), (2, .int x2), (0, .ref (gad z a)), (1, .int v1)]) hx hb dX7_statement_344 rfl hl (by decide) rfl (fun ls hl => ?_)
                    refine wX7_statement_345 X hr hlk k_a n_a _ _ _ _ _ _ h hG hS (lv_sub hl [2, 3, 1, 0] rfl)
                · have h := ite_n h q30
                  refine lv_aload_n hx hb dX7_statement_300 rfl (lv_at hl 1 rfl) ?_
                  obtain ⟨r36, hcr36, h⟩ := bd_y h
                  refine g_cVV (a := a) (ci := 7) (T := TX7) (N := 37) (av := []) (rest := []) X hG hS (ct_X7_look l z k_a n_a hcr36) mt_X7_look ml_X7_177 rfl ⟨rfl, rfl, Nat.le_of_ble_eq_true rfl, Nat.le_of_ble_eq_true rfl⟩ ⟨Nat.le_refl 0, Nat.le_refl 0⟩ (nx_0 n_a) k_a (by decide) rfl hl.1 (Nat.le_of_ble_eq_true rfl) rfl dX7_statement_301 (fun H locs hG hS => ?_)
                  refine lv_iconst (v := 0) hx hb dX7_statement_304 (by decide) ?_
                  refine lv_istore_n (lv' := [(3, .int 0), (2, .int x2), (0, .ref (gad z a)), (1, .int v1)]) hx hb dX7_statement_305 rfl hl (by decide) rfl (fun ls hl => ?_)
                  refine wX7_statement_306 X hr hlk k_a n_a _ _ _ _ _ _ h hG hS (lv_sub hl [2, 3, 1, 0] rfl)
            · have h := ite_n h q22
              refine lv_aload_n hx hb dX7_statement_252 rfl (lv_at hl 1 rfl) ?_
              obtain ⟨r37, hcr37, h⟩ := bd_y h
              refine g_cVV (a := a) (ci := 7) (T := TX7) (N := 37) (av := []) (rest := []) X hG hS (ct_X7_look l z k_a n_a hcr37) mt_X7_look ml_X7_177 rfl ⟨rfl, rfl, Nat.le_of_ble_eq_true rfl, Nat.le_of_ble_eq_true rfl⟩ ⟨Nat.le_refl 0, Nat.le_refl 0⟩ (nx_0 n_a) k_a (by decide) rfl hl.1 (Nat.le_of_ble_eq_true rfl) rfl dX7_statement_253 (fun H locs hG hS => ?_)
              refine lv_aload_n hx hb dX7_statement_256 rfl (lv_at hl 1 rfl) ?_
              refine lv_iconst (v := 0) hx hb dX7_statement_257 (by decide) ?_
              refine lv_iload_n hx hb dX7_statement_258 rfl (lv_at hl 0 rfl) ?_
              refine lv_iconst (v := 1) hx hb dX7_statement_259 (by decide) ?_
              refine lv_isub hx hb dX7_statement_260 ?_
              obtain ⟨r38, hcr38, h⟩ := bd_y h
              refine g_cVI (a := a) (ci := 7) (T := TX7) (N := 37) (av := [.int 0, .int (x2 - 1)]) (rest := []) X hG hS (ct_X7_number l z k_a n_a hcr38) mt_X7_number ml_X7_189 rfl ⟨rfl, rfl, Nat.le_of_ble_eq_true rfl, Nat.le_of_ble_eq_true rfl⟩ ⟨Nat.le_refl 0, Nat.le_refl 0⟩ (nx_0 n_a) k_a (by decide) rfl hl.1 (Nat.le_of_ble_eq_true rfl) rfl dX7_statement_261 (fun H locs hG hS => ?_)
              refine lv_if_ne (tgt := 269) hx hb dX7_statement_264 (by decide) (fun q39 => ?_) (fun q39 => ?_)
              · have h := ite_n h q39
                refine lv_aload_n hx hb dX7_statement_269 rfl (lv_at hl 1 rfl) ?_
                refine gf_X7_13 X hG (nx_0 n_a) k_a fl_X7_46 dX7_statement_270 ?_
                refine lv_iload_n hx hb dX7_statement_273 rfl (lv_at hl 2 rfl) ?_
                refine lv_dup2_11 hx hb dX7_statement_274 rfl rfl ?_
                refine g_iald X hG (nx_a (a := a) (k := 20) (n := 59) n_a (Nat.le_of_ble_eq_true rfl)) (kx_7_20 k_a) (by decide) i1 dX7_statement_275 ?_
                refine lv_iconst (v := 1) hx hb dX7_statement_276 (by decide) ?_
                refine lv_aload_n hx hb dX7_statement_277 rfl (lv_at hl 1 rfl) ?_
                refine gf_X7_32 X hG (nx_0 n_a) k_a fl_X7_180 dX7_statement_278 ?_
                refine lv_ishl hx hb dX7_statement_281 ?_
                refine lv_ior hx hb dX7_statement_282 ?_
                refine g_iast X hG hS (nx_a (a := a) (k := 20) (n := 59) n_a (Nat.le_of_ble_eq_true rfl)) (kx_7_20 k_a) (by decide) i1 dX7_statement_283 (fun H locs hG hS => ?_)
                obtain ⟨M40, eM40⟩ : ∃ y, y = sI r38.2 (a + 20) (v1 : Int32).toNatClampNeg ((r38.2.1 (a + 20) (v1 : Int32).toNatClampNeg) ||| (1 <<< ((r38.2.1 a 32) &&& 31))) := ⟨_, rfl⟩
                rw [← eM40] at hG
                have h := nm_y h M40 eM40
                refine lv_iconst (v := 1) hx hb dX7_statement_284 (by decide) ?_
                obtain rfl := Option.some.inj h
                exact g_zret (zn (Or.inr rfl)) X hr hlk hG hS dX7_statement_285
              · have h := ite_y h q39
                refine lv_iconst (v := 0) hx hb dX7_statement_267 (by decide) ?_
                obtain rfl := Option.some.inj h
                exact g_zret (zn (Or.inl rfl)) X hr hlk hG hS dX7_statement_268
          · have h := ite_n h q20
            refine lv_aload_n hx hb dX7_statement_236 rfl (lv_at hl 1 rfl) ?_
            refine lv_iload_n hx hb dX7_statement_237 rfl (lv_at hl 2 rfl) ?_
            refine lv_iload_n hx hb dX7_statement_238 rfl (lv_at hl 0 rfl) ?_
            obtain ⟨r41, hcr41, h⟩ := bd_y h
            refine g_cVI (a := a) (ci := 7) (T := TX7) (N := 37) (av := [.int v1, .int x2]) (rest := []) X hG hS (ct_X7_tieTold l z k_a n_a hcr41) mt_X7_tieTold ml_X7_199 rfl ⟨rfl, rfl, Nat.le_of_ble_eq_true rfl, Nat.le_of_ble_eq_true rfl⟩ ⟨Nat.le_refl 0, Nat.le_refl 0⟩ (nx_0 n_a) k_a (by decide) rfl hl.1 (Nat.le_of_ble_eq_true rfl) rfl dX7_statement_239 (fun H locs hG hS => ?_)
            obtain ⟨q42, h⟩ := gc_y h
            obtain rfl := Option.some.inj h
            exact g_zret (zn q42) X hr hlk hG hS dX7_statement_242
        · have h := ite_n h q18
          refine lv_aload_n hx hb dX7_statement_137 rfl (lv_at hl 1 rfl) ?_
          obtain ⟨r43, hcr43, h⟩ := bd_y h
          refine g_cVV (a := a) (ci := 7) (T := TX7) (N := 37) (av := []) (rest := []) X hG hS (ct_X7_look l z k_a n_a hcr43) mt_X7_look ml_X7_177 rfl ⟨rfl, rfl, Nat.le_of_ble_eq_true rfl, Nat.le_of_ble_eq_true rfl⟩ ⟨Nat.le_refl 0, Nat.le_refl 0⟩ (nx_0 n_a) k_a (by decide) rfl hl.1 (Nat.le_of_ble_eq_true rfl) rfl dX7_statement_138 (fun H locs hG hS => ?_)
          refine lv_aload_n hx hb dX7_statement_141 rfl (lv_at hl 1 rfl) ?_
          refine lv_iconst (v := 0) hx hb dX7_statement_142 (by decide) ?_
          refine lv_iload_n hx hb dX7_statement_143 rfl (lv_at hl 0 rfl) ?_
          refine lv_iconst (v := 1) hx hb dX7_statement_144 (by decide) ?_
          refine lv_isub hx hb dX7_statement_145 ?_
          obtain ⟨r44, hcr44, h⟩ := bd_y h
          refine g_cVI (a := a) (ci := 7) (T := TX7) (N := 37) (av := [.int 0, .int (x2 - 1)]) (rest := []) X hG hS (ct_X7_number l z k_a n_a hcr44) mt_X7_number ml_X7_189 rfl ⟨rfl, rfl, Nat.le_of_ble_eq_true rfl, Nat.le_of_ble_eq_true rfl⟩ ⟨Nat.le_refl 0, Nat.le_refl 0⟩ (nx_0 n_a) k_a (by decide) rfl hl.1 (Nat.le_of_ble_eq_true rfl) rfl dX7_statement_146 (fun H locs hG hS => ?_)
          refine lv_if_ne (tgt := 154) hx hb dX7_statement_149 (by decide) (fun q45 => ?_) (fun q45 => ?_)
          · have h := ite_n h q45
            refine lv_aload_n hx hb dX7_statement_154 rfl (lv_at hl 1 rfl) ?_
            refine gf_X7_32 X hG (nx_0 n_a) k_a fl_X7_180 dX7_statement_155 ?_
            refine lv_topi (fun x46 ex46 => ?_)
            have h := nm_y h x46 ex46
            refine lv_istore_n (lv' := [(3, .int x46), (2, .int x2), (0, .ref (gad z a)), (1, .int v1)]) hx hb dX7_statement_158 rfl hl (by decide) rfl (fun ls hl => ?_)
            refine lv_aload_n hx hb dX7_statement_159 rfl (lv_at hl 2 rfl) ?_
            refine g_ldcS X (k := 1) (tx := "cost") (by decide) dX7_statement_160 ?_
            obtain ⟨r47, hcr47, h⟩ := bd_y h
            refine g_cVI (a := a) (ci := 7) (T := TX7) (N := 37) (av := [.ref (gsk z 1)]) (rest := []) X hG hS (ct_X7_word l z k_a n_a (by decide : 1 < 10) hcr47) mt_X7_word ml_X7_194 rfl ⟨rfl, rfl, Nat.le_of_ble_eq_true rfl, Nat.le_of_ble_eq_true rfl⟩ ⟨Nat.le_refl 0, Nat.le_refl 0⟩ (nx_0 n_a) k_a (by decide) rfl hl.1 (Nat.le_of_ble_eq_true rfl) rfl dX7_statement_162 (fun H locs hG hS => ?_)
            refine lv_if_eq (tgt := 178) hx hb dX7_statement_165 (by decide) (fun q48 => ?_) (fun q48 => ?_)
            · have h := ite_y h q48
              refine lv_iconst (v := 0) hx hb dX7_statement_178 (by decide) ?_
              obtain rfl := Option.some.inj h
              exact g_zret (zn (Or.inl rfl)) X hr hlk hG hS dX7_statement_179
            · have h := ite_n h q48
              refine lv_aload_n hx hb dX7_statement_168 rfl (lv_at hl 2 rfl) ?_
              refine lv_iconst (v := 0) hx hb dX7_statement_169 (by decide) ?_
              refine lv_bipush (v := 99) hx hb dX7_statement_170 (by decide) ?_
              obtain ⟨r49, hcr49, h⟩ := bd_y h
              refine g_cVI (a := a) (ci := 7) (T := TX7) (N := 37) (av := [.int 0, .int 99]) (rest := []) X hG hS (ct_X7_number l z k_a n_a hcr49) mt_X7_number ml_X7_189 rfl ⟨rfl, rfl, Nat.le_of_ble_eq_true rfl, Nat.le_of_ble_eq_true rfl⟩ ⟨Nat.le_refl 0, Nat.le_refl 0⟩ (nx_0 n_a) k_a (by decide) rfl hl.1 (Nat.le_of_ble_eq_true rfl) rfl dX7_statement_172 (fun H locs hG hS => ?_)
              refine lv_if_ne (tgt := 180) hx hb dX7_statement_175 (by decide) (fun q50 => ?_) (fun q50 => ?_)
              · have h := ite_n h q50
                refine lv_aload_n hx hb dX7_statement_180 rfl (lv_at hl 2 rfl) ?_
                refine gf_X7_14 X hG (nx_0 n_a) k_a fl_X7_51 dX7_statement_181 ?_
                refine lv_iload_n hx hb dX7_statement_184 rfl (lv_at hl 3 rfl) ?_
                refine g_aldII X hG (nx_a (a := a) (k := 21) (n := 59) n_a (Nat.le_of_ble_eq_true rfl)) (kx_7_21 k_a) (by decide) i1 dX7_statement_185 ?_
                refine lv_iload_n hx hb dX7_statement_186 rfl (lv_at hl 0 rfl) ?_
                refine lv_aload_n hx hb dX7_statement_187 rfl (lv_at hl 2 rfl) ?_
                refine gf_X7_32 X hG (nx_0 n_a) k_a fl_X7_180 dX7_statement_188 ?_
                obtain ⟨i51, h⟩ := gd_y h
                refine g_iast X hG hS (nE n_a i1 (Nat.le_of_ble_eq_true rfl)) (ke_7_21 k_a i1) (by decide) i51 dX7_statement_191 (fun H locs hG hS => ?_)
                obtain ⟨M52, eM52⟩ : ∃ y, y = sI r49.2 ((a + 21) + 1 + (v1 : Int32).toNatClampNeg) (x46 : Int32).toNatClampNeg (r49.2.1 a 32) := ⟨_, rfl⟩
                rw [← eM52] at hG
                have h := nm_y h M52 eM52
                refine lv_aload_n hx hb dX7_statement_192 rfl (lv_at hl 2 rfl) ?_
                refine g_ldcS X (k := 2) (tx := "worth") (by decide) dX7_statement_193 ?_
                obtain ⟨r53, hcr53, h⟩ := bd_y h
                refine g_cVI (a := a) (ci := 7) (T := TX7) (N := 37) (av := [.ref (gsk z 2)]) (rest := []) X hG hS (ct_X7_word l z k_a n_a (by decide : 2 < 10) hcr53) mt_X7_word ml_X7_194 rfl ⟨rfl, rfl, Nat.le_of_ble_eq_true rfl, Nat.le_of_ble_eq_true rfl⟩ ⟨Nat.le_refl 0, Nat.le_refl 0⟩ (nx_0 n_a) k_a (by decide) rfl hl.1 (Nat.le_of_ble_eq_true rfl) rfl dX7_statement_195 (fun H locs hG hS => ?_)
                refine lv_if_eq (tgt := 211) hx hb dX7_statement_198 (by decide) (fun q54 => ?_) (fun q54 => ?_)
                · have h := ite_y h q54
                  refine lv_iconst (v := 0) hx hb dX7_statement_211 (by decide) ?_
                  obtain rfl := Option.some.inj h
                  exact g_zret (zn (Or.inl rfl)) X hr hlk hG hS dX7_statement_212
                · have h := ite_n h q54
                  refine lv_aload_n hx hb dX7_statement_201 rfl (lv_at hl 2 rfl) ?_
                  refine lv_iconst (v := 0) hx hb dX7_statement_202 (by decide) ?_
                  refine lv_bipush (v := 99) hx hb dX7_statement_203 (by decide) ?_
                  obtain ⟨r55, hcr55, h⟩ := bd_y h
                  refine g_cVI (a := a) (ci := 7) (T := TX7) (N := 37) (av := [.int 0, .int 99]) (rest := []) X hG hS (ct_X7_number l z k_a n_a hcr55) mt_X7_number ml_X7_189 rfl ⟨rfl, rfl, Nat.le_of_ble_eq_true rfl, Nat.le_of_ble_eq_true rfl⟩ ⟨Nat.le_refl 0, Nat.le_refl 0⟩ (nx_0 n_a) k_a (by decide) rfl hl.1 (Nat.le_of_ble_eq_true rfl) rfl dX7_statement_205 (fun H locs hG hS => ?_)
                  refine lv_if_ne (tgt := 213) hx hb dX7_statement_208 (by decide) (fun q56 => ?_) (fun q56 => ?_)
                  · have h := ite_n h q56
                    refine lv_aload_n hx hb dX7_statement_213 rfl (lv_at hl 2 rfl) ?_
                    refine gf_X7_15 X hG (nx_0 n_a) k_a fl_X7_54 dX7_statement_214 ?_
                    refine lv_iload_n hx hb dX7_statement_217 rfl (lv_at hl 3 rfl) ?_
                    refine g_aldII X hG (nx_a (a := a) (k := 27) (n := 59) n_a (Nat.le_of_ble_eq_true rfl)) (kx_7_27 k_a) (by decide) i1 dX7_statement_218 ?_
                    refine lv_iload_n hx hb dX7_statement_219 rfl (lv_at hl 0 rfl) ?_
                    refine lv_aload_n hx hb dX7_statement_220 rfl (lv_at hl 2 rfl) ?_
                    refine gf_X7_32 X hG (nx_0 n_a) k_a fl_X7_180 dX7_statement_221 ?_
                    refine g_iast X hG hS (nE n_a i1 (Nat.le_of_ble_eq_true rfl)) (ke_7_27 k_a i1) (by decide) i51 dX7_statement_224 (fun H locs hG hS => ?_)
                    obtain ⟨M57, eM57⟩ : ∃ y, y = sI r55.2 ((a + 27) + 1 + (v1 : Int32).toNatClampNeg) (x46 : Int32).toNatClampNeg (r55.2.1 a 32) := ⟨_, rfl⟩
                    rw [← eM57] at hG
                    have h := nm_y h M57 eM57
                    refine lv_iconst (v := 1) hx hb dX7_statement_225 (by decide) ?_
                    obtain rfl := Option.some.inj h
                    exact g_zret (zn (Or.inr rfl)) X hr hlk hG hS dX7_statement_226
                  · have h := ite_y h q56
                    refine lv_iconst (v := 0) hx hb dX7_statement_211 (by decide) ?_
                    obtain rfl := Option.some.inj h
                    exact g_zret (zn (Or.inl rfl)) X hr hlk hG hS dX7_statement_212
              · have h := ite_y h q50
                refine lv_iconst (v := 0) hx hb dX7_statement_178 (by decide) ?_
                obtain rfl := Option.some.inj h
                exact g_zret (zn (Or.inl rfl)) X hr hlk hG hS dX7_statement_179
          · have h := ite_y h q45
            refine lv_iconst (v := 0) hx hb dX7_statement_152 (by decide) ?_
            obtain rfl := Option.some.inj h
            exact g_zret (zn (Or.inl rfl)) X hr hlk hG hS dX7_statement_153
      · have h := ite_n h q16
        refine lv_aload_n hx hb dX7_statement_100 rfl (lv_at hl 1 rfl) ?_
        obtain ⟨r58, hcr58, h⟩ := bd_y h
        refine g_cVV (a := a) (ci := 7) (T := TX7) (N := 37) (av := []) (rest := []) X hG hS (ct_X7_look l z k_a n_a hcr58) mt_X7_look ml_X7_177 rfl ⟨rfl, rfl, Nat.le_of_ble_eq_true rfl, Nat.le_of_ble_eq_true rfl⟩ ⟨Nat.le_refl 0, Nat.le_refl 0⟩ (nx_0 n_a) k_a (by decide) rfl hl.1 (Nat.le_of_ble_eq_true rfl) rfl dX7_statement_101 (fun H locs hG hS => ?_)
        refine lv_aload_n hx hb dX7_statement_104 rfl (lv_at hl 1 rfl) ?_
        refine lv_iconst (v := 0) hx hb dX7_statement_105 (by decide) ?_
        refine lv_bipush (v := 9) hx hb dX7_statement_106 (by decide) ?_
        obtain ⟨r59, hcr59, h⟩ := bd_y h
        refine g_cVI (a := a) (ci := 7) (T := TX7) (N := 37) (av := [.int 0, .int 9]) (rest := []) X hG hS (ct_X7_number l z k_a n_a hcr59) mt_X7_number ml_X7_189 rfl ⟨rfl, rfl, Nat.le_of_ble_eq_true rfl, Nat.le_of_ble_eq_true rfl⟩ ⟨Nat.le_refl 0, Nat.le_refl 0⟩ (nx_0 n_a) k_a (by decide) rfl hl.1 (Nat.le_of_ble_eq_true rfl) rfl dX7_statement_108 (fun H locs hG hS => ?_)
        refine lv_if_ne (tgt := 116) hx hb dX7_statement_111 (by decide) (fun q60 => ?_) (fun q60 => ?_)
        · have h := ite_n h q60
          refine lv_aload_n hx hb dX7_statement_116 rfl (lv_at hl 1 rfl) ?_
          refine gf_X7_12 X hG (nx_0 n_a) k_a fl_X7_43 dX7_statement_117 ?_
          refine lv_iload_n hx hb dX7_statement_120 rfl (lv_at hl 2 rfl) ?_
          refine lv_aload_n hx hb dX7_statement_121 rfl (lv_at hl 1 rfl) ?_
          refine gf_X7_32 X hG (nx_0 n_a) k_a fl_X7_180 dX7_statement_122 ?_
          refine g_iast X hG hS (nx_a (a := a) (k := 19) (n := 59) n_a (Nat.le_of_ble_eq_true rfl)) (kx_7_19 k_a) (by decide) i1 dX7_statement_125 (fun H locs hG hS => ?_)
          obtain ⟨M61, eM61⟩ : ∃ y, y = sI r59.2 (a + 19) (v1 : Int32).toNatClampNeg (r59.2.1 a 32) := ⟨_, rfl⟩
          rw [← eM61] at hG
          have h := nm_y h M61 eM61
          refine lv_iconst (v := 1) hx hb dX7_statement_126 (by decide) ?_
          obtain rfl := Option.some.inj h
          exact g_zret (zn (Or.inr rfl)) X hr hlk hG hS dX7_statement_127
        · have h := ite_y h q60
          refine lv_iconst (v := 0) hx hb dX7_statement_114 (by decide) ?_
          obtain rfl := Option.some.inj h
          exact g_zret (zn (Or.inl rfl)) X hr hlk hG hS dX7_statement_115
    · have h := ite_n h q14
      refine lv_aload_n hx hb dX7_statement_25 rfl (lv_at hl 1 rfl) ?_
      refine g_ldcS X (k := 1) (tx := "cost") (by decide) dX7_statement_26 ?_
      obtain ⟨r62, hcr62, h⟩ := bd_y h
      refine g_cVI (a := a) (ci := 7) (T := TX7) (N := 37) (av := [.ref (gsk z 1)]) (rest := []) X hG hS (ct_X7_isWord l z k_a n_a (by decide : 1 < 10) hcr62) mt_X7_isWord ml_X7_169 rfl ⟨rfl, rfl, Nat.le_of_ble_eq_true rfl, Nat.le_of_ble_eq_true rfl⟩ ⟨Nat.le_refl 0, Nat.le_refl 0⟩ (nx_0 n_a) k_a (by decide) rfl hl.1 (Nat.le_of_ble_eq_true rfl) rfl dX7_statement_28 (fun H locs hG hS => ?_)
      refine lv_if_eq (tgt := 43) hx hb dX7_statement_31 (by decide) (fun q63 => ?_) (fun q63 => ?_)
      · have h := ite_y h q63
        refine lv_aload_n hx hb dX7_statement_43 rfl (lv_at hl 1 rfl) ?_
        refine gf_X7_15 X hG (nx_0 n_a) k_a fl_X7_54 dX7_statement_44 ?_
        refine lv_iload_n hx hb dX7_statement_47 rfl (lv_at hl 2 rfl) ?_
        refine g_aldII X hG (nx_a (a := a) (k := 27) (n := 59) n_a (Nat.le_of_ble_eq_true rfl)) (kx_7_27 k_a) (by decide) i1 dX7_statement_48 ?_
        refine lv_astore_n (lv' := [(3, .ref (gad z ((a + 27) + 1 + (v1 : Int32).toNatClampNeg))), (2, .int x2), (0, .ref (gad z a)), (1, .int v1)]) hx hb dX7_statement_49 rfl hl (by decide) rfl (fun ls hl => ?_)
        refine lv_aload_n hx hb dX7_statement_50 rfl (lv_at hl 2 rfl) ?_
        obtain ⟨r64, hcr64, h⟩ := bd_y h
        refine g_cVV (a := a) (ci := 7) (T := TX7) (N := 37) (av := []) (rest := []) X hG hS (ct_X7_look l z k_a n_a hcr64) mt_X7_look ml_X7_177 rfl ⟨rfl, rfl, Nat.le_of_ble_eq_true rfl, Nat.le_of_ble_eq_true rfl⟩ ⟨Nat.le_refl 0, Nat.le_refl 0⟩ (nx_0 n_a) k_a (by decide) rfl hl.1 (Nat.le_of_ble_eq_true rfl) rfl dX7_statement_51 (fun H locs hG hS => ?_)
        refine lv_aload_n hx hb dX7_statement_54 rfl (lv_at hl 2 rfl) ?_
        refine lv_iconst (v := 0) hx hb dX7_statement_55 (by decide) ?_
        refine lv_bipush (v := 99) hx hb dX7_statement_56 (by decide) ?_
        obtain ⟨r65, hcr65, h⟩ := bd_y h
        refine g_cVI (a := a) (ci := 7) (T := TX7) (N := 37) (av := [.int 0, .int 99]) (rest := []) X hG hS (ct_X7_number l z k_a n_a hcr65) mt_X7_number ml_X7_189 rfl ⟨rfl, rfl, Nat.le_of_ble_eq_true rfl, Nat.le_of_ble_eq_true rfl⟩ ⟨Nat.le_refl 0, Nat.le_refl 0⟩ (nx_0 n_a) k_a (by decide) rfl hl.1 (Nat.le_of_ble_eq_true rfl) rfl dX7_statement_58 (fun H locs hG hS => ?_)
        refine lv_if_ne (tgt := 66) hx hb dX7_statement_61 (by decide) (fun q66 => ?_) (fun q66 => ?_)
        · have h := ite_n h q66
          refine lv_iconst (v := 0) hx hb dX7_statement_66 (by decide) ?_
          refine lv_istore (lv' := [(4, .int 0), (3, .ref (gad z ((a + 27) + 1 + (v1 : Int32).toNatClampNeg))), (2, .int x2), (0, .ref (gad z a)), (1, .int v1)]) hx hb dX7_statement_67 hl (by decide) rfl (fun ls hl => ?_)
          refine wX7_statement_69 X hr hlk k_a n_a (ke_7_27 k_a i1) (nE n_a i1 (Nat.le_of_ble_eq_true rfl)) _ _ _ _ _ _ h hG hS (lv_sub hl [3, 2, 1, 0] rfl)
        · have h := ite_y h q66
          refine lv_iconst (v := 0) hx hb dX7_statement_64 (by decide) ?_
          obtain rfl := Option.some.inj h
          exact g_zret (zn (Or.inl rfl)) X hr hlk hG hS dX7_statement_65
      · have h := ite_n h q63
        refine lv_aload_n hx hb dX7_statement_34 rfl (lv_at hl 1 rfl) ?_
        refine gf_X7_14 X hG (nx_0 n_a) k_a fl_X7_51 dX7_statement_35 ?_
        refine lv_iload_n hx hb dX7_statement_38 rfl (lv_at hl 2 rfl) ?_
        refine g_aldII X hG (nx_a (a := a) (k := 21) (n := 59) n_a (Nat.le_of_ble_eq_true rfl)) (kx_7_21 k_a) (by decide) i1 dX7_statement_39 ?_
        refine lv_goto (tgt := 49) hx hb dX7_statement_40 (by decide) ?_
        refine lv_astore_n (lv' := [(3, .ref (gad z ((a + 21) + 1 + (v1 : Int32).toNatClampNeg))), (2, .int x2), (0, .ref (gad z a)), (1, .int v1)]) hx hb dX7_statement_49 rfl hl (by decide) rfl (fun ls hl => ?_)
        refine lv_aload_n hx hb dX7_statement_50 rfl (lv_at hl 2 rfl) ?_
        obtain ⟨r67, hcr67, h⟩ := bd_y h
        refine g_cVV (a := a) (ci := 7) (T := TX7) (N := 37) (av := []) (rest := []) X hG hS (ct_X7_look l z k_a n_a hcr67) mt_X7_look ml_X7_177 rfl ⟨rfl, rfl, Nat.le_of_ble_eq_true rfl, Nat.le_of_ble_eq_true rfl⟩ ⟨Nat.le_refl 0, Nat.le_refl 0⟩ (nx_0 n_a) k_a (by decide) rfl hl.1 (Nat.le_of_ble_eq_true rfl) rfl dX7_statement_51 (fun H locs hG hS => ?_)
        refine lv_aload_n hx hb dX7_statement_54 rfl (lv_at hl 2 rfl) ?_
        refine lv_iconst (v := 0) hx hb dX7_statement_55 (by decide) ?_
        refine lv_bipush (v := 99) hx hb dX7_statement_56 (by decide) ?_
        obtain ⟨r68, hcr68, h⟩ := bd_y h
        refine g_cVI (a := a) (ci := 7) (T := TX7) (N := 37) (av := [.int 0, .int 99]) (rest := []) X hG hS (ct_X7_number l z k_a n_a hcr68) mt_X7_number ml_X7_189 rfl ⟨rfl, rfl, Nat.le_of_ble_eq_true rfl, Nat.le_of_ble_eq_true rfl⟩ ⟨Nat.le_refl 0, Nat.le_refl 0⟩ (nx_0 n_a) k_a (by decide) rfl hl.1 (Nat.le_of_ble_eq_true rfl) rfl dX7_statement_58 (fun H locs hG hS => ?_)
        refine lv_if_ne (tgt := 66) hx hb dX7_statement_61 (by decide) (fun q69 => ?_) (fun q69 => ?_)
        · have h := ite_n h q69
          refine lv_iconst (v := 0) hx hb dX7_statement_66 (by decide) ?_
          refine lv_istore (lv' := [(4, .int 0), (3, .ref (gad z ((a + 21) + 1 + (v1 : Int32).toNatClampNeg))), (2, .int x2), (0, .ref (gad z a)), (1, .int v1)]) hx hb dX7_statement_67 hl (by decide) rfl (fun ls hl => ?_)
          refine wX7_statement_69 X hr hlk k_a n_a (ke_7_21 k_a i1) (nE n_a i1 (Nat.le_of_ble_eq_true rfl)) _ _ _ _ _ _ h hG hS (lv_sub hl [3, 2, 1, 0] rfl)
        · have h := ite_y h q69
          refine lv_iconst (v := 0) hx hb dX7_statement_64 (by decide) ?_
          obtain rfl := Option.some.inj h
          exact g_zret (zn (Or.inl rfl)) X hr hlk hG hS dX7_statement_65
set_option maxRecDepth 100000 in
set_option maxHeartbeats 4000000 in
theorem wX7_empty_47 {N : Nat} {p : Program} {l : Launch} {e : Env} {s : State} {m : MethodId} {args : Array Value} {below : List Frame} {meth : Method} {c : Code} {z : gZ} {a : Nat} {u1 : Int32} {u2 : Int32} {o : Mem} (X : gX p m c cX7_empty 4 s args RX7 z) (hr : meth.sig.returnType = none) (hlk : meth.locks = false) (k_a : kd a = 7) (n_a : a + 59 ≤ gn z)  : ∀ (n : Nat) (Mw : Mem) (w3 : Int32) (H : Heap) (locs : List Loc) (ls : Array Slot), fX7_empty_47 N a u1 u2  n Mw w3 = some o → gW z Mw H → va_S (gA z) s.heap H locs → lv_has ls 4 [(0, .ref (gad z a)), (1, .int u1), (2, .int u2), (3, .int w3)] → W p l e { frames := 0, cells := 0, slots := 0, locals := 0 } s m args below meth c H locs 0 0 (MQ below (va_Qv (fun (_ : Unit) => True) (fun _ t => gW z o t.heap) (gA z)) args s 0 0 (gA z)) (F0 m 47 ls []) := by
  have hx := X.1
  have hb := X.2.1
  intro n
  induction n with
  | zero => intro Mw w3 H locs ls h; cases h
  | succ n ih =>
    intro Mw w3 H locs ls h hG hS hl
    rw [fX7_empty_47] at h
    refine lv_iload_n hx hb dX7_empty_47 rfl (lv_at hl 3 rfl) ?_
    refine lv_bipush (v := 12) hx hb dX7_empty_48 (by decide) ?_
    refine lv_icmp_ge (tgt := 87) hx hb dX7_empty_50 (by decide) (fun q1 => ?_) (fun q1 => ?_)
    · have h := ite_y h q1
      obtain rfl := Option.some.inj h
      exact g_vret X hr hlk hG hS dX7_empty_87
    · have h := ite_n h q1
      refine lv_aload_n hx hb dX7_empty_53 rfl (lv_at hl 0 rfl) ?_
      refine gf_X7_17 X hG (nx_0 n_a) k_a fl_X7_60 dX7_empty_54 ?_
      refine lv_iload_n hx hb dX7_empty_57 rfl (lv_at hl 1 rfl) ?_
      obtain ⟨i2, h⟩ := gd_y h
      refine g_aldII X hG (nx_a (a := a) (k := 39) (n := 59) n_a (Nat.le_of_ble_eq_true rfl)) (kx_7_39 k_a) (by decide) i2 dX7_empty_58 ?_
      refine lv_iload_n hx hb dX7_empty_59 rfl (lv_at hl 2 rfl) ?_
      refine lv_bipush (v := 12) hx hb dX7_empty_60 (by decide) ?_
      refine lv_imul hx hb dX7_empty_62 ?_
      refine lv_iload_n hx hb dX7_empty_63 rfl (lv_at hl 3 rfl) ?_
      refine lv_iadd hx hb dX7_empty_64 ?_
      refine lv_iconst (v := 0) hx hb dX7_empty_65 (by decide) ?_
      obtain ⟨i3, h⟩ := gd_y h
      refine g_iast X hG hS (nE n_a i2 (Nat.le_of_ble_eq_true rfl)) (ke_7_39 k_a i2) (by decide) i3 dX7_empty_66 (fun H locs hG hS => ?_)
      obtain ⟨M4, eM4⟩ : ∃ y, y = sI Mw ((a + 39) + 1 + (u1 : Int32).toNatClampNeg) (((u2 * 12) + w3) : Int32).toNatClampNeg 0 := ⟨_, rfl⟩
      rw [← eM4] at hG
      have h := nm_y h M4 eM4
      refine lv_aload_n hx hb dX7_empty_67 rfl (lv_at hl 0 rfl) ?_
      refine gf_X7_17 X hG (nx_0 n_a) k_a fl_X7_60 dX7_empty_68 ?_
      refine lv_iload_n hx hb dX7_empty_71 rfl (lv_at hl 1 rfl) ?_
      refine g_aldII X hG (nx_a (a := a) (k := 39) (n := 59) n_a (Nat.le_of_ble_eq_true rfl)) (kx_7_39 k_a) (by decide) i2 dX7_empty_72 ?_
      refine lv_iload_n hx hb dX7_empty_73 rfl (lv_at hl 3 rfl) ?_
      refine lv_bipush (v := 12) hx hb dX7_empty_74 (by decide) ?_
      refine lv_imul hx hb dX7_empty_76 ?_
      refine lv_iload_n hx hb dX7_empty_77 rfl (lv_at hl 2 rfl) ?_
      refine lv_iadd hx hb dX7_empty_78 ?_
      refine lv_iconst (v := 0) hx hb dX7_empty_79 (by decide) ?_
      obtain ⟨i5, h⟩ := gd_y h
      refine g_iast X hG hS (nE n_a i2 (Nat.le_of_ble_eq_true rfl)) (ke_7_39 k_a i2) (by decide) i5 dX7_empty_80 (fun H locs hG hS => ?_)
      obtain ⟨M6, eM6⟩ : ∃ y, y = sI M4 ((a + 39) + 1 + (u1 : Int32).toNatClampNeg) (((w3 * 12) + u2) : Int32).toNatClampNeg 0 := ⟨_, rfl⟩
      rw [← eM6] at hG
      have h := nm_y h M6 eM6
      refine lv_iinc (v := (w3 + 1)) (lv' := [(3, .int (w3 + 1)), (0, .ref (gad z a)), (1, .int u1), (2, .int u2)]) hx hb dX7_empty_81 hl (k := 3) rfl rfl (by decide) rfl (fun ls hl => ?_)
      refine lv_goto (tgt := 47) hx hb dX7_empty_84 (by decide) ?_
      exact ih M6 (w3 + 1) _ _ _ h hG hS (lv_sub hl [1, 2, 3, 0] rfl)
set_option maxRecDepth 100000 in
set_option maxHeartbeats 4000000 in
theorem ct_X7_empty (l : Launch) (z : gZ) {N : Nat} {M : Mem} {a : Nat} {v1 : Int32} {v2 : Int32} {o : Mem} (k_a : kd a = 7) (n_a : a + 59 ≤ gn z) (h : fX7_empty N M a v1 v2 = some o) : CtV l z yX7_empty cX7_empty 4 none { frames := 0, cells := 0, slots := 0, locals := 0 } [.ref (gad z a), .int v1, .int v2] M o := by
  refine Ct_of rfl (Nat.le_of_ble_eq_true rfl) ?_
  intro p e s m below meth c ls X hr hlk hG hS hl
  have X : gX p m c _ _ s _ RX7 z := X
  have hl : lv_has ls 4 [(0, .ref (gad z a)), (1, .int v1), (2, .int v2)] := hl
  have hx := X.1
  have hb := X.2.1
  unfold fX7_empty at h
  refine lv_aload_n hx hb dX7_empty_0 rfl (lv_at hl 0 rfl) ?_
  refine gf_X7_14 X hG (nx_0 n_a) k_a fl_X7_51 dX7_empty_1 ?_
  refine lv_iload_n hx hb dX7_empty_4 rfl (lv_at hl 1 rfl) ?_
  obtain ⟨i1, h⟩ := gd_y h
  refine g_aldII X hG (nx_a (a := a) (k := 21) (n := 59) n_a (Nat.le_of_ble_eq_true rfl)) (kx_7_21 k_a) (by decide) i1 dX7_empty_5 ?_
  refine lv_iload_n hx hb dX7_empty_6 rfl (lv_at hl 2 rfl) ?_
  refine lv_iconst (v := 0) hx hb dX7_empty_7 (by decide) ?_
  obtain ⟨i2, h⟩ := gd_y h
  refine g_iast X hG hS (nE n_a i1 (Nat.le_of_ble_eq_true rfl)) (ke_7_21 k_a i1) (by decide) i2 dX7_empty_8 (fun H locs hG hS => ?_)
  obtain ⟨M3, eM3⟩ : ∃ y, y = sI M ((a + 21) + 1 + (v1 : Int32).toNatClampNeg) (v2 : Int32).toNatClampNeg 0 := ⟨_, rfl⟩
  rw [← eM3] at hG
  have h := nm_y h M3 eM3
  refine lv_aload_n hx hb dX7_empty_9 rfl (lv_at hl 0 rfl) ?_
  refine gf_X7_15 X hG (nx_0 n_a) k_a fl_X7_54 dX7_empty_10 ?_
  refine lv_iload_n hx hb dX7_empty_13 rfl (lv_at hl 1 rfl) ?_
  refine g_aldII X hG (nx_a (a := a) (k := 27) (n := 59) n_a (Nat.le_of_ble_eq_true rfl)) (kx_7_27 k_a) (by decide) i1 dX7_empty_14 ?_
  refine lv_iload_n hx hb dX7_empty_15 rfl (lv_at hl 2 rfl) ?_
  refine lv_iconst (v := 0) hx hb dX7_empty_16 (by decide) ?_
  refine g_iast X hG hS (nE n_a i1 (Nat.le_of_ble_eq_true rfl)) (ke_7_27 k_a i1) (by decide) i2 dX7_empty_17 (fun H locs hG hS => ?_)
  obtain ⟨M4, eM4⟩ : ∃ y, y = sI M3 ((a + 27) + 1 + (v1 : Int32).toNatClampNeg) (v2 : Int32).toNatClampNeg 0 := ⟨_, rfl⟩
  rw [← eM4] at hG
  have h := nm_y h M4 eM4
  refine lv_aload_n hx hb dX7_empty_18 rfl (lv_at hl 0 rfl) ?_
  refine gf_X7_16 X hG (nx_0 n_a) k_a fl_X7_57 dX7_empty_19 ?_
  refine lv_iload_n hx hb dX7_empty_22 rfl (lv_at hl 1 rfl) ?_
  refine g_aldII X hG (nx_a (a := a) (k := 33) (n := 59) n_a (Nat.le_of_ble_eq_true rfl)) (kx_7_33 k_a) (by decide) i1 dX7_empty_23 ?_
  refine lv_iload_n hx hb dX7_empty_24 rfl (lv_at hl 2 rfl) ?_
  refine lv_iconst (v := 0) hx hb dX7_empty_25 (by decide) ?_
  refine g_iast X hG hS (nE n_a i1 (Nat.le_of_ble_eq_true rfl)) (ke_7_33 k_a i1) (by decide) i2 dX7_empty_26 (fun H locs hG hS => ?_)
  obtain ⟨M5, eM5⟩ : ∃ y, y = sI M4 ((a + 33) + 1 + (v1 : Int32).toNatClampNeg) (v2 : Int32).toNatClampNeg 0 := ⟨_, rfl⟩
  rw [← eM5] at hG
  have h := nm_y h M5 eM5
  refine lv_aload_n hx hb dX7_empty_27 rfl (lv_at hl 0 rfl) ?_
  refine gf_X7_18 X hG (nx_0 n_a) k_a fl_X7_63 dX7_empty_28 ?_
  refine lv_iload_n hx hb dX7_empty_31 rfl (lv_at hl 1 rfl) ?_
  refine g_aldII X hG (nx_a (a := a) (k := 45) (n := 59) n_a (Nat.le_of_ble_eq_true rfl)) (kx_7_45 k_a) (by decide) i1 dX7_empty_32 ?_
  refine lv_iload_n hx hb dX7_empty_33 rfl (lv_at hl 2 rfl) ?_
  refine lv_iconst (v := 0) hx hb dX7_empty_34 (by decide) ?_
  refine g_iast X hG hS (nE n_a i1 (Nat.le_of_ble_eq_true rfl)) (ke_7_45 k_a i1) (by decide) i2 dX7_empty_35 (fun H locs hG hS => ?_)
  obtain ⟨M6, eM6⟩ : ∃ y, y = sI M5 ((a + 45) + 1 + (v1 : Int32).toNatClampNeg) (v2 : Int32).toNatClampNeg 0 := ⟨_, rfl⟩
  rw [← eM6] at hG
  have h := nm_y h M6 eM6
  refine lv_aload_n hx hb dX7_empty_36 rfl (lv_at hl 0 rfl) ?_
  refine gf_X7_19 X hG (nx_0 n_a) k_a fl_X7_66 dX7_empty_37 ?_
  refine lv_iload_n hx hb dX7_empty_40 rfl (lv_at hl 1 rfl) ?_
  refine g_aldII X hG (nx_a (a := a) (k := 51) (n := 59) n_a (Nat.le_of_ble_eq_true rfl)) (kx_7_51 k_a) (by decide) i1 dX7_empty_41 ?_
  refine lv_iload_n hx hb dX7_empty_42 rfl (lv_at hl 2 rfl) ?_
  refine lv_iconst (v := 0) hx hb dX7_empty_43 (by decide) ?_
  refine g_iast X hG hS (nE n_a i1 (Nat.le_of_ble_eq_true rfl)) (ke_7_51 k_a i1) (by decide) i2 dX7_empty_44 (fun H locs hG hS => ?_)
  obtain ⟨M7, eM7⟩ : ∃ y, y = sI M6 ((a + 51) + 1 + (v1 : Int32).toNatClampNeg) (v2 : Int32).toNatClampNeg 0 := ⟨_, rfl⟩
  rw [← eM7] at hG
  have h := nm_y h M7 eM7
  refine lv_iconst (v := 0) hx hb dX7_empty_45 (by decide) ?_
  refine lv_istore_n (lv' := [(3, .int 0), (0, .ref (gad z a)), (1, .int v1), (2, .int v2)]) hx hb dX7_empty_46 rfl hl (by decide) rfl (fun ls hl => ?_)
  refine wX7_empty_47 X hr hlk k_a n_a _ _ _ _ _ _ h hG hS (lv_sub hl [1, 2, 3, 0] rfl)
set_option maxRecDepth 100000 in
set_option maxHeartbeats 4000000 in
theorem wX7_read_74 {N : Nat} {p : Program} {l : Launch} {e : Env} {s : State} {m : MethodId} {args : Array Value} {below : List Frame} {meth : Method} {c : Code} {z : gZ} {a : Nat} {u1 : Int32} {o : Int32 × Mem} (X : gX p m c cX7_read 3 s args RX7 z) (hr : meth.sig.returnType = (some .boolean)) (hlk : meth.locks = false) (k_a : kd a = 7) (n_a : a + 59 ≤ gn z)  : ∀ (n : Nat) (Mw : Mem) (H : Heap) (locs : List Loc) (ls : Array Slot), fX7_read_74 N a u1  n Mw = some o → gW z Mw H → va_S (gA z) s.heap H locs → lv_has ls 3 [(0, .ref (gad z a)), (1, .int u1)] → W p l e { frames := 7, cells := 0, slots := 0, locals := 156 } s m args below meth c H locs 0 0 (MQ below (va_Qi (fun r' (_ : Unit) => r' = o.1) (fun _ t => gW z o.2 t.heap) (gA z)) args s 0 0 (gA z)) (F0 m 74 ls []) := by
  have hx := X.1
  have hb := X.2.1
  intro n
  induction n with
  | zero => intro Mw H locs ls h; cases h
  | succ n ih =>
    intro Mw H locs ls h hG hS hl
    rw [fX7_read_74] at h
    refine lv_aload_n hx hb dX7_read_74 rfl (lv_at hl 0 rfl) ?_
    refine gf_X7_28 X hG (nx_0 n_a) k_a fl_X7_141 dX7_read_75 ?_
    refine lv_if_eq (tgt := 108) hx hb dX7_read_78 (by decide) (fun q1 => ?_) (fun q1 => ?_)
    · have h := ite_y h q1
      refine lv_iconst (v := 1) hx hb dX7_read_108 (by decide) ?_
      obtain rfl := Option.some.inj h
      exact g_zret (zn (Or.inr rfl)) X hr hlk hG hS dX7_read_109
    · have h := ite_n h q1
      refine lv_aload_n hx hb dX7_read_81 rfl (lv_at hl 0 rfl) ?_
      refine gf_X7_28 X hG (nx_0 n_a) k_a fl_X7_141 dX7_read_82 ?_
      refine lv_iconst (v := 3) hx hb dX7_read_85 (by decide) ?_
      refine lv_icmp_eq (tgt := 94) hx hb dX7_read_86 (by decide) (fun q2 => ?_) (fun q2 => ?_)
      · have h := ite_y h q2
        refine lv_aload_n hx hb dX7_read_94 rfl (lv_at hl 0 rfl) ?_
        obtain ⟨r3, hcr3, h⟩ := bd_y h
        refine g_cVV (a := a) (ci := 7) (T := TX7) (N := 37) (av := []) (rest := []) X hG hS (ct_X7_look l z k_a n_a hcr3) mt_X7_look ml_X7_177 rfl ⟨rfl, rfl, Nat.le_of_ble_eq_true rfl, Nat.le_of_ble_eq_true rfl⟩ ⟨Nat.le_refl 0, Nat.le_refl 0⟩ (nx_0 n_a) k_a (by decide) rfl hl.1 (Nat.le_of_ble_eq_true rfl) rfl dX7_read_95 (fun H locs hG hS => ?_)
        refine lv_aload_n hx hb dX7_read_98 rfl (lv_at hl 0 rfl) ?_
        refine lv_iload_n hx hb dX7_read_99 rfl (lv_at hl 1 rfl) ?_
        obtain ⟨r4, hcr4, h⟩ := bd_y h
        refine g_cVI (a := a) (ci := 7) (T := TX7) (N := 37) (av := [.int u1]) (rest := []) X hG hS (ct_X7_statement l z k_a n_a hcr4) mt_X7_statement ml_X7_217 rfl ⟨rfl, rfl, Nat.le_of_ble_eq_true rfl, Nat.le_of_ble_eq_true rfl⟩ ⟨Nat.le_refl 0, Nat.le_refl 0⟩ (nx_0 n_a) k_a (by decide) rfl hl.1 (Nat.le_of_ble_eq_true rfl) rfl dX7_read_100 (fun H locs hG hS => ?_)
        refine lv_if_ne (tgt := 74) hx hb dX7_read_103 (by decide) (fun q5 => ?_) (fun q5 => ?_)
        · have h := ite_n h q5
          exact ih r4.2  _ _ _ h hG hS (lv_sub hl [0, 1] rfl)
        · have h := ite_y h q5
          refine lv_iconst (v := 0) hx hb dX7_read_106 (by decide) ?_
          obtain rfl := Option.some.inj h
          exact g_zret (zn (Or.inl rfl)) X hr hlk hG hS dX7_read_107
      · have h := ite_n h q2
        refine lv_aload_n hx hb dX7_read_89 rfl (lv_at hl 0 rfl) ?_
        obtain ⟨r6, hcr6, h⟩ := bd_y h
        refine g_cVI (a := a) (ci := 7) (T := TX7) (N := 37) (av := []) (rest := []) X hG hS (ct_X7_wrong l z k_a n_a hcr6) mt_X7_wrong ml_X7_173 rfl ⟨rfl, rfl, Nat.le_of_ble_eq_true rfl, Nat.le_of_ble_eq_true rfl⟩ ⟨Nat.le_refl 0, Nat.le_refl 0⟩ (nx_0 n_a) k_a (by decide) rfl hl.1 (Nat.le_of_ble_eq_true rfl) rfl dX7_read_90 (fun H locs hG hS => ?_)
        obtain ⟨q7, h⟩ := gc_y h
        obtain rfl := Option.some.inj h
        exact g_zret (zn q7) X hr hlk hG hS dX7_read_93
set_option maxRecDepth 100000 in
set_option maxHeartbeats 4000000 in
theorem wX7_read_16 {N : Nat} {p : Program} {l : Launch} {e : Env} {s : State} {m : MethodId} {args : Array Value} {below : List Frame} {meth : Method} {c : Code} {z : gZ} {a : Nat} {u1 : Int32} {o : Int32 × Mem} (X : gX p m c cX7_read 3 s args RX7 z) (hr : meth.sig.returnType = (some .boolean)) (hlk : meth.locks = false) (k_a : kd a = 7) (n_a : a + 59 ≤ gn z)  : ∀ (n : Nat) (Mw : Mem) (w2 : Int32) (H : Heap) (locs : List Loc) (ls : Array Slot), fX7_read_16 N a u1  n Mw w2 = some o → gW z Mw H → va_S (gA z) s.heap H locs → lv_has ls 3 [(0, .ref (gad z a)), (1, .int u1), (2, .int w2)] → W p l e { frames := 7, cells := 0, slots := 0, locals := 156 } s m args below meth c H locs 0 0 (MQ below (va_Qi (fun r' (_ : Unit) => r' = o.1) (fun _ t => gW z o.2 t.heap) (gA z)) args s 0 0 (gA z)) (F0 m 16 ls []) := by
  have hx := X.1
  have hb := X.2.1
  intro n
  induction n with
  | zero => intro Mw w2 H locs ls h; cases h
  | succ n ih =>
    intro Mw w2 H locs ls h hG hS hl
    rw [fX7_read_16] at h
    refine lv_iload_n hx hb dX7_read_16 rfl (lv_at hl 2 rfl) ?_
    refine lv_bipush (v := 12) hx hb dX7_read_17 (by decide) ?_
    refine lv_icmp_ge (tgt := 34) hx hb dX7_read_19 (by decide) (fun q1 => ?_) (fun q1 => ?_)
    · have h := ite_y h q1
      refine lv_aload_n hx hb dX7_read_34 rfl (lv_at hl 0 rfl) ?_
      refine lv_iconst (v := 0) hx hb dX7_read_35 (by decide) ?_
      refine pf_X7_27 X hG hS (nx_0 n_a) k_a fl_X7_131 dX7_read_36 (fun H locs hG hS => ?_)
      obtain ⟨M2, eM2⟩ : ∃ y, y = sI Mw a 27 0 := ⟨_, rfl⟩
      rw [← eM2] at hG
      have h := nm_y h M2 eM2
      refine lv_aload_n hx hb dX7_read_39 rfl (lv_at hl 0 rfl) ?_
      obtain ⟨r3, hcr3, h⟩ := bd_y h
      refine g_cVV (a := a) (ci := 7) (T := TX7) (N := 37) (av := []) (rest := []) X hG hS (ct_X7_look l z k_a n_a hcr3) mt_X7_look ml_X7_177 rfl ⟨rfl, rfl, Nat.le_of_ble_eq_true rfl, Nat.le_of_ble_eq_true rfl⟩ ⟨Nat.le_refl 0, Nat.le_refl 0⟩ (nx_0 n_a) k_a (by decide) rfl hl.1 (Nat.le_of_ble_eq_true rfl) rfl dX7_read_40 (fun H locs hG hS => ?_)
      refine lv_aload_n hx hb dX7_read_43 rfl (lv_at hl 0 rfl) ?_
      refine g_ldcS X (k := 0) (tx := "people") (by decide) dX7_read_44 ?_
      obtain ⟨r4, hcr4, h⟩ := bd_y h
      refine g_cVI (a := a) (ci := 7) (T := TX7) (N := 37) (av := [.ref (gsk z 0)]) (rest := []) X hG hS (ct_X7_word l z k_a n_a (by decide : 0 < 10) hcr4) mt_X7_word ml_X7_194 rfl ⟨rfl, rfl, Nat.le_of_ble_eq_true rfl, Nat.le_of_ble_eq_true rfl⟩ ⟨Nat.le_refl 0, Nat.le_refl 0⟩ (nx_0 n_a) k_a (by decide) rfl hl.1 (Nat.le_of_ble_eq_true rfl) rfl dX7_read_46 (fun H locs hG hS => ?_)
      refine lv_if_eq (tgt := 62) hx hb dX7_read_49 (by decide) (fun q5 => ?_) (fun q5 => ?_)
      · have h := ite_y h q5
        refine lv_iconst (v := 0) hx hb dX7_read_62 (by decide) ?_
        obtain rfl := Option.some.inj h
        exact g_zret (zn (Or.inl rfl)) X hr hlk hG hS dX7_read_63
      · have h := ite_n h q5
        refine lv_aload_n hx hb dX7_read_52 rfl (lv_at hl 0 rfl) ?_
        refine lv_iconst (v := 1) hx hb dX7_read_53 (by decide) ?_
        refine lv_bipush (v := 12) hx hb dX7_read_54 (by decide) ?_
        obtain ⟨r6, hcr6, h⟩ := bd_y h
        refine g_cVI (a := a) (ci := 7) (T := TX7) (N := 37) (av := [.int 1, .int 12]) (rest := []) X hG hS (ct_X7_number l z k_a n_a hcr6) mt_X7_number ml_X7_189 rfl ⟨rfl, rfl, Nat.le_of_ble_eq_true rfl, Nat.le_of_ble_eq_true rfl⟩ ⟨Nat.le_refl 0, Nat.le_refl 0⟩ (nx_0 n_a) k_a (by decide) rfl hl.1 (Nat.le_of_ble_eq_true rfl) rfl dX7_read_56 (fun H locs hG hS => ?_)
        refine lv_if_ne (tgt := 64) hx hb dX7_read_59 (by decide) (fun q7 => ?_) (fun q7 => ?_)
        · have h := ite_n h q7
          refine lv_aload_n hx hb dX7_read_64 rfl (lv_at hl 0 rfl) ?_
          refine gf_X7_11 X hG (nx_0 n_a) k_a fl_X7_40 dX7_read_65 ?_
          refine lv_iload_n hx hb dX7_read_68 rfl (lv_at hl 1 rfl) ?_
          refine lv_aload_n hx hb dX7_read_69 rfl (lv_at hl 0 rfl) ?_
          refine gf_X7_32 X hG (nx_0 n_a) k_a fl_X7_180 dX7_read_70 ?_
          obtain ⟨i8, h⟩ := gd_y h
          refine g_iast X hG hS (nx_a (a := a) (k := 18) (n := 59) n_a (Nat.le_of_ble_eq_true rfl)) (kx_7_18 k_a) (by decide) i8 dX7_read_73 (fun H locs hG hS => ?_)
          obtain ⟨M9, eM9⟩ : ∃ y, y = sI r6.2 (a + 18) (u1 : Int32).toNatClampNeg (r6.2.1 a 32) := ⟨_, rfl⟩
          rw [← eM9] at hG
          have h := nm_y h M9 eM9
          refine wX7_read_74 X hr hlk k_a n_a _ _ _ _ _ h hG hS (lv_sub hl [0, 1] rfl)
        · have h := ite_y h q7
          refine lv_iconst (v := 0) hx hb dX7_read_62 (by decide) ?_
          obtain rfl := Option.some.inj h
          exact g_zret (zn (Or.inl rfl)) X hr hlk hG hS dX7_read_63
    · have h := ite_n h q1
      refine lv_aload_n hx hb dX7_read_22 rfl (lv_at hl 0 rfl) ?_
      refine lv_iload_n hx hb dX7_read_23 rfl (lv_at hl 1 rfl) ?_
      refine lv_iload_n hx hb dX7_read_24 rfl (lv_at hl 2 rfl) ?_
      obtain ⟨r10, hcr10, h⟩ := bd_y h
      refine g_cVV (a := a) (ci := 7) (T := TX7) (N := 37) (av := [.int u1, .int w2]) (rest := []) X hG hS (ct_X7_empty l z k_a n_a hcr10) mt_X7_empty ml_X7_212 rfl ⟨rfl, rfl, Nat.le_of_ble_eq_true rfl, Nat.le_of_ble_eq_true rfl⟩ ⟨Nat.le_refl 0, Nat.le_refl 0⟩ (nx_0 n_a) k_a (by decide) rfl hl.1 (Nat.le_of_ble_eq_true rfl) rfl dX7_read_25 (fun H locs hG hS => ?_)
      refine lv_iinc (v := (w2 + 1)) (lv' := [(2, .int (w2 + 1)), (0, .ref (gad z a)), (1, .int u1)]) hx hb dX7_read_28 hl (k := 2) rfl rfl (by decide) rfl (fun ls hl => ?_)
      refine lv_goto (tgt := 16) hx hb dX7_read_31 (by decide) ?_
      exact ih r10 (w2 + 1) _ _ _ h hG hS (lv_sub hl [1, 2, 0] rfl)
set_option maxRecDepth 100000 in
set_option maxHeartbeats 4000000 in
theorem ct_X7_read (l : Launch) (z : gZ) {N : Nat} {M : Mem} {a : Nat} {v1 : Int32} {o : Int32 × Mem} (k_a : kd a = 7) (n_a : a + 59 ≤ gn z) (h : fX7_read N M a v1 = some o) : CtI l z yX7_read cX7_read 3 (some .boolean) { frames := 7, cells := 0, slots := 0, locals := 156 } [.ref (gad z a), .int v1] M o.1 o.2 := by
  refine Ct_of rfl (Nat.le_of_ble_eq_true rfl) ?_
  intro p e s m below meth c ls X hr hlk hG hS hl
  have X : gX p m c _ _ s _ RX7 z := X
  have hl : lv_has ls 3 [(0, .ref (gad z a)), (1, .int v1)] := hl
  have hx := X.1
  have hb := X.2.1
  unfold fX7_read at h
  refine lv_aload_n hx hb dX7_read_0 rfl (lv_at hl 0 rfl) ?_
  refine gf_X7_12 X hG (nx_0 n_a) k_a fl_X7_43 dX7_read_1 ?_
  refine lv_iload_n hx hb dX7_read_4 rfl (lv_at hl 1 rfl) ?_
  refine lv_iconst (v := 0) hx hb dX7_read_5 (by decide) ?_
  obtain ⟨i1, h⟩ := gd_y h
  refine g_iast X hG hS (nx_a (a := a) (k := 19) (n := 59) n_a (Nat.le_of_ble_eq_true rfl)) (kx_7_19 k_a) (by decide) i1 dX7_read_6 (fun H locs hG hS => ?_)
  obtain ⟨M2, eM2⟩ : ∃ y, y = sI M (a + 19) (v1 : Int32).toNatClampNeg 0 := ⟨_, rfl⟩
  rw [← eM2] at hG
  have h := nm_y h M2 eM2
  refine lv_aload_n hx hb dX7_read_7 rfl (lv_at hl 0 rfl) ?_
  refine gf_X7_13 X hG (nx_0 n_a) k_a fl_X7_46 dX7_read_8 ?_
  refine lv_iload_n hx hb dX7_read_11 rfl (lv_at hl 1 rfl) ?_
  refine lv_iconst (v := 0) hx hb dX7_read_12 (by decide) ?_
  refine g_iast X hG hS (nx_a (a := a) (k := 20) (n := 59) n_a (Nat.le_of_ble_eq_true rfl)) (kx_7_20 k_a) (by decide) i1 dX7_read_13 (fun H locs hG hS => ?_)
  obtain ⟨M3, eM3⟩ : ∃ y, y = sI M2 (a + 20) (v1 : Int32).toNatClampNeg 0 := ⟨_, rfl⟩
  rw [← eM3] at hG
  have h := nm_y h M3 eM3
  refine lv_iconst (v := 0) hx hb dX7_read_14 (by decide) ?_
  refine lv_istore_n (lv' := [(2, .int 0), (0, .ref (gad z a)), (1, .int v1)]) hx hb dX7_read_15 rfl hl (by decide) rfl (fun ls hl => ?_)
  refine wX7_read_16 X hr hlk k_a n_a _ _ _ _ _ _ h hG hS (lv_sub hl [1, 2, 0] rfl)
set_option maxRecDepth 100000 in
set_option maxHeartbeats 4000000 in
theorem ct_X7_street (l : Launch) (z : gZ) {N : Nat} {M : Mem} {a : Nat} {o : Int32 × Mem} (k_a : kd a = 7) (n_a : a + 59 ≤ gn z) (h : fX7_street N M a = some o) : CtI l z yX7_street cX7_street 2 (some .int) { frames := 8, cells := 0, slots := 0, locals := 178 } [.ref (gad z a)] M o.1 o.2 := by
  refine Ct_of rfl (Nat.le_of_ble_eq_true rfl) ?_
  intro p e s m below meth c ls X hr hlk hG hS hl
  have X : gX p m c _ _ s _ RX7 z := X
  have hl : lv_has ls 2 [(0, .ref (gad z a))] := hl
  have hx := X.1
  have hb := X.2.1
  unfold fX7_street at h
  refine lv_aload_n hx hb dX7_street_0 rfl (lv_at hl 0 rfl) ?_
  refine gf_X7_10 X hG (nx_0 n_a) k_a fl_X7_85 dX7_street_1 ?_
  refine lv_iconst (v := 4) hx hb dX7_street_4 (by decide) ?_
  refine lv_icmp_ne (tgt := 15) hx hb dX7_street_5 (by decide) (fun q1 => ?_) (fun q1 => ?_)
  · have h := ite_n h q1
    refine lv_aload_n hx hb dX7_street_15 rfl (lv_at hl 0 rfl) ?_
    refine lv_aload_n hx hb dX7_street_16 rfl (lv_at hl 0 rfl) ?_
    refine gf_X7_10 X hG (nx_0 n_a) k_a fl_X7_85 dX7_street_17 ?_
    obtain ⟨r2, hcr2, h⟩ := bd_y h
    refine g_cVI (a := a) (ci := 7) (T := TX7) (N := 37) (av := [.int (M.1 a 10)]) (rest := []) X hG hS (ct_X7_read l z k_a n_a hcr2) mt_X7_read ml_X7_220 rfl ⟨rfl, rfl, Nat.le_of_ble_eq_true rfl, Nat.le_of_ble_eq_true rfl⟩ ⟨Nat.le_refl 0, Nat.le_refl 0⟩ (nx_0 n_a) k_a (by decide) rfl hl.1 (Nat.le_of_ble_eq_true rfl) rfl dX7_street_20 (fun H locs hG hS => ?_)
    refine lv_istore_n (lv' := [(1, .int r2.1), (0, .ref (gad z a))]) hx hb dX7_street_23 rfl hl (by decide) rfl (fun ls hl => ?_)
    refine lv_aload_n hx hb dX7_street_24 rfl (lv_at hl 1 rfl) ?_
    refine lv_iconst (v := 0) hx hb dX7_street_25 (by decide) ?_
    refine pf_X7_8 X hG hS (nx_0 n_a) k_a fl_X7_128 dX7_street_26 (fun H locs hG hS => ?_)
    obtain ⟨M3, eM3⟩ : ∃ y, y = sI r2.2 a 8 0 := ⟨_, rfl⟩
    rw [← eM3] at hG
    have h := nm_y h M3 eM3
    refine lv_iload_n hx hb dX7_street_29 rfl (lv_at hl 0 rfl) ?_
    refine lv_if_ne (tgt := 48) hx hb dX7_street_30 (by decide) (fun q4 => ?_) (fun q4 => ?_)
    · have h := ite_n h q4
      refine lv_aload_n hx hb dX7_street_48 rfl (lv_at hl 1 rfl) ?_
      refine lv_dup hx hb dX7_street_49 rfl ?_
      refine gf_X7_10 X hG (nx_0 n_a) k_a fl_X7_85 dX7_street_50 ?_
      refine lv_dup_x1 hx hb dX7_street_53 rfl rfl ?_
      refine lv_iconst (v := 1) hx hb dX7_street_54 (by decide) ?_
      refine lv_iadd hx hb dX7_street_55 ?_
      refine pf_X7_10 X hG hS (nx_0 n_a) k_a fl_X7_85 dX7_street_56 (fun H locs hG hS => ?_)
      obtain ⟨M5, eM5⟩ : ∃ y, y = sI M3 a 10 ((M3.1 a 10) + 1) := ⟨_, rfl⟩
      rw [← eM5] at hG
      have h := nm_y h M5 eM5
      obtain rfl := Option.some.inj h
      exact g_iret X hr hlk hG hS dX7_street_59
    · have h := ite_y h q4
      refine lv_aload_n hx hb dX7_street_33 rfl (lv_at hl 1 rfl) ?_
      refine lv_bipush (v := (-2)) hx hb dX7_street_34 (by decide) ?_
      obtain ⟨r6, hcr6, h⟩ := bd_y h
      refine g_cVI (a := a) (ci := 7) (T := TX7) (N := 37) (av := [.int (-2)]) (rest := []) X hG hS (ct_X7_refuse l z k_a n_a hcr6) mt_X7_refuse ml_X7_106 rfl ⟨rfl, rfl, Nat.le_of_ble_eq_true rfl, Nat.le_of_ble_eq_true rfl⟩ ⟨Nat.le_refl 0, Nat.le_refl 0⟩ (nx_0 n_a) k_a (by decide) rfl hl.1 (Nat.le_of_ble_eq_true rfl) rfl dX7_street_36 (fun H locs hG hS => ?_)
      refine lv_pop hx hb dX7_street_39 rfl ?_
      refine lv_bipush (v := (-20)) hx hb dX7_street_40 (by decide) ?_
      refine lv_aload_n hx hb dX7_street_42 rfl (lv_at hl 1 rfl) ?_
      refine gf_X7_31 X hG (nx_0 n_a) k_a fl_X7_156 dX7_street_43 ?_
      refine lv_isub hx hb dX7_street_46 ?_
      obtain rfl := Option.some.inj h
      exact g_iret X hr hlk hG hS dX7_street_47
  · have h := ite_y h q1
    refine lv_aload_n hx hb dX7_street_8 rfl (lv_at hl 0 rfl) ?_
    refine lv_bipush (v := (-6)) hx hb dX7_street_9 (by decide) ?_
    obtain ⟨r7, hcr7, h⟩ := bd_y h
    refine g_cVI (a := a) (ci := 7) (T := TX7) (N := 37) (av := [.int (-6)]) (rest := []) X hG hS (ct_X7_refuse l z k_a n_a hcr7) mt_X7_refuse ml_X7_106 rfl ⟨rfl, rfl, Nat.le_of_ble_eq_true rfl, Nat.le_of_ble_eq_true rfl⟩ ⟨Nat.le_refl 0, Nat.le_refl 0⟩ (nx_0 n_a) k_a (by decide) rfl hl.1 (Nat.le_of_ble_eq_true rfl) rfl dX7_street_11 (fun H locs hG hS => ?_)
    obtain rfl := Option.some.inj h
    exact g_iret X hr hlk hG hS dX7_street_14
set_option maxRecDepth 100000 in
set_option maxHeartbeats 4000000 in
theorem wX7_bits_4 {N : Nat} {p : Program} {l : Launch} {e : Env} {s : State} {m : MethodId} {args : Array Value} {below : List Frame} {meth : Method} {c : Code} {z : gZ} {M : Mem} {u0 : Int32} {o : Int32} (X : gX p m c cX7_bits 3 s args RX7 z) (hr : meth.sig.returnType = (some .int)) (hlk : meth.locks = false)   : ∀ (n : Nat) (w1 : Int32) (w2 : Int32) (H : Heap) (locs : List Loc) (ls : Array Slot), fX7_bits_4 N M u0  n w1 w2 = some o → gW z M H → va_S (gA z) s.heap H locs → lv_has ls 3 [(0, .int u0), (1, .int w1), (2, .int w2)] → W p l e { frames := 0, cells := 0, slots := 0, locals := 0 } s m args below meth c H locs 0 0 (MQ below (va_Qi (fun r' (_ : Unit) => r' = o) (fun _ t => gW z M t.heap) (gA z)) args s 0 0 (gA z)) (F0 m 4 ls []) := by
  have hx := X.1
  have hb := X.2.1
  intro n
  induction n with
  | zero => intro w1 w2 H locs ls h; cases h
  | succ n ih =>
    intro w1 w2 H locs ls h hG hS hl
    rw [fX7_bits_4] at h
    refine lv_iload_n hx hb dX7_bits_4 rfl (lv_at hl 2 rfl) ?_
    refine lv_bipush (v := 32) hx hb dX7_bits_5 (by decide) ?_
    refine lv_icmp_ge (tgt := 24) hx hb dX7_bits_7 (by decide) (fun q1 => ?_) (fun q1 => ?_)
    · have h := ite_y h q1
      refine lv_iload_n hx hb dX7_bits_24 rfl (lv_at hl 1 rfl) ?_
      obtain rfl := Option.some.inj h
      exact g_iret X hr hlk hG hS dX7_bits_25
    · have h := ite_n h q1
      refine lv_iload_n hx hb dX7_bits_10 rfl (lv_at hl 1 rfl) ?_
      refine lv_iload_n hx hb dX7_bits_11 rfl (lv_at hl 0 rfl) ?_
      refine lv_iload_n hx hb dX7_bits_12 rfl (lv_at hl 2 rfl) ?_
      refine lv_ishr hx hb dX7_bits_13 ?_
      refine lv_iconst (v := 1) hx hb dX7_bits_14 (by decide) ?_
      refine lv_iand hx hb dX7_bits_15 ?_
      refine lv_iadd hx hb dX7_bits_16 ?_
      refine lv_topi (fun x2 ex2 => ?_)
      have h := nm_y h x2 ex2
      refine lv_istore_n (lv' := [(1, .int x2), (0, .int u0), (2, .int w2)]) hx hb dX7_bits_17 rfl hl (by decide) rfl (fun ls hl => ?_)
      refine lv_iinc (v := (w2 + 1)) (lv' := [(2, .int (w2 + 1)), (1, .int x2), (0, .int u0)]) hx hb dX7_bits_18 hl (k := 2) rfl rfl (by decide) rfl (fun ls hl => ?_)
      refine lv_goto (tgt := 4) hx hb dX7_bits_21 (by decide) ?_
      exact ih x2 (w2 + 1) _ _ _ h hG hS (lv_sub hl [2, 1, 0] rfl)
set_option maxRecDepth 100000 in
set_option maxHeartbeats 4000000 in
theorem ct_X7_bits (l : Launch) (z : gZ) {N : Nat} {M : Mem} {v0 : Int32} {o : Int32}  (h : fX7_bits N M v0 = some o) : CtI l z yX7_bits cX7_bits 3 (some .int) { frames := 0, cells := 0, slots := 0, locals := 0 } [.int v0] M o M := by
  refine Ct_of rfl (Nat.le_of_ble_eq_true rfl) ?_
  intro p e s m below meth c ls X hr hlk hG hS hl
  have X : gX p m c _ _ s _ RX7 z := X
  have hl : lv_has ls 3 [(0, .int v0)] := hl
  have hx := X.1
  have hb := X.2.1
  unfold fX7_bits at h
  refine lv_iconst (v := 0) hx hb dX7_bits_0 (by decide) ?_
  refine lv_istore_n (lv' := [(1, .int 0), (0, .int v0)]) hx hb dX7_bits_1 rfl hl (by decide) rfl (fun ls hl => ?_)
  refine lv_iconst (v := 0) hx hb dX7_bits_2 (by decide) ?_
  refine lv_istore_n (lv' := [(2, .int 0), (1, .int 0), (0, .int v0)]) hx hb dX7_bits_3 rfl hl (by decide) rfl (fun ls hl => ?_)
  refine wX7_bits_4 X hr hlk  _ _ _ _ _ _ h hG hS (lv_sub hl [2, 1, 0] rfl)
set_option maxRecDepth 100000 in
set_option maxHeartbeats 4000000 in
theorem wX7_pricesOf_5 {N : Nat} {p : Program} {l : Launch} {e : Env} {s : State} {m : MethodId} {args : Array Value} {below : List Frame} {meth : Method} {c : Code} {z : gZ} {M : Mem} {a : Nat} {u1 : Int32} {u2 : Int32} {o : Int32} (X : gX p m c cX7_pricesOf 5 s args RX7 z) (hr : meth.sig.returnType = (some .int)) (hlk : meth.locks = false) (k_a : kd a = 7) (n_a : a + 59 ≤ gn z)  : ∀ (n : Nat) (w3 : Int32) (w4 : Int32) (H : Heap) (locs : List Loc) (ls : Array Slot), fX7_pricesOf_5 N M a u1 u2  n w3 w4 = some o → gW z M H → va_S (gA z) s.heap H locs → lv_has ls 5 [(0, .ref (gad z a)), (1, .int u1), (2, .int u2), (3, .int w3), (4, .int w4)] → W p l e { frames := 0, cells := 0, slots := 0, locals := 0 } s m args below meth c H locs 0 0 (MQ below (va_Qi (fun r' (_ : Unit) => r' = o) (fun _ t => gW z M t.heap) (gA z)) args s 0 0 (gA z)) (F0 m 5 ls []) := by
  have hx := X.1
  have hb := X.2.1
  intro n
  induction n with
  | zero => intro w3 w4 H locs ls h; cases h
  | succ n ih =>
    intro w3 w4 H locs ls h hG hS hl
    rw [fX7_pricesOf_5] at h
    refine lv_iload hx hb dX7_pricesOf_5 (lv_at hl 4 rfl) ?_
    refine lv_aload_n hx hb dX7_pricesOf_7 rfl (lv_at hl 0 rfl) ?_
    refine gf_X7_11 X hG (nx_0 n_a) k_a fl_X7_40 dX7_pricesOf_8 ?_
    refine lv_iload_n hx hb dX7_pricesOf_11 rfl (lv_at hl 1 rfl) ?_
    obtain ⟨i1, h⟩ := gd_y h
    refine g_iald X hG (nx_a (a := a) (k := 18) (n := 59) n_a (Nat.le_of_ble_eq_true rfl)) (kx_7_18 k_a) (by decide) i1 dX7_pricesOf_12 ?_
    refine lv_icmp_ge (tgt := 59) hx hb dX7_pricesOf_13 (by decide) (fun q2 => ?_) (fun q2 => ?_)
    · have h := ite_y h q2
      refine lv_iload_n hx hb dX7_pricesOf_59 rfl (lv_at hl 3 rfl) ?_
      obtain rfl := Option.some.inj h
      exact g_iret X hr hlk hG hS dX7_pricesOf_60
    · have h := ite_n h q2
      refine lv_iload_n hx hb dX7_pricesOf_16 rfl (lv_at hl 3 rfl) ?_
      refine lv_aload_n hx hb dX7_pricesOf_17 rfl (lv_at hl 0 rfl) ?_
      refine gf_X7_16 X hG (nx_0 n_a) k_a fl_X7_57 dX7_pricesOf_18 ?_
      refine lv_iload_n hx hb dX7_pricesOf_21 rfl (lv_at hl 1 rfl) ?_
      refine g_aldII X hG (nx_a (a := a) (k := 33) (n := 59) n_a (Nat.le_of_ble_eq_true rfl)) (kx_7_33 k_a) (by decide) i1 dX7_pricesOf_22 ?_
      refine lv_iload_n hx hb dX7_pricesOf_23 rfl (lv_at hl 2 rfl) ?_
      obtain ⟨i3, h⟩ := gd_y h
      refine g_iald X hG (nE n_a i1 (Nat.le_of_ble_eq_true rfl)) (ke_7_33 k_a i1) (by decide) i3 dX7_pricesOf_24 ?_
      refine lv_iload hx hb dX7_pricesOf_25 (lv_at hl 4 rfl) ?_
      refine lv_ishr hx hb dX7_pricesOf_27 ?_
      refine lv_iconst (v := 1) hx hb dX7_pricesOf_28 (by decide) ?_
      refine lv_iand hx hb dX7_pricesOf_29 ?_
      refine lv_if_eq (tgt := 50) hx hb dX7_pricesOf_30 (by decide) (fun q4 => ?_) (fun q4 => ?_)
      · have h := ite_y h q4
        refine lv_iconst (v := 0) hx hb dX7_pricesOf_50 (by decide) ?_
        refine lv_iadd hx hb dX7_pricesOf_51 ?_
        refine lv_topi (fun x5 ex5 => ?_)
        have h := nm_y h x5 ex5
        refine lv_istore_n (lv' := [(3, .int x5), (0, .ref (gad z a)), (1, .int u1), (2, .int u2), (4, .int w4)]) hx hb dX7_pricesOf_52 rfl hl (by decide) rfl (fun ls hl => ?_)
        refine lv_iinc (v := (w4 + 1)) (lv' := [(4, .int (w4 + 1)), (3, .int x5), (0, .ref (gad z a)), (1, .int u1), (2, .int u2)]) hx hb dX7_pricesOf_53 hl (k := 4) rfl rfl (by decide) rfl (fun ls hl => ?_)
        refine lv_goto (tgt := 5) hx hb dX7_pricesOf_56 (by decide) ?_
        exact ih x5 (w4 + 1) _ _ _ h hG hS (lv_sub hl [2, 3, 4, 1, 0] rfl)
      · have h := ite_n h q4
        refine lv_aload_n hx hb dX7_pricesOf_33 rfl (lv_at hl 0 rfl) ?_
        refine gf_X7_17 X hG (nx_0 n_a) k_a fl_X7_60 dX7_pricesOf_34 ?_
        refine lv_iload_n hx hb dX7_pricesOf_37 rfl (lv_at hl 1 rfl) ?_
        refine g_aldII X hG (nx_a (a := a) (k := 39) (n := 59) n_a (Nat.le_of_ble_eq_true rfl)) (kx_7_39 k_a) (by decide) i1 dX7_pricesOf_38 ?_
        refine lv_iload_n hx hb dX7_pricesOf_39 rfl (lv_at hl 2 rfl) ?_
        refine lv_bipush (v := 12) hx hb dX7_pricesOf_40 (by decide) ?_
        refine lv_imul hx hb dX7_pricesOf_42 ?_
        refine lv_iload hx hb dX7_pricesOf_43 (lv_at hl 4 rfl) ?_
        refine lv_iadd hx hb dX7_pricesOf_45 ?_
        obtain ⟨i6, h⟩ := gd_y h
        refine g_iald X hG (nE n_a i1 (Nat.le_of_ble_eq_true rfl)) (ke_7_39 k_a i1) (by decide) i6 dX7_pricesOf_46 ?_
        refine lv_goto (tgt := 51) hx hb dX7_pricesOf_47 (by decide) ?_
        refine lv_iadd hx hb dX7_pricesOf_51 ?_
        refine lv_topi (fun x7 ex7 => ?_)
        have h := nm_y h x7 ex7
        refine lv_istore_n (lv' := [(3, .int x7), (0, .ref (gad z a)), (1, .int u1), (2, .int u2), (4, .int w4)]) hx hb dX7_pricesOf_52 rfl hl (by decide) rfl (fun ls hl => ?_)
        refine lv_iinc (v := (w4 + 1)) (lv' := [(4, .int (w4 + 1)), (3, .int x7), (0, .ref (gad z a)), (1, .int u1), (2, .int u2)]) hx hb dX7_pricesOf_53 hl (k := 4) rfl rfl (by decide) rfl (fun ls hl => ?_)
        refine lv_goto (tgt := 5) hx hb dX7_pricesOf_56 (by decide) ?_
        exact ih x7 (w4 + 1) _ _ _ h hG hS (lv_sub hl [2, 3, 4, 1, 0] rfl)
set_option maxRecDepth 100000 in
set_option maxHeartbeats 4000000 in
theorem ct_X7_pricesOf (l : Launch) (z : gZ) {N : Nat} {M : Mem} {a : Nat} {v1 : Int32} {v2 : Int32} {o : Int32} (k_a : kd a = 7) (n_a : a + 59 ≤ gn z) (h : fX7_pricesOf N M a v1 v2 = some o) : CtI l z yX7_pricesOf cX7_pricesOf 5 (some .int) { frames := 0, cells := 0, slots := 0, locals := 0 } [.ref (gad z a), .int v1, .int v2] M o M := by
  refine Ct_of rfl (Nat.le_of_ble_eq_true rfl) ?_
  intro p e s m below meth c ls X hr hlk hG hS hl
  have X : gX p m c _ _ s _ RX7 z := X
  have hl : lv_has ls 5 [(0, .ref (gad z a)), (1, .int v1), (2, .int v2)] := hl
  have hx := X.1
  have hb := X.2.1
  unfold fX7_pricesOf at h
  refine lv_iconst (v := 0) hx hb dX7_pricesOf_0 (by decide) ?_
  refine lv_istore_n (lv' := [(3, .int 0), (0, .ref (gad z a)), (1, .int v1), (2, .int v2)]) hx hb dX7_pricesOf_1 rfl hl (by decide) rfl (fun ls hl => ?_)
  refine lv_iconst (v := 0) hx hb dX7_pricesOf_2 (by decide) ?_
  refine lv_istore (lv' := [(4, .int 0), (3, .int 0), (0, .ref (gad z a)), (1, .int v1), (2, .int v2)]) hx hb dX7_pricesOf_3 hl (by decide) rfl (fun ls hl => ?_)
  refine wX7_pricesOf_5 X hr hlk k_a n_a _ _ _ _ _ _ h hG hS (lv_sub hl [2, 3, 4, 1, 0] rfl)
set_option maxRecDepth 100000 in
set_option maxHeartbeats 4000000 in
theorem wX7_streetOf_35 {N : Nat} {p : Program} {l : Launch} {e : Env} {s : State} {m : MethodId} {args : Array Value} {below : List Frame} {meth : Method} {c : Code} {z : gZ} {M : Mem} {a : Nat} {u1 : Int32} {u2 : Int32} {o : Int32 × Mem} (X : gX p m c cX7_streetOf 6 s args RX7 z) (hr : meth.sig.returnType = (some .int)) (hlk : meth.locks = false) (k_a : kd a = 7) (n_a : a + 59 ≤ gn z)  : ∀ (n : Nat) (w3 : Int32) (w4 : Int32) (w5 : Int32) (H : Heap) (locs : List Loc) (ls : Array Slot), fX7_streetOf_35 N M a u1 u2  n w3 w4 w5 = some o → gW z M H → va_S (gA z) s.heap H locs → lv_has ls 6 [(0, .ref (gad z a)), (1, .int u1), (2, .int u2), (3, .int w3), (4, .int w4), (5, .int w5)] → W p l e { frames := 2, cells := 0, slots := 0, locals := 46 } s m args below meth c H locs 0 0 (MQ below (va_Qi (fun r' (_ : Unit) => r' = o.1) (fun _ t => gW z o.2 t.heap) (gA z)) args s 0 0 (gA z)) (F0 m 35 ls []) := by
  have hx := X.1
  have hb := X.2.1
  intro n
  induction n with
  | zero => intro w3 w4 w5 H locs ls h; cases h
  | succ n ih =>
    intro w3 w4 w5 H locs ls h hG hS hl
    rw [fX7_streetOf_35] at h
    refine lv_iload hx hb dX7_streetOf_35 (lv_at hl 5 rfl) ?_
    refine lv_aload_n hx hb dX7_streetOf_37 rfl (lv_at hl 0 rfl) ?_
    refine gf_X7_11 X hG (nx_0 n_a) k_a fl_X7_40 dX7_streetOf_38 ?_
    refine lv_iload_n hx hb dX7_streetOf_41 rfl (lv_at hl 1 rfl) ?_
    obtain ⟨i1, h⟩ := gd_y h
    refine g_iald X hG (nx_a (a := a) (k := 18) (n := 59) n_a (Nat.le_of_ble_eq_true rfl)) (kx_7_18 k_a) (by decide) i1 dX7_streetOf_42 ?_
    refine lv_icmp_ge (tgt := 79) hx hb dX7_streetOf_43 (by decide) (fun q2 => ?_) (fun q2 => ?_)
    · have h := ite_y h q2
      refine lv_iload_n hx hb dX7_streetOf_79 rfl (lv_at hl 2 rfl) ?_
      by_cases q3 : u2 = 0
      · have h := ite_y h q3
        refine lv_tableIn (tgt := 112) hx hb dX7_streetOf_80 (by rw [q3]; decide) (by rw [q3]; decide) (by rw [q3]; rfl) (by decide) ?_
        refine lv_aload_n hx hb dX7_streetOf_112 rfl (lv_at hl 0 rfl) ?_
        refine gf_X7_11 X hG (nx_0 n_a) k_a fl_X7_40 dX7_streetOf_113 ?_
        refine lv_iload_n hx hb dX7_streetOf_116 rfl (lv_at hl 1 rfl) ?_
        refine g_iald X hG (nx_a (a := a) (k := 18) (n := 59) n_a (Nat.le_of_ble_eq_true rfl)) (kx_7_18 k_a) (by decide) i1 dX7_streetOf_117 ?_
        obtain rfl := Option.some.inj h
        exact g_iret X hr hlk hG hS dX7_streetOf_118
      · have h := ite_n h q3
        by_cases q4 : u2 = 1
        · have h := ite_y h q4
          refine lv_tableIn (tgt := 119) hx hb dX7_streetOf_80 (by rw [q4]; decide) (by rw [q4]; decide) (by rw [q4]; rfl) (by decide) ?_
          refine lv_iload_n hx hb dX7_streetOf_119 rfl (lv_at hl 3 rfl) ?_
          refine lv_iconst (v := 2) hx hb dX7_streetOf_120 (by decide) ?_
          refine lv_idiv hx hb dX7_streetOf_121 (by decide) ?_
          obtain rfl := Option.some.inj h
          exact g_iret X hr hlk hG hS dX7_streetOf_122
        · have h := ite_n h q4
          by_cases q5 : u2 = 2
          · have h := ite_y h q5
            refine lv_tableIn (tgt := 123) hx hb dX7_streetOf_80 (by rw [q5]; decide) (by rw [q5]; decide) (by rw [q5]; rfl) (by decide) ?_
            refine lv_aload_n hx hb dX7_streetOf_123 rfl (lv_at hl 0 rfl) ?_
            refine gf_X7_12 X hG (nx_0 n_a) k_a fl_X7_43 dX7_streetOf_124 ?_
            refine lv_iload_n hx hb dX7_streetOf_127 rfl (lv_at hl 1 rfl) ?_
            refine g_iald X hG (nx_a (a := a) (k := 19) (n := 59) n_a (Nat.le_of_ble_eq_true rfl)) (kx_7_19 k_a) (by decide) i1 dX7_streetOf_128 ?_
            obtain rfl := Option.some.inj h
            exact g_iret X hr hlk hG hS dX7_streetOf_129
          · have h := ite_n h q5
            by_cases q6 : u2 = 3
            · have h := ite_y h q6
              refine lv_tableIn (tgt := 130) hx hb dX7_streetOf_80 (by rw [q6]; decide) (by rw [q6]; decide) (by rw [q6]; rfl) (by decide) ?_
              refine lv_aload_n hx hb dX7_streetOf_130 rfl (lv_at hl 0 rfl) ?_
              refine gf_X7_13 X hG (nx_0 n_a) k_a fl_X7_46 dX7_streetOf_131 ?_
              refine lv_iload_n hx hb dX7_streetOf_134 rfl (lv_at hl 1 rfl) ?_
              refine g_iald X hG (nx_a (a := a) (k := 20) (n := 59) n_a (Nat.le_of_ble_eq_true rfl)) (kx_7_20 k_a) (by decide) i1 dX7_streetOf_135 ?_
              obtain rfl := Option.some.inj h
              exact g_iret X hr hlk hG hS dX7_streetOf_136
            · have h := ite_n h q6
              refine lv_tableOut (tgt := 137) hx hb dX7_streetOf_80 (by have eq3 := lv_neT (a := 0) q3 (by decide); have eq4 := lv_neT (a := 1) q4 (by decide); have eq5 := lv_neT (a := 2) q5 (by decide); have eq6 := lv_neT (a := 3) q6 (by decide); omega) (by decide) ?_
              refine lv_iload hx hb dX7_streetOf_137 (lv_at hl 4 rfl) ?_
              refine lv_iconst (v := 2) hx hb dX7_streetOf_139 (by decide) ?_
              refine lv_idiv hx hb dX7_streetOf_140 (by decide) ?_
              obtain rfl := Option.some.inj h
              exact g_iret X hr hlk hG hS dX7_streetOf_141
    · have h := ite_n h q2
      refine lv_iload_n hx hb dX7_streetOf_46 rfl (lv_at hl 3 rfl) ?_
      refine lv_aload_n hx hb dX7_streetOf_47 rfl (lv_at hl 0 rfl) ?_
      refine gf_X7_16 X hG (nx_0 n_a) k_a fl_X7_57 dX7_streetOf_48 ?_
      refine lv_iload_n hx hb dX7_streetOf_51 rfl (lv_at hl 1 rfl) ?_
      refine g_aldII X hG (nx_a (a := a) (k := 33) (n := 59) n_a (Nat.le_of_ble_eq_true rfl)) (kx_7_33 k_a) (by decide) i1 dX7_streetOf_52 ?_
      refine lv_iload hx hb dX7_streetOf_53 (lv_at hl 5 rfl) ?_
      obtain ⟨i7, h⟩ := gd_y h
      refine g_iald X hG (nE n_a i1 (Nat.le_of_ble_eq_true rfl)) (ke_7_33 k_a i1) (by decide) i7 dX7_streetOf_55 ?_
      obtain ⟨r8, hcr8, h⟩ := bd_y h
      refine g_cSI (av := [.int (M.1 ((a + 33) + 1 + (u1 : Int32).toNatClampNeg) (w5 : Int32).toNatClampNeg)]) (rest := [.int w3]) X hG hS (ct_X7_bits l z  hcr8) mt_X7_bits ml_X7_223 rfl ⟨rfl, rfl, Nat.le_of_ble_eq_true rfl, Nat.le_of_ble_eq_true rfl⟩ ⟨Nat.le_refl 0, Nat.le_refl 0⟩ hl.1 (Nat.le_of_ble_eq_true rfl) rfl dX7_streetOf_56 (fun H locs hG hS => ?_)
      refine lv_iadd hx hb dX7_streetOf_59 ?_
      refine lv_topi (fun x9 ex9 => ?_)
      have h := nm_y h x9 ex9
      refine lv_istore_n (lv' := [(3, .int x9), (0, .ref (gad z a)), (1, .int u1), (2, .int u2), (4, .int w4), (5, .int w5)]) hx hb dX7_streetOf_60 rfl hl (by decide) rfl (fun ls hl => ?_)
      refine lv_iload hx hb dX7_streetOf_61 (lv_at hl 4 rfl) ?_
      refine lv_aload_n hx hb dX7_streetOf_63 rfl (lv_at hl 1 rfl) ?_
      refine lv_iload_n hx hb dX7_streetOf_64 rfl (lv_at hl 2 rfl) ?_
      refine lv_iload hx hb dX7_streetOf_65 (lv_at hl 5 rfl) ?_
      obtain ⟨r10, hcr10, h⟩ := bd_y h
      refine g_cVI (a := a) (ci := 7) (T := TX7) (N := 37) (av := [.int u1, .int w5]) (rest := [.int w4]) X hG hS (ct_X7_pricesOf l z k_a n_a hcr10) mt_X7_pricesOf ml_X7_226 rfl ⟨rfl, rfl, Nat.le_of_ble_eq_true rfl, Nat.le_of_ble_eq_true rfl⟩ ⟨Nat.le_refl 0, Nat.le_refl 0⟩ (nx_0 n_a) k_a (by decide) rfl hl.1 (Nat.le_of_ble_eq_true rfl) rfl dX7_streetOf_67 (fun H locs hG hS => ?_)
      refine lv_iadd hx hb dX7_streetOf_70 ?_
      refine lv_topi (fun x11 ex11 => ?_)
      have h := nm_y h x11 ex11
      refine lv_istore (lv' := [(4, .int x11), (3, .int x9), (0, .ref (gad z a)), (1, .int u1), (2, .int u2), (5, .int w5)]) hx hb dX7_streetOf_71 hl (by decide) rfl (fun ls hl => ?_)
      refine lv_iinc (v := (w5 + 1)) (lv' := [(5, .int (w5 + 1)), (4, .int x11), (3, .int x9), (0, .ref (gad z a)), (1, .int u1), (2, .int u2)]) hx hb dX7_streetOf_73 hl (k := 5) rfl rfl (by decide) rfl (fun ls hl => ?_)
      refine lv_goto (tgt := 35) hx hb dX7_streetOf_76 (by decide) ?_
      exact ih x9 x11 (w5 + 1) _ _ _ h hG hS (lv_sub hl [3, 4, 5, 2, 1, 0] rfl)
set_option maxRecDepth 100000 in
set_option maxHeartbeats 4000000 in
theorem ct_X7_streetOf (l : Launch) (z : gZ) {N : Nat} {M : Mem} {a : Nat} {v1 : Int32} {v2 : Int32} {o : Int32 × Mem} (k_a : kd a = 7) (n_a : a + 59 ≤ gn z) (h : fX7_streetOf N M a v1 v2 = some o) : CtI l z yX7_streetOf cX7_streetOf 6 (some .int) { frames := 2, cells := 0, slots := 0, locals := 46 } [.ref (gad z a), .int v1, .int v2] M o.1 o.2 := by
  refine Ct_of rfl (Nat.le_of_ble_eq_true rfl) ?_
  intro p e s m below meth c ls X hr hlk hG hS hl
  have X : gX p m c _ _ s _ RX7 z := X
  have hl : lv_has ls 6 [(0, .ref (gad z a)), (1, .int v1), (2, .int v2)] := hl
  have hx := X.1
  have hb := X.2.1
  unfold fX7_streetOf at h
  refine lv_aload_n hx hb dX7_streetOf_0 rfl (lv_at hl 0 rfl) ?_
  refine lv_iload_n hx hb dX7_streetOf_1 rfl (lv_at hl 1 rfl) ?_
  obtain ⟨r1, hcr1, h⟩ := bd_y h
  refine g_cVI (a := a) (ci := 7) (T := TX7) (N := 37) (av := [.int v1]) (rest := []) X hG hS (ct_X7_isStreet l z k_a n_a hcr1) mt_X7_isStreet ml_X7_92 rfl ⟨rfl, rfl, Nat.le_of_ble_eq_true rfl, Nat.le_of_ble_eq_true rfl⟩ ⟨Nat.le_refl 0, Nat.le_refl 0⟩ (nx_0 n_a) k_a (by decide) rfl hl.1 (Nat.le_of_ble_eq_true rfl) rfl dX7_streetOf_2 (fun H locs hG hS => ?_)
  refine lv_if_eq (tgt := 20) hx hb dX7_streetOf_5 (by decide) (fun q2 => ?_) (fun q2 => ?_)
  · have h := ite_y h q2
    refine lv_aload_n hx hb dX7_streetOf_20 rfl (lv_at hl 0 rfl) ?_
    refine lv_bipush (v := (-2)) hx hb dX7_streetOf_21 (by decide) ?_
    obtain ⟨r3, hcr3, h⟩ := bd_y h
    refine g_cVI (a := a) (ci := 7) (T := TX7) (N := 37) (av := [.int (-2)]) (rest := []) X hG hS (ct_X7_refuse l z k_a n_a hcr3) mt_X7_refuse ml_X7_106 rfl ⟨rfl, rfl, Nat.le_of_ble_eq_true rfl, Nat.le_of_ble_eq_true rfl⟩ ⟨Nat.le_refl 0, Nat.le_refl 0⟩ (nx_0 n_a) k_a (by decide) rfl hl.1 (Nat.le_of_ble_eq_true rfl) rfl dX7_streetOf_23 (fun H locs hG hS => ?_)
    obtain rfl := Option.some.inj h
    exact g_iret X hr hlk hG hS dX7_streetOf_26
  · have h := ite_n h q2
    refine lv_iload_n hx hb dX7_streetOf_8 rfl (lv_at hl 2 rfl) ?_
    refine lv_i2l hx hb dX7_streetOf_9 rfl ?_
    refine lv_lconst (v := 0) hx hb dX7_streetOf_10 (by decide) ?_
    refine lv_ldc2 (v := 4) hx hb X.2.2.2.1 (X.2.2.2.2.1 _ cn_X7_102) dX7_streetOf_11 ?_
    obtain ⟨r4, hcr4, h⟩ := bd_y h
    refine g_cSI (av := [.long ((v2 : Int32).toInt64), .long 0, .long 4]) (rest := []) X hG hS (ct_X7_in l z  hcr4) mt_X7_in ml_X7_88 rfl ⟨rfl, rfl, Nat.le_of_ble_eq_true rfl, Nat.le_of_ble_eq_true rfl⟩ ⟨Nat.le_refl 0, Nat.le_refl 0⟩ hl.1 (Nat.le_of_ble_eq_true rfl) rfl dX7_streetOf_14 (fun H locs hG hS => ?_)
    refine lv_if_ne (tgt := 27) hx hb dX7_streetOf_17 (by decide) (fun q5 => ?_) (fun q5 => ?_)
    · have h := ite_n h q5
      refine lv_iconst (v := 0) hx hb dX7_streetOf_27 (by decide) ?_
      refine lv_istore_n (lv' := [(3, .int 0), (0, .ref (gad z a)), (1, .int v1), (2, .int v2)]) hx hb dX7_streetOf_28 rfl hl (by decide) rfl (fun ls hl => ?_)
      refine lv_iconst (v := 0) hx hb dX7_streetOf_29 (by decide) ?_
      refine lv_istore (lv' := [(4, .int 0), (3, .int 0), (0, .ref (gad z a)), (1, .int v1), (2, .int v2)]) hx hb dX7_streetOf_30 hl (by decide) rfl (fun ls hl => ?_)
      refine lv_iconst (v := 0) hx hb dX7_streetOf_32 (by decide) ?_
      refine lv_istore (lv' := [(5, .int 0), (4, .int 0), (3, .int 0), (0, .ref (gad z a)), (1, .int v1), (2, .int v2)]) hx hb dX7_streetOf_33 hl (by decide) rfl (fun ls hl => ?_)
      refine wX7_streetOf_35 X hr hlk k_a n_a _ _ _ _ _ _ _ h hG hS (lv_sub hl [3, 4, 5, 2, 1, 0] rfl)
    · have h := ite_y h q5
      refine lv_aload_n hx hb dX7_streetOf_20 rfl (lv_at hl 0 rfl) ?_
      refine lv_bipush (v := (-2)) hx hb dX7_streetOf_21 (by decide) ?_
      obtain ⟨r12, hcr12, h⟩ := bd_y h
      refine g_cVI (a := a) (ci := 7) (T := TX7) (N := 37) (av := [.int (-2)]) (rest := []) X hG hS (ct_X7_refuse l z k_a n_a hcr12) mt_X7_refuse ml_X7_106 rfl ⟨rfl, rfl, Nat.le_of_ble_eq_true rfl, Nat.le_of_ble_eq_true rfl⟩ ⟨Nat.le_refl 0, Nat.le_refl 0⟩ (nx_0 n_a) k_a (by decide) rfl hl.1 (Nat.le_of_ble_eq_true rfl) rfl dX7_streetOf_23 (fun H locs hG hS => ?_)
      obtain rfl := Option.some.inj h
      exact g_iret X hr hlk hG hS dX7_streetOf_26
set_option maxRecDepth 100000 in
set_option maxHeartbeats 4000000 in
theorem ct_X7_personOf (l : Launch) (z : gZ) {N : Nat} {M : Mem} {a : Nat} {v1 : Int32} {v2 : Int32} {v3 : Int32} {o : Int32 × Mem} (k_a : kd a = 7) (n_a : a + 59 ≤ gn z) (h : fX7_personOf N M a v1 v2 v3 = some o) : CtI l z yX7_personOf cX7_personOf 4 (some .int) { frames := 3, cells := 0, slots := 0, locals := 68 } [.ref (gad z a), .int v1, .int v2, .int v3] M o.1 o.2 := by
  refine Ct_of rfl (Nat.le_of_ble_eq_true rfl) ?_
  intro p e s m below meth c ls X hr hlk hG hS hl
  have X : gX p m c _ _ s _ RX7 z := X
  have hl : lv_has ls 4 [(0, .ref (gad z a)), (1, .int v1), (2, .int v2), (3, .int v3)] := hl
  have hx := X.1
  have hb := X.2.1
  unfold fX7_personOf at h
  refine lv_aload_n hx hb dX7_personOf_0 rfl (lv_at hl 0 rfl) ?_
  refine lv_iload_n hx hb dX7_personOf_1 rfl (lv_at hl 1 rfl) ?_
  refine lv_iload_n hx hb dX7_personOf_2 rfl (lv_at hl 2 rfl) ?_
  obtain ⟨r1, hcr1, h⟩ := bd_y h
  refine g_cVI (a := a) (ci := 7) (T := TX7) (N := 37) (av := [.int v1, .int v2]) (rest := []) X hG hS (ct_X7_isPerson l z k_a n_a hcr1) mt_X7_isPerson ml_X7_230 rfl ⟨rfl, rfl, Nat.le_of_ble_eq_true rfl, Nat.le_of_ble_eq_true rfl⟩ ⟨Nat.le_refl 0, Nat.le_refl 0⟩ (nx_0 n_a) k_a (by decide) rfl hl.1 (Nat.le_of_ble_eq_true rfl) rfl dX7_personOf_3 (fun H locs hG hS => ?_)
  refine lv_if_eq (tgt := 21) hx hb dX7_personOf_6 (by decide) (fun q2 => ?_) (fun q2 => ?_)
  · have h := ite_y h q2
    refine lv_aload_n hx hb dX7_personOf_21 rfl (lv_at hl 0 rfl) ?_
    refine lv_bipush (v := (-2)) hx hb dX7_personOf_22 (by decide) ?_
    obtain ⟨r3, hcr3, h⟩ := bd_y h
    refine g_cVI (a := a) (ci := 7) (T := TX7) (N := 37) (av := [.int (-2)]) (rest := []) X hG hS (ct_X7_refuse l z k_a n_a hcr3) mt_X7_refuse ml_X7_106 rfl ⟨rfl, rfl, Nat.le_of_ble_eq_true rfl, Nat.le_of_ble_eq_true rfl⟩ ⟨Nat.le_refl 0, Nat.le_refl 0⟩ (nx_0 n_a) k_a (by decide) rfl hl.1 (Nat.le_of_ble_eq_true rfl) rfl dX7_personOf_24 (fun H locs hG hS => ?_)
    obtain rfl := Option.some.inj h
    exact g_iret X hr hlk hG hS dX7_personOf_27
  · have h := ite_n h q2
    refine lv_iload_n hx hb dX7_personOf_9 rfl (lv_at hl 3 rfl) ?_
    refine lv_i2l hx hb dX7_personOf_10 rfl ?_
    refine lv_lconst (v := 0) hx hb dX7_personOf_11 (by decide) ?_
    refine lv_ldc2 (v := 5) hx hb X.2.2.2.1 (X.2.2.2.2.1 _ cn_X7_119) dX7_personOf_12 ?_
    obtain ⟨r4, hcr4, h⟩ := bd_y h
    refine g_cSI (av := [.long ((v3 : Int32).toInt64), .long 0, .long 5]) (rest := []) X hG hS (ct_X7_in l z  hcr4) mt_X7_in ml_X7_88 rfl ⟨rfl, rfl, Nat.le_of_ble_eq_true rfl, Nat.le_of_ble_eq_true rfl⟩ ⟨Nat.le_refl 0, Nat.le_refl 0⟩ hl.1 (Nat.le_of_ble_eq_true rfl) rfl dX7_personOf_15 (fun H locs hG hS => ?_)
    refine lv_if_ne (tgt := 28) hx hb dX7_personOf_18 (by decide) (fun q5 => ?_) (fun q5 => ?_)
    · have h := ite_n h q5
      refine lv_iload_n hx hb dX7_personOf_28 rfl (lv_at hl 3 rfl) ?_
      by_cases q6 : v3 = 0
      · have h := ite_y h q6
        refine lv_tableIn (tgt := 64) hx hb dX7_personOf_29 (by rw [q6]; decide) (by rw [q6]; decide) (by rw [q6]; rfl) (by decide) ?_
        refine lv_aload_n hx hb dX7_personOf_64 rfl (lv_at hl 0 rfl) ?_
        refine gf_X7_14 X hG (nx_0 n_a) k_a fl_X7_51 dX7_personOf_65 ?_
        refine lv_iload_n hx hb dX7_personOf_68 rfl (lv_at hl 1 rfl) ?_
        obtain ⟨i7, h⟩ := gd_y h
        refine g_aldII X hG (nx_a (a := a) (k := 21) (n := 59) n_a (Nat.le_of_ble_eq_true rfl)) (kx_7_21 k_a) (by decide) i7 dX7_personOf_69 ?_
        refine lv_iload_n hx hb dX7_personOf_70 rfl (lv_at hl 2 rfl) ?_
        obtain ⟨i8, h⟩ := gd_y h
        refine g_iald X hG (nE n_a i7 (Nat.le_of_ble_eq_true rfl)) (ke_7_21 k_a i7) (by decide) i8 dX7_personOf_71 ?_
        obtain rfl := Option.some.inj h
        exact g_iret X hr hlk hG hS dX7_personOf_72
      · have h := ite_n h q6
        by_cases q9 : v3 = 1
        · have h := ite_y h q9
          refine lv_tableIn (tgt := 73) hx hb dX7_personOf_29 (by rw [q9]; decide) (by rw [q9]; decide) (by rw [q9]; rfl) (by decide) ?_
          refine lv_aload_n hx hb dX7_personOf_73 rfl (lv_at hl 0 rfl) ?_
          refine gf_X7_15 X hG (nx_0 n_a) k_a fl_X7_54 dX7_personOf_74 ?_
          refine lv_iload_n hx hb dX7_personOf_77 rfl (lv_at hl 1 rfl) ?_
          obtain ⟨i10, h⟩ := gd_y h
          refine g_aldII X hG (nx_a (a := a) (k := 27) (n := 59) n_a (Nat.le_of_ble_eq_true rfl)) (kx_7_27 k_a) (by decide) i10 dX7_personOf_78 ?_
          refine lv_iload_n hx hb dX7_personOf_79 rfl (lv_at hl 2 rfl) ?_
          obtain ⟨i11, h⟩ := gd_y h
          refine g_iald X hG (nE n_a i10 (Nat.le_of_ble_eq_true rfl)) (ke_7_27 k_a i10) (by decide) i11 dX7_personOf_80 ?_
          obtain rfl := Option.some.inj h
          exact g_iret X hr hlk hG hS dX7_personOf_81
        · have h := ite_n h q9
          by_cases q12 : v3 = 2
          · have h := ite_y h q12
            refine lv_tableIn (tgt := 82) hx hb dX7_personOf_29 (by rw [q12]; decide) (by rw [q12]; decide) (by rw [q12]; rfl) (by decide) ?_
            refine lv_aload_n hx hb dX7_personOf_82 rfl (lv_at hl 0 rfl) ?_
            refine gf_X7_16 X hG (nx_0 n_a) k_a fl_X7_57 dX7_personOf_83 ?_
            refine lv_iload_n hx hb dX7_personOf_86 rfl (lv_at hl 1 rfl) ?_
            obtain ⟨i13, h⟩ := gd_y h
            refine g_aldII X hG (nx_a (a := a) (k := 33) (n := 59) n_a (Nat.le_of_ble_eq_true rfl)) (kx_7_33 k_a) (by decide) i13 dX7_personOf_87 ?_
            refine lv_iload_n hx hb dX7_personOf_88 rfl (lv_at hl 2 rfl) ?_
            obtain ⟨i14, h⟩ := gd_y h
            refine g_iald X hG (nE n_a i13 (Nat.le_of_ble_eq_true rfl)) (ke_7_33 k_a i13) (by decide) i14 dX7_personOf_89 ?_
            obtain rfl := Option.some.inj h
            exact g_iret X hr hlk hG hS dX7_personOf_90
          · have h := ite_n h q12
            by_cases q15 : v3 = 3
            · have h := ite_y h q15
              refine lv_tableIn (tgt := 91) hx hb dX7_personOf_29 (by rw [q15]; decide) (by rw [q15]; decide) (by rw [q15]; rfl) (by decide) ?_
              refine lv_aload_n hx hb dX7_personOf_91 rfl (lv_at hl 0 rfl) ?_
              refine gf_X7_13 X hG (nx_0 n_a) k_a fl_X7_46 dX7_personOf_92 ?_
              refine lv_iload_n hx hb dX7_personOf_95 rfl (lv_at hl 1 rfl) ?_
              obtain ⟨i16, h⟩ := gd_y h
              refine g_iald X hG (nx_a (a := a) (k := 20) (n := 59) n_a (Nat.le_of_ble_eq_true rfl)) (kx_7_20 k_a) (by decide) i16 dX7_personOf_96 ?_
              refine lv_iload_n hx hb dX7_personOf_97 rfl (lv_at hl 2 rfl) ?_
              refine lv_ishr hx hb dX7_personOf_98 ?_
              refine lv_iconst (v := 1) hx hb dX7_personOf_99 (by decide) ?_
              refine lv_iand hx hb dX7_personOf_100 ?_
              obtain rfl := Option.some.inj h
              exact g_iret X hr hlk hG hS dX7_personOf_101
            · have h := ite_n h q15
              by_cases q17 : v3 = 4
              · have h := ite_y h q17
                refine lv_tableIn (tgt := 102) hx hb dX7_personOf_29 (by rw [q17]; decide) (by rw [q17]; decide) (by rw [q17]; rfl) (by decide) ?_
                refine lv_aload_n hx hb dX7_personOf_102 rfl (lv_at hl 0 rfl) ?_
                refine gf_X7_18 X hG (nx_0 n_a) k_a fl_X7_63 dX7_personOf_103 ?_
                refine lv_iload_n hx hb dX7_personOf_106 rfl (lv_at hl 1 rfl) ?_
                obtain ⟨i18, h⟩ := gd_y h
                refine g_aldII X hG (nx_a (a := a) (k := 45) (n := 59) n_a (Nat.le_of_ble_eq_true rfl)) (kx_7_45 k_a) (by decide) i18 dX7_personOf_107 ?_
                refine lv_iload_n hx hb dX7_personOf_108 rfl (lv_at hl 2 rfl) ?_
                obtain ⟨i19, h⟩ := gd_y h
                refine g_iald X hG (nE n_a i18 (Nat.le_of_ble_eq_true rfl)) (ke_7_45 k_a i18) (by decide) i19 dX7_personOf_109 ?_
                refine lv_if_ne (tgt := 117) hx hb dX7_personOf_110 (by decide) (fun q20 => ?_) (fun q20 => ?_)
                · have h := ite_n h q20
                  refine lv_aload_n hx hb dX7_personOf_117 rfl (lv_at hl 0 rfl) ?_
                  refine gf_X7_18 X hG (nx_0 n_a) k_a fl_X7_63 dX7_personOf_118 ?_
                  refine lv_iload_n hx hb dX7_personOf_121 rfl (lv_at hl 1 rfl) ?_
                  refine g_aldII X hG (nx_a (a := a) (k := 45) (n := 59) n_a (Nat.le_of_ble_eq_true rfl)) (kx_7_45 k_a) (by decide) i18 dX7_personOf_122 ?_
                  refine lv_iload_n hx hb dX7_personOf_123 rfl (lv_at hl 2 rfl) ?_
                  refine g_iald X hG (nE n_a i18 (Nat.le_of_ble_eq_true rfl)) (ke_7_45 k_a i18) (by decide) i19 dX7_personOf_124 ?_
                  obtain rfl := Option.some.inj h
                  exact g_iret X hr hlk hG hS dX7_personOf_125
                · have h := ite_y h q20
                  refine lv_iconst (v := (-1)) hx hb dX7_personOf_113 (by decide) ?_
                  refine lv_goto (tgt := 125) hx hb dX7_personOf_114 (by decide) ?_
                  obtain rfl := Option.some.inj h
                  exact g_iret X hr hlk hG hS dX7_personOf_125
              · have h := ite_n h q17
                refine lv_tableOut (tgt := 126) hx hb dX7_personOf_29 (by have eq6 := lv_neT (a := 0) q6 (by decide); have eq9 := lv_neT (a := 1) q9 (by decide); have eq12 := lv_neT (a := 2) q12 (by decide); have eq15 := lv_neT (a := 3) q15 (by decide); have eq17 := lv_neT (a := 4) q17 (by decide); omega) (by decide) ?_
                refine lv_aload_n hx hb dX7_personOf_126 rfl (lv_at hl 0 rfl) ?_
                refine lv_iload_n hx hb dX7_personOf_127 rfl (lv_at hl 1 rfl) ?_
                refine lv_iload_n hx hb dX7_personOf_128 rfl (lv_at hl 2 rfl) ?_
                obtain ⟨r21, hcr21, h⟩ := bd_y h
                refine g_cVI (a := a) (ci := 7) (T := TX7) (N := 37) (av := [.int v1, .int v2]) (rest := []) X hG hS (ct_X7_pricesOf l z k_a n_a hcr21) mt_X7_pricesOf ml_X7_226 rfl ⟨rfl, rfl, Nat.le_of_ble_eq_true rfl, Nat.le_of_ble_eq_true rfl⟩ ⟨Nat.le_refl 0, Nat.le_refl 0⟩ (nx_0 n_a) k_a (by decide) rfl hl.1 (Nat.le_of_ble_eq_true rfl) rfl dX7_personOf_129 (fun H locs hG hS => ?_)
                obtain rfl := Option.some.inj h
                exact g_iret X hr hlk hG hS dX7_personOf_132
    · have h := ite_y h q5
      refine lv_aload_n hx hb dX7_personOf_21 rfl (lv_at hl 0 rfl) ?_
      refine lv_bipush (v := (-2)) hx hb dX7_personOf_22 (by decide) ?_
      obtain ⟨r22, hcr22, h⟩ := bd_y h
      refine g_cVI (a := a) (ci := 7) (T := TX7) (N := 37) (av := [.int (-2)]) (rest := []) X hG hS (ct_X7_refuse l z k_a n_a hcr22) mt_X7_refuse ml_X7_106 rfl ⟨rfl, rfl, Nat.le_of_ble_eq_true rfl, Nat.le_of_ble_eq_true rfl⟩ ⟨Nat.le_refl 0, Nat.le_refl 0⟩ (nx_0 n_a) k_a (by decide) rfl hl.1 (Nat.le_of_ble_eq_true rfl) rfl dX7_personOf_24 (fun H locs hG hS => ?_)
      obtain rfl := Option.some.inj h
      exact g_iret X hr hlk hG hS dX7_personOf_27
set_option maxRecDepth 100000 in
set_option maxHeartbeats 4000000 in
theorem ct_X7_alter (l : Launch) (z : gZ) {N : Nat} {M : Mem} {a : Nat} {v1 : Int32} {v2 : Int32} {v3 : Int32} {v4 : Int32} {o : Int32 × Mem} (k_a : kd a = 7) (n_a : a + 59 ≤ gn z) (h : fX7_alter N M a v1 v2 v3 v4 = some o) : CtI l z yX7_alter cX7_alter 7 (some .int) { frames := 3, cells := 0, slots := 0, locals := 68 } [.ref (gad z a), .int v1, .int v2, .int v3, .int v4] M o.1 o.2 := by
  refine Ct_of rfl (Nat.le_of_ble_eq_true rfl) ?_
  intro p e s m below meth c ls X hr hlk hG hS hl
  have X : gX p m c _ _ s _ RX7 z := X
  have hl : lv_has ls 7 [(0, .ref (gad z a)), (1, .int v1), (2, .int v2), (3, .int v3), (4, .int v4)] := hl
  have hx := X.1
  have hb := X.2.1
  unfold fX7_alter at h
  refine lv_aload_n hx hb dX7_alter_0 rfl (lv_at hl 0 rfl) ?_
  refine lv_iload_n hx hb dX7_alter_1 rfl (lv_at hl 1 rfl) ?_
  refine lv_iload_n hx hb dX7_alter_2 rfl (lv_at hl 2 rfl) ?_
  obtain ⟨r1, hcr1, h⟩ := bd_y h
  refine g_cVI (a := a) (ci := 7) (T := TX7) (N := 37) (av := [.int v1, .int v2]) (rest := []) X hG hS (ct_X7_isPerson l z k_a n_a hcr1) mt_X7_isPerson ml_X7_230 rfl ⟨rfl, rfl, Nat.le_of_ble_eq_true rfl, Nat.le_of_ble_eq_true rfl⟩ ⟨Nat.le_refl 0, Nat.le_refl 0⟩ (nx_0 n_a) k_a (by decide) rfl hl.1 (Nat.le_of_ble_eq_true rfl) rfl dX7_alter_3 (fun H locs hG hS => ?_)
  refine lv_if_eq (tgt := 32) hx hb dX7_alter_6 (by decide) (fun q2 => ?_) (fun q2 => ?_)
  · have h := ite_y h q2
    refine lv_aload_n hx hb dX7_alter_32 rfl (lv_at hl 0 rfl) ?_
    refine lv_bipush (v := (-2)) hx hb dX7_alter_33 (by decide) ?_
    obtain ⟨r3, hcr3, h⟩ := bd_y h
    refine g_cVI (a := a) (ci := 7) (T := TX7) (N := 37) (av := [.int (-2)]) (rest := []) X hG hS (ct_X7_refuse l z k_a n_a hcr3) mt_X7_refuse ml_X7_106 rfl ⟨rfl, rfl, Nat.le_of_ble_eq_true rfl, Nat.le_of_ble_eq_true rfl⟩ ⟨Nat.le_refl 0, Nat.le_refl 0⟩ (nx_0 n_a) k_a (by decide) rfl hl.1 (Nat.le_of_ble_eq_true rfl) rfl dX7_alter_35 (fun H locs hG hS => ?_)
    obtain rfl := Option.some.inj h
    exact g_iret X hr hlk hG hS dX7_alter_38
  · have h := ite_n h q2
    refine lv_iload_n hx hb dX7_alter_9 rfl (lv_at hl 3 rfl) ?_
    refine lv_i2l hx hb dX7_alter_10 rfl ?_
    refine lv_lconst (v := 0) hx hb dX7_alter_11 (by decide) ?_
    refine lv_lconst (v := 1) hx hb dX7_alter_12 (by decide) ?_
    obtain ⟨r4, hcr4, h⟩ := bd_y h
    refine g_cSI (av := [.long ((v3 : Int32).toInt64), .long 0, .long 1]) (rest := []) X hG hS (ct_X7_in l z  hcr4) mt_X7_in ml_X7_88 rfl ⟨rfl, rfl, Nat.le_of_ble_eq_true rfl, Nat.le_of_ble_eq_true rfl⟩ ⟨Nat.le_refl 0, Nat.le_refl 0⟩ hl.1 (Nat.le_of_ble_eq_true rfl) rfl dX7_alter_13 (fun H locs hG hS => ?_)
    refine lv_if_eq (tgt := 32) hx hb dX7_alter_16 (by decide) (fun q5 => ?_) (fun q5 => ?_)
    · have h := ite_y h q5
      refine lv_aload_n hx hb dX7_alter_32 rfl (lv_at hl 0 rfl) ?_
      refine lv_bipush (v := (-2)) hx hb dX7_alter_33 (by decide) ?_
      obtain ⟨r6, hcr6, h⟩ := bd_y h
      refine g_cVI (a := a) (ci := 7) (T := TX7) (N := 37) (av := [.int (-2)]) (rest := []) X hG hS (ct_X7_refuse l z k_a n_a hcr6) mt_X7_refuse ml_X7_106 rfl ⟨rfl, rfl, Nat.le_of_ble_eq_true rfl, Nat.le_of_ble_eq_true rfl⟩ ⟨Nat.le_refl 0, Nat.le_refl 0⟩ (nx_0 n_a) k_a (by decide) rfl hl.1 (Nat.le_of_ble_eq_true rfl) rfl dX7_alter_35 (fun H locs hG hS => ?_)
      obtain rfl := Option.some.inj h
      exact g_iret X hr hlk hG hS dX7_alter_38
    · have h := ite_n h q5
      refine lv_iload hx hb dX7_alter_19 (lv_at hl 4 rfl) ?_
      refine lv_i2l hx hb dX7_alter_21 rfl ?_
      refine lv_lconst (v := 0) hx hb dX7_alter_22 (by decide) ?_
      refine lv_ldc2 (v := 99) hx hb X.2.2.2.1 (X.2.2.2.2.1 _ cn_X7_233) dX7_alter_23 ?_
      obtain ⟨r7, hcr7, h⟩ := bd_y h
      refine g_cSI (av := [.long ((v4 : Int32).toInt64), .long 0, .long 99]) (rest := []) X hG hS (ct_X7_in l z  hcr7) mt_X7_in ml_X7_88 rfl ⟨rfl, rfl, Nat.le_of_ble_eq_true rfl, Nat.le_of_ble_eq_true rfl⟩ ⟨Nat.le_refl 0, Nat.le_refl 0⟩ hl.1 (Nat.le_of_ble_eq_true rfl) rfl dX7_alter_26 (fun H locs hG hS => ?_)
      refine lv_if_ne (tgt := 39) hx hb dX7_alter_29 (by decide) (fun q8 => ?_) (fun q8 => ?_)
      · have h := ite_n h q8
        refine lv_iload_n hx hb dX7_alter_39 rfl (lv_at hl 3 rfl) ?_
        refine lv_if_ne (tgt := 52) hx hb dX7_alter_40 (by decide) (fun q9 => ?_) (fun q9 => ?_)
        · have h := ite_n h q9
          refine lv_aload_n hx hb dX7_alter_52 rfl (lv_at hl 0 rfl) ?_
          refine gf_X7_15 X hG (nx_0 n_a) k_a fl_X7_54 dX7_alter_53 ?_
          refine lv_iload_n hx hb dX7_alter_56 rfl (lv_at hl 1 rfl) ?_
          obtain ⟨i10, h⟩ := gd_y h
          refine g_aldII X hG (nx_a (a := a) (k := 27) (n := 59) n_a (Nat.le_of_ble_eq_true rfl)) (kx_7_27 k_a) (by decide) i10 dX7_alter_57 ?_
          refine lv_astore (lv' := [(5, .ref (gad z ((a + 27) + 1 + (v1 : Int32).toNatClampNeg))), (0, .ref (gad z a)), (1, .int v1), (2, .int v2), (3, .int v3), (4, .int v4)]) hx hb dX7_alter_58 hl (by decide) rfl (fun ls hl => ?_)
          refine lv_aload hx hb dX7_alter_60 (lv_at hl 0 rfl) ?_
          refine lv_iload_n hx hb dX7_alter_62 rfl (lv_at hl 3 rfl) ?_
          obtain ⟨i11, h⟩ := gd_y h
          refine g_iald X hG (nE n_a i10 (Nat.le_of_ble_eq_true rfl)) (ke_7_27 k_a i10) (by decide) i11 dX7_alter_63 ?_
          refine lv_topi (fun x12 ex12 => ?_)
          have h := nm_y h x12 ex12
          refine lv_istore (lv' := [(6, .int x12), (5, .ref (gad z ((a + 27) + 1 + (v1 : Int32).toNatClampNeg))), (0, .ref (gad z a)), (1, .int v1), (2, .int v2), (3, .int v3), (4, .int v4)]) hx hb dX7_alter_64 hl (by decide) rfl (fun ls hl => ?_)
          refine lv_aload hx hb dX7_alter_66 (lv_at hl 1 rfl) ?_
          refine lv_iload_n hx hb dX7_alter_68 rfl (lv_at hl 4 rfl) ?_
          refine lv_iload hx hb dX7_alter_69 (lv_at hl 6 rfl) ?_
          refine g_iast X hG hS (nE n_a i10 (Nat.le_of_ble_eq_true rfl)) (ke_7_27 k_a i10) (by decide) i11 dX7_alter_71 (fun H locs hG hS => ?_)
          obtain ⟨M13, eM13⟩ : ∃ y, y = sI M ((a + 27) + 1 + (v1 : Int32).toNatClampNeg) (v2 : Int32).toNatClampNeg v4 := ⟨_, rfl⟩
          rw [← eM13] at hG
          have h := nm_y h M13 eM13
          refine lv_iload hx hb dX7_alter_72 (lv_at hl 0 rfl) ?_
          obtain rfl := Option.some.inj h
          exact g_iret X hr hlk hG hS dX7_alter_74
        · have h := ite_y h q9
          refine lv_aload_n hx hb dX7_alter_43 rfl (lv_at hl 0 rfl) ?_
          refine gf_X7_14 X hG (nx_0 n_a) k_a fl_X7_51 dX7_alter_44 ?_
          refine lv_iload_n hx hb dX7_alter_47 rfl (lv_at hl 1 rfl) ?_
          obtain ⟨i14, h⟩ := gd_y h
          refine g_aldII X hG (nx_a (a := a) (k := 21) (n := 59) n_a (Nat.le_of_ble_eq_true rfl)) (kx_7_21 k_a) (by decide) i14 dX7_alter_48 ?_
          refine lv_goto (tgt := 58) hx hb dX7_alter_49 (by decide) ?_
          refine lv_astore (lv' := [(5, .ref (gad z ((a + 21) + 1 + (v1 : Int32).toNatClampNeg))), (0, .ref (gad z a)), (1, .int v1), (2, .int v2), (3, .int v3), (4, .int v4)]) hx hb dX7_alter_58 hl (by decide) rfl (fun ls hl => ?_)
          refine lv_aload hx hb dX7_alter_60 (lv_at hl 0 rfl) ?_
          refine lv_iload_n hx hb dX7_alter_62 rfl (lv_at hl 3 rfl) ?_
          obtain ⟨i15, h⟩ := gd_y h
          refine g_iald X hG (nE n_a i14 (Nat.le_of_ble_eq_true rfl)) (ke_7_21 k_a i14) (by decide) i15 dX7_alter_63 ?_
          refine lv_topi (fun x16 ex16 => ?_)
          have h := nm_y h x16 ex16
          refine lv_istore (lv' := [(6, .int x16), (5, .ref (gad z ((a + 21) + 1 + (v1 : Int32).toNatClampNeg))), (0, .ref (gad z a)), (1, .int v1), (2, .int v2), (3, .int v3), (4, .int v4)]) hx hb dX7_alter_64 hl (by decide) rfl (fun ls hl => ?_)
          refine lv_aload hx hb dX7_alter_66 (lv_at hl 1 rfl) ?_
          refine lv_iload_n hx hb dX7_alter_68 rfl (lv_at hl 4 rfl) ?_
          refine lv_iload hx hb dX7_alter_69 (lv_at hl 6 rfl) ?_
          refine g_iast X hG hS (nE n_a i14 (Nat.le_of_ble_eq_true rfl)) (ke_7_21 k_a i14) (by decide) i15 dX7_alter_71 (fun H locs hG hS => ?_)
          obtain ⟨M17, eM17⟩ : ∃ y, y = sI M ((a + 21) + 1 + (v1 : Int32).toNatClampNeg) (v2 : Int32).toNatClampNeg v4 := ⟨_, rfl⟩
          rw [← eM17] at hG
          have h := nm_y h M17 eM17
          refine lv_iload hx hb dX7_alter_72 (lv_at hl 0 rfl) ?_
          obtain rfl := Option.some.inj h
          exact g_iret X hr hlk hG hS dX7_alter_74
      · have h := ite_y h q8
        refine lv_aload_n hx hb dX7_alter_32 rfl (lv_at hl 0 rfl) ?_
        refine lv_bipush (v := (-2)) hx hb dX7_alter_33 (by decide) ?_
        obtain ⟨r18, hcr18, h⟩ := bd_y h
        refine g_cVI (a := a) (ci := 7) (T := TX7) (N := 37) (av := [.int (-2)]) (rest := []) X hG hS (ct_X7_refuse l z k_a n_a hcr18) mt_X7_refuse ml_X7_106 rfl ⟨rfl, rfl, Nat.le_of_ble_eq_true rfl, Nat.le_of_ble_eq_true rfl⟩ ⟨Nat.le_refl 0, Nat.le_refl 0⟩ (nx_0 n_a) k_a (by decide) rfl hl.1 (Nat.le_of_ble_eq_true rfl) rfl dX7_alter_35 (fun H locs hG hS => ?_)
        obtain rfl := Option.some.inj h
        exact g_iret X hr hlk hG hS dX7_alter_38
set_option maxRecDepth 100000 in
set_option maxHeartbeats 4000000 in
theorem ct_X7_tie (l : Launch) (z : gZ) {N : Nat} {M : Mem} {a : Nat} {v1 : Int32} {v2 : Int32} {v3 : Int32} {v4 : Int32} {o : Int32 × Mem} (k_a : kd a = 7) (n_a : a + 59 ≤ gn z) (h : fX7_tie N M a v1 v2 v3 v4 = some o) : CtI l z yX7_tie cX7_tie 6 (some .int) { frames := 3, cells := 0, slots := 0, locals := 68 } [.ref (gad z a), .int v1, .int v2, .int v3, .int v4] M o.1 o.2 := by
  refine Ct_of rfl (Nat.le_of_ble_eq_true rfl) ?_
  intro p e s m below meth c ls X hr hlk hG hS hl
  have X : gX p m c _ _ s _ RX7 z := X
  have hl : lv_has ls 6 [(0, .ref (gad z a)), (1, .int v1), (2, .int v2), (3, .int v3), (4, .int v4)] := hl
  have hx := X.1
  have hb := X.2.1
  unfold fX7_tie at h
  refine lv_aload_n hx hb dX7_tie_0 rfl (lv_at hl 0 rfl) ?_
  refine lv_iload_n hx hb dX7_tie_1 rfl (lv_at hl 1 rfl) ?_
  refine lv_iload_n hx hb dX7_tie_2 rfl (lv_at hl 2 rfl) ?_
  obtain ⟨r1, hcr1, h⟩ := bd_y h
  refine g_cVI (a := a) (ci := 7) (T := TX7) (N := 37) (av := [.int v1, .int v2]) (rest := []) X hG hS (ct_X7_isPerson l z k_a n_a hcr1) mt_X7_isPerson ml_X7_230 rfl ⟨rfl, rfl, Nat.le_of_ble_eq_true rfl, Nat.le_of_ble_eq_true rfl⟩ ⟨Nat.le_refl 0, Nat.le_refl 0⟩ (nx_0 n_a) k_a (by decide) rfl hl.1 (Nat.le_of_ble_eq_true rfl) rfl dX7_tie_3 (fun H locs hG hS => ?_)
  refine lv_if_eq (tgt := 38) hx hb dX7_tie_6 (by decide) (fun q2 => ?_) (fun q2 => ?_)
  · have h := ite_y h q2
    refine lv_aload_n hx hb dX7_tie_38 rfl (lv_at hl 0 rfl) ?_
    refine lv_bipush (v := (-2)) hx hb dX7_tie_39 (by decide) ?_
    obtain ⟨r3, hcr3, h⟩ := bd_y h
    refine g_cVI (a := a) (ci := 7) (T := TX7) (N := 37) (av := [.int (-2)]) (rest := []) X hG hS (ct_X7_refuse l z k_a n_a hcr3) mt_X7_refuse ml_X7_106 rfl ⟨rfl, rfl, Nat.le_of_ble_eq_true rfl, Nat.le_of_ble_eq_true rfl⟩ ⟨Nat.le_refl 0, Nat.le_refl 0⟩ (nx_0 n_a) k_a (by decide) rfl hl.1 (Nat.le_of_ble_eq_true rfl) rfl dX7_tie_41 (fun H locs hG hS => ?_)
    obtain rfl := Option.some.inj h
    exact g_iret X hr hlk hG hS dX7_tie_44
  · have h := ite_n h q2
    refine lv_aload_n hx hb dX7_tie_9 rfl (lv_at hl 0 rfl) ?_
    refine lv_iload_n hx hb dX7_tie_10 rfl (lv_at hl 1 rfl) ?_
    refine lv_iload_n hx hb dX7_tie_11 rfl (lv_at hl 3 rfl) ?_
    obtain ⟨r4, hcr4, h⟩ := bd_y h
    refine g_cVI (a := a) (ci := 7) (T := TX7) (N := 37) (av := [.int v1, .int v3]) (rest := []) X hG hS (ct_X7_isPerson l z k_a n_a hcr4) mt_X7_isPerson ml_X7_230 rfl ⟨rfl, rfl, Nat.le_of_ble_eq_true rfl, Nat.le_of_ble_eq_true rfl⟩ ⟨Nat.le_refl 0, Nat.le_refl 0⟩ (nx_0 n_a) k_a (by decide) rfl hl.1 (Nat.le_of_ble_eq_true rfl) rfl dX7_tie_12 (fun H locs hG hS => ?_)
    refine lv_if_eq (tgt := 38) hx hb dX7_tie_15 (by decide) (fun q5 => ?_) (fun q5 => ?_)
    · have h := ite_y h q5
      refine lv_aload_n hx hb dX7_tie_38 rfl (lv_at hl 0 rfl) ?_
      refine lv_bipush (v := (-2)) hx hb dX7_tie_39 (by decide) ?_
      obtain ⟨r6, hcr6, h⟩ := bd_y h
      refine g_cVI (a := a) (ci := 7) (T := TX7) (N := 37) (av := [.int (-2)]) (rest := []) X hG hS (ct_X7_refuse l z k_a n_a hcr6) mt_X7_refuse ml_X7_106 rfl ⟨rfl, rfl, Nat.le_of_ble_eq_true rfl, Nat.le_of_ble_eq_true rfl⟩ ⟨Nat.le_refl 0, Nat.le_refl 0⟩ (nx_0 n_a) k_a (by decide) rfl hl.1 (Nat.le_of_ble_eq_true rfl) rfl dX7_tie_41 (fun H locs hG hS => ?_)
      obtain rfl := Option.some.inj h
      exact g_iret X hr hlk hG hS dX7_tie_44
    · have h := ite_n h q5
      refine lv_iload_n hx hb dX7_tie_18 rfl (lv_at hl 2 rfl) ?_
      refine lv_iload_n hx hb dX7_tie_19 rfl (lv_at hl 3 rfl) ?_
      refine lv_icmp_eq (tgt := 38) hx hb dX7_tie_20 (by decide) (fun q7 => ?_) (fun q7 => ?_)
      · have h := ite_y h q7
        refine lv_aload_n hx hb dX7_tie_38 rfl (lv_at hl 0 rfl) ?_
        refine lv_bipush (v := (-2)) hx hb dX7_tie_39 (by decide) ?_
        obtain ⟨r8, hcr8, h⟩ := bd_y h
        refine g_cVI (a := a) (ci := 7) (T := TX7) (N := 37) (av := [.int (-2)]) (rest := []) X hG hS (ct_X7_refuse l z k_a n_a hcr8) mt_X7_refuse ml_X7_106 rfl ⟨rfl, rfl, Nat.le_of_ble_eq_true rfl, Nat.le_of_ble_eq_true rfl⟩ ⟨Nat.le_refl 0, Nat.le_refl 0⟩ (nx_0 n_a) k_a (by decide) rfl hl.1 (Nat.le_of_ble_eq_true rfl) rfl dX7_tie_41 (fun H locs hG hS => ?_)
        obtain rfl := Option.some.inj h
        exact g_iret X hr hlk hG hS dX7_tie_44
      · have h := ite_n h q7
        refine lv_iload hx hb dX7_tie_23 (lv_at hl 4 rfl) ?_
        refine lv_i2l hx hb dX7_tie_25 rfl ?_
        refine lv_ldc2 (v := (-1)) hx hb X.2.2.2.1 (X.2.2.2.2.1 _ cn_X7_235) dX7_tie_26 ?_
        refine lv_ldc2 (v := 9) hx hb X.2.2.2.1 (X.2.2.2.2.1 _ cn_X7_117) dX7_tie_29 ?_
        obtain ⟨r9, hcr9, h⟩ := bd_y h
        refine g_cSI (av := [.long ((v4 : Int32).toInt64), .long (-1), .long 9]) (rest := []) X hG hS (ct_X7_in l z  hcr9) mt_X7_in ml_X7_88 rfl ⟨rfl, rfl, Nat.le_of_ble_eq_true rfl, Nat.le_of_ble_eq_true rfl⟩ ⟨Nat.le_refl 0, Nat.le_refl 0⟩ hl.1 (Nat.le_of_ble_eq_true rfl) rfl dX7_tie_32 (fun H locs hG hS => ?_)
        refine lv_if_ne (tgt := 45) hx hb dX7_tie_35 (by decide) (fun q10 => ?_) (fun q10 => ?_)
        · have h := ite_n h q10
          refine lv_aload_n hx hb dX7_tie_45 rfl (lv_at hl 0 rfl) ?_
          refine gf_X7_16 X hG (nx_0 n_a) k_a fl_X7_57 dX7_tie_46 ?_
          refine lv_iload_n hx hb dX7_tie_49 rfl (lv_at hl 1 rfl) ?_
          obtain ⟨i11, h⟩ := gd_y h
          refine g_aldII X hG (nx_a (a := a) (k := 33) (n := 59) n_a (Nat.le_of_ble_eq_true rfl)) (kx_7_33 k_a) (by decide) i11 dX7_tie_50 ?_
          refine lv_iload_n hx hb dX7_tie_51 rfl (lv_at hl 2 rfl) ?_
          obtain ⟨i12, h⟩ := gd_y h
          refine g_iald X hG (nE n_a i11 (Nat.le_of_ble_eq_true rfl)) (ke_7_33 k_a i11) (by decide) i12 dX7_tie_52 ?_
          refine lv_iload_n hx hb dX7_tie_53 rfl (lv_at hl 3 rfl) ?_
          refine lv_ishr hx hb dX7_tie_54 ?_
          refine lv_iconst (v := 1) hx hb dX7_tie_55 (by decide) ?_
          refine lv_iand hx hb dX7_tie_56 ?_
          refine lv_if_eq (tgt := 76) hx hb dX7_tie_57 (by decide) (fun q13 => ?_) (fun q13 => ?_)
          · have h := ite_y h q13
            refine lv_iconst (v := (-1)) hx hb dX7_tie_76 (by decide) ?_
            refine lv_istore (lv' := [(5, .int (-1)), (0, .ref (gad z a)), (1, .int v1), (2, .int v2), (3, .int v3), (4, .int v4)]) hx hb dX7_tie_77 hl (by decide) rfl (fun ls hl => ?_)
            refine lv_aload_n hx hb dX7_tie_79 rfl (lv_at hl 1 rfl) ?_
            refine lv_iload_n hx hb dX7_tie_80 rfl (lv_at hl 2 rfl) ?_
            refine lv_iload_n hx hb dX7_tie_81 rfl (lv_at hl 3 rfl) ?_
            refine lv_iload_n hx hb dX7_tie_82 rfl (lv_at hl 4 rfl) ?_
            refine lv_iload hx hb dX7_tie_83 (lv_at hl 5 rfl) ?_
            refine lv_iconst (v := (-1)) hx hb dX7_tie_85 (by decide) ?_
            refine lv_icmp_ne (tgt := 93) hx hb dX7_tie_86 (by decide) (fun q14 => ?_) (fun q14 => ?_)
            · have h := ite_n h q14
              refine lv_iload hx hb dX7_tie_93 (lv_at hl 5 rfl) ?_
              obtain ⟨r15, hcr15, h⟩ := bd_y h
              refine g_cVV (a := a) (ci := 7) (T := TX7) (N := 37) (av := [.int v1, .int v2, .int v3, .int v4]) (rest := []) X hG hS (ct_X7_tieThem l z k_a n_a hcr15) mt_X7_tieThem ml_X7_183 rfl ⟨rfl, rfl, Nat.le_of_ble_eq_true rfl, Nat.le_of_ble_eq_true rfl⟩ ⟨Nat.le_refl 0, Nat.le_refl 0⟩ (nx_0 n_a) k_a (by decide) rfl hl.1 (Nat.le_of_ble_eq_true rfl) rfl dX7_tie_95 (fun H locs hG hS => ?_)
              refine lv_iload hx hb dX7_tie_98 (lv_at hl 5 rfl) ?_
              refine lv_iconst (v := (-1)) hx hb dX7_tie_100 (by decide) ?_
              refine lv_icmp_ne (tgt := 136) hx hb dX7_tie_101 (by decide) (fun q16 => ?_) (fun q16 => ?_)
              · have h := ite_n h q16
                refine lv_iload hx hb dX7_tie_136 (lv_at hl 0 rfl) ?_
                obtain rfl := Option.some.inj h
                exact g_iret X hr hlk hG hS dX7_tie_138
              · have h := ite_y h q16
                refine lv_aload_n hx hb dX7_tie_104 rfl (lv_at hl 1 rfl) ?_
                refine gf_X7_16 X hG (nx_0 n_a) k_a fl_X7_57 dX7_tie_105 ?_
                refine lv_iload_n hx hb dX7_tie_108 rfl (lv_at hl 2 rfl) ?_
                refine g_aldII X hG (nx_a (a := a) (k := 33) (n := 59) n_a (Nat.le_of_ble_eq_true rfl)) (kx_7_33 k_a) (by decide) i11 dX7_tie_109 ?_
                refine lv_iload_n hx hb dX7_tie_110 rfl (lv_at hl 3 rfl) ?_
                refine lv_dup2_11 hx hb dX7_tie_111 rfl rfl ?_
                refine g_iald X hG (nE n_a i11 (Nat.le_of_ble_eq_true rfl)) (ke_7_33 k_a i11) (by decide) i12 dX7_tie_112 ?_
                refine lv_iconst (v := 1) hx hb dX7_tie_113 (by decide) ?_
                refine lv_iload_n hx hb dX7_tie_114 rfl (lv_at hl 4 rfl) ?_
                refine lv_ishl hx hb dX7_tie_115 ?_
                refine lv_iconst (v := (-1)) hx hb dX7_tie_116 (by decide) ?_
                refine lv_ixor hx hb dX7_tie_117 ?_
                refine lv_iand hx hb dX7_tie_118 ?_
                refine g_iast X hG hS (nE n_a i11 (Nat.le_of_ble_eq_true rfl)) (ke_7_33 k_a i11) (by decide) i12 dX7_tie_119 (fun H locs hG hS => ?_)
                obtain ⟨M17, eM17⟩ : ∃ y, y = sI r15 ((a + 33) + 1 + (v1 : Int32).toNatClampNeg) (v2 : Int32).toNatClampNeg ((r15.1 ((a + 33) + 1 + (v1 : Int32).toNatClampNeg) (v2 : Int32).toNatClampNeg) &&& ((1 <<< (v3 &&& 31)) ^^^ (-1))) := ⟨_, rfl⟩
                rw [← eM17] at hG
                have h := nm_y h M17 eM17
                refine lv_aload_n hx hb dX7_tie_120 rfl (lv_at hl 1 rfl) ?_
                refine gf_X7_16 X hG (nx_0 n_a) k_a fl_X7_57 dX7_tie_121 ?_
                refine lv_iload_n hx hb dX7_tie_124 rfl (lv_at hl 2 rfl) ?_
                refine g_aldII X hG (nx_a (a := a) (k := 33) (n := 59) n_a (Nat.le_of_ble_eq_true rfl)) (kx_7_33 k_a) (by decide) i11 dX7_tie_125 ?_
                refine lv_iload_n hx hb dX7_tie_126 rfl (lv_at hl 4 rfl) ?_
                refine lv_dup2_11 hx hb dX7_tie_127 rfl rfl ?_
                obtain ⟨i18, h⟩ := gd_y h
                refine g_iald X hG (nE n_a i11 (Nat.le_of_ble_eq_true rfl)) (ke_7_33 k_a i11) (by decide) i18 dX7_tie_128 ?_
                refine lv_iconst (v := 1) hx hb dX7_tie_129 (by decide) ?_
                refine lv_iload_n hx hb dX7_tie_130 rfl (lv_at hl 3 rfl) ?_
                refine lv_ishl hx hb dX7_tie_131 ?_
                refine lv_iconst (v := (-1)) hx hb dX7_tie_132 (by decide) ?_
                refine lv_ixor hx hb dX7_tie_133 ?_
                refine lv_iand hx hb dX7_tie_134 ?_
                refine g_iast X hG hS (nE n_a i11 (Nat.le_of_ble_eq_true rfl)) (ke_7_33 k_a i11) (by decide) i18 dX7_tie_135 (fun H locs hG hS => ?_)
                obtain ⟨M19, eM19⟩ : ∃ y, y = sI M17 ((a + 33) + 1 + (v1 : Int32).toNatClampNeg) (v3 : Int32).toNatClampNeg ((M17.1 ((a + 33) + 1 + (v1 : Int32).toNatClampNeg) (v3 : Int32).toNatClampNeg) &&& ((1 <<< (v2 &&& 31)) ^^^ (-1))) := ⟨_, rfl⟩
                rw [← eM19] at hG
                have h := nm_y h M19 eM19
                refine lv_iload hx hb dX7_tie_136 (lv_at hl 0 rfl) ?_
                obtain rfl := Option.some.inj h
                exact g_iret X hr hlk hG hS dX7_tie_138
            · have h := ite_y h q14
              refine lv_iconst (v := 0) hx hb dX7_tie_89 (by decide) ?_
              refine lv_goto (tgt := 95) hx hb dX7_tie_90 (by decide) ?_
              obtain ⟨r20, hcr20, h⟩ := bd_y h
              refine g_cVV (a := a) (ci := 7) (T := TX7) (N := 37) (av := [.int v1, .int v2, .int v3, .int 0]) (rest := []) X hG hS (ct_X7_tieThem l z k_a n_a hcr20) mt_X7_tieThem ml_X7_183 rfl ⟨rfl, rfl, Nat.le_of_ble_eq_true rfl, Nat.le_of_ble_eq_true rfl⟩ ⟨Nat.le_refl 0, Nat.le_refl 0⟩ (nx_0 n_a) k_a (by decide) rfl hl.1 (Nat.le_of_ble_eq_true rfl) rfl dX7_tie_95 (fun H locs hG hS => ?_)
              refine lv_iload hx hb dX7_tie_98 (lv_at hl 5 rfl) ?_
              refine lv_iconst (v := (-1)) hx hb dX7_tie_100 (by decide) ?_
              refine lv_icmp_ne (tgt := 136) hx hb dX7_tie_101 (by decide) (fun q21 => ?_) (fun q21 => ?_)
              · have h := ite_n h q21
                refine lv_iload hx hb dX7_tie_136 (lv_at hl 0 rfl) ?_
                obtain rfl := Option.some.inj h
                exact g_iret X hr hlk hG hS dX7_tie_138
              · have h := ite_y h q21
                refine lv_aload_n hx hb dX7_tie_104 rfl (lv_at hl 1 rfl) ?_
                refine gf_X7_16 X hG (nx_0 n_a) k_a fl_X7_57 dX7_tie_105 ?_
                refine lv_iload_n hx hb dX7_tie_108 rfl (lv_at hl 2 rfl) ?_
                refine g_aldII X hG (nx_a (a := a) (k := 33) (n := 59) n_a (Nat.le_of_ble_eq_true rfl)) (kx_7_33 k_a) (by decide) i11 dX7_tie_109 ?_
                refine lv_iload_n hx hb dX7_tie_110 rfl (lv_at hl 3 rfl) ?_
                refine lv_dup2_11 hx hb dX7_tie_111 rfl rfl ?_
                refine g_iald X hG (nE n_a i11 (Nat.le_of_ble_eq_true rfl)) (ke_7_33 k_a i11) (by decide) i12 dX7_tie_112 ?_
                refine lv_iconst (v := 1) hx hb dX7_tie_113 (by decide) ?_
                refine lv_iload_n hx hb dX7_tie_114 rfl (lv_at hl 4 rfl) ?_
                refine lv_ishl hx hb dX7_tie_115 ?_
                refine lv_iconst (v := (-1)) hx hb dX7_tie_116 (by decide) ?_
                refine lv_ixor hx hb dX7_tie_117 ?_
                refine lv_iand hx hb dX7_tie_118 ?_
                refine g_iast X hG hS (nE n_a i11 (Nat.le_of_ble_eq_true rfl)) (ke_7_33 k_a i11) (by decide) i12 dX7_tie_119 (fun H locs hG hS => ?_)
                obtain ⟨M22, eM22⟩ : ∃ y, y = sI r20 ((a + 33) + 1 + (v1 : Int32).toNatClampNeg) (v2 : Int32).toNatClampNeg ((r20.1 ((a + 33) + 1 + (v1 : Int32).toNatClampNeg) (v2 : Int32).toNatClampNeg) &&& ((1 <<< (v3 &&& 31)) ^^^ (-1))) := ⟨_, rfl⟩
                rw [← eM22] at hG
                have h := nm_y h M22 eM22
                refine lv_aload_n hx hb dX7_tie_120 rfl (lv_at hl 1 rfl) ?_
                refine gf_X7_16 X hG (nx_0 n_a) k_a fl_X7_57 dX7_tie_121 ?_
                refine lv_iload_n hx hb dX7_tie_124 rfl (lv_at hl 2 rfl) ?_
                refine g_aldII X hG (nx_a (a := a) (k := 33) (n := 59) n_a (Nat.le_of_ble_eq_true rfl)) (kx_7_33 k_a) (by decide) i11 dX7_tie_125 ?_
                refine lv_iload_n hx hb dX7_tie_126 rfl (lv_at hl 4 rfl) ?_
                refine lv_dup2_11 hx hb dX7_tie_127 rfl rfl ?_
                obtain ⟨i23, h⟩ := gd_y h
                refine g_iald X hG (nE n_a i11 (Nat.le_of_ble_eq_true rfl)) (ke_7_33 k_a i11) (by decide) i23 dX7_tie_128 ?_
                refine lv_iconst (v := 1) hx hb dX7_tie_129 (by decide) ?_
                refine lv_iload_n hx hb dX7_tie_130 rfl (lv_at hl 3 rfl) ?_
                refine lv_ishl hx hb dX7_tie_131 ?_
                refine lv_iconst (v := (-1)) hx hb dX7_tie_132 (by decide) ?_
                refine lv_ixor hx hb dX7_tie_133 ?_
                refine lv_iand hx hb dX7_tie_134 ?_
                refine g_iast X hG hS (nE n_a i11 (Nat.le_of_ble_eq_true rfl)) (ke_7_33 k_a i11) (by decide) i23 dX7_tie_135 (fun H locs hG hS => ?_)
                obtain ⟨M24, eM24⟩ : ∃ y, y = sI M22 ((a + 33) + 1 + (v1 : Int32).toNatClampNeg) (v3 : Int32).toNatClampNeg ((M22.1 ((a + 33) + 1 + (v1 : Int32).toNatClampNeg) (v3 : Int32).toNatClampNeg) &&& ((1 <<< (v2 &&& 31)) ^^^ (-1))) := ⟨_, rfl⟩
                rw [← eM24] at hG
                have h := nm_y h M24 eM24
                refine lv_iload hx hb dX7_tie_136 (lv_at hl 0 rfl) ?_
                obtain rfl := Option.some.inj h
                exact g_iret X hr hlk hG hS dX7_tie_138
          · have h := ite_n h q13
            refine lv_aload_n hx hb dX7_tie_60 rfl (lv_at hl 0 rfl) ?_
            refine gf_X7_17 X hG (nx_0 n_a) k_a fl_X7_60 dX7_tie_61 ?_
            refine lv_iload_n hx hb dX7_tie_64 rfl (lv_at hl 1 rfl) ?_
            refine g_aldII X hG (nx_a (a := a) (k := 39) (n := 59) n_a (Nat.le_of_ble_eq_true rfl)) (kx_7_39 k_a) (by decide) i11 dX7_tie_65 ?_
            refine lv_iload_n hx hb dX7_tie_66 rfl (lv_at hl 2 rfl) ?_
            refine lv_bipush (v := 12) hx hb dX7_tie_67 (by decide) ?_
            refine lv_imul hx hb dX7_tie_69 ?_
            refine lv_iload_n hx hb dX7_tie_70 rfl (lv_at hl 3 rfl) ?_
            refine lv_iadd hx hb dX7_tie_71 ?_
            obtain ⟨i25, h⟩ := gd_y h
            refine g_iald X hG (nE n_a i11 (Nat.le_of_ble_eq_true rfl)) (ke_7_39 k_a i11) (by decide) i25 dX7_tie_72 ?_
            refine lv_goto (tgt := 77) hx hb dX7_tie_73 (by decide) ?_
            refine lv_topi (fun x26 ex26 => ?_)
            have h := nm_y h x26 ex26
            refine lv_istore (lv' := [(5, .int x26), (0, .ref (gad z a)), (1, .int v1), (2, .int v2), (3, .int v3), (4, .int v4)]) hx hb dX7_tie_77 hl (by decide) rfl (fun ls hl => ?_)
            refine lv_aload_n hx hb dX7_tie_79 rfl (lv_at hl 1 rfl) ?_
            refine lv_iload_n hx hb dX7_tie_80 rfl (lv_at hl 2 rfl) ?_
            refine lv_iload_n hx hb dX7_tie_81 rfl (lv_at hl 3 rfl) ?_
            refine lv_iload_n hx hb dX7_tie_82 rfl (lv_at hl 4 rfl) ?_
            refine lv_iload hx hb dX7_tie_83 (lv_at hl 5 rfl) ?_
            refine lv_iconst (v := (-1)) hx hb dX7_tie_85 (by decide) ?_
            refine lv_icmp_ne (tgt := 93) hx hb dX7_tie_86 (by decide) (fun q27 => ?_) (fun q27 => ?_)
            · have h := ite_n h q27
              refine lv_iload hx hb dX7_tie_93 (lv_at hl 5 rfl) ?_
              obtain ⟨r28, hcr28, h⟩ := bd_y h
              refine g_cVV (a := a) (ci := 7) (T := TX7) (N := 37) (av := [.int v1, .int v2, .int v3, .int v4]) (rest := []) X hG hS (ct_X7_tieThem l z k_a n_a hcr28) mt_X7_tieThem ml_X7_183 rfl ⟨rfl, rfl, Nat.le_of_ble_eq_true rfl, Nat.le_of_ble_eq_true rfl⟩ ⟨Nat.le_refl 0, Nat.le_refl 0⟩ (nx_0 n_a) k_a (by decide) rfl hl.1 (Nat.le_of_ble_eq_true rfl) rfl dX7_tie_95 (fun H locs hG hS => ?_)
              refine lv_iload hx hb dX7_tie_98 (lv_at hl 5 rfl) ?_
              refine lv_iconst (v := (-1)) hx hb dX7_tie_100 (by decide) ?_
              refine lv_icmp_ne (tgt := 136) hx hb dX7_tie_101 (by decide) (fun q29 => ?_) (fun q29 => ?_)
              · have h := ite_n h q29
                refine lv_iload hx hb dX7_tie_136 (lv_at hl 0 rfl) ?_
                obtain rfl := Option.some.inj h
                exact g_iret X hr hlk hG hS dX7_tie_138
              · have h := ite_y h q29
                refine lv_aload_n hx hb dX7_tie_104 rfl (lv_at hl 1 rfl) ?_
                refine gf_X7_16 X hG (nx_0 n_a) k_a fl_X7_57 dX7_tie_105 ?_
                refine lv_iload_n hx hb dX7_tie_108 rfl (lv_at hl 2 rfl) ?_
                refine g_aldII X hG (nx_a (a := a) (k := 33) (n := 59) n_a (Nat.le_of_ble_eq_true rfl)) (kx_7_33 k_a) (by decide) i11 dX7_tie_109 ?_
                refine lv_iload_n hx hb dX7_tie_110 rfl (lv_at hl 3 rfl) ?_
                refine lv_dup2_11 hx hb dX7_tie_111 rfl rfl ?_
                refine g_iald X hG (nE n_a i11 (Nat.le_of_ble_eq_true rfl)) (ke_7_33 k_a i11) (by decide) i12 dX7_tie_112 ?_
                refine lv_iconst (v := 1) hx hb dX7_tie_113 (by decide) ?_
                refine lv_iload_n hx hb dX7_tie_114 rfl (lv_at hl 4 rfl) ?_
                refine lv_ishl hx hb dX7_tie_115 ?_
                refine lv_iconst (v := (-1)) hx hb dX7_tie_116 (by decide) ?_
                refine lv_ixor hx hb dX7_tie_117 ?_
                refine lv_iand hx hb dX7_tie_118 ?_
                refine g_iast X hG hS (nE n_a i11 (Nat.le_of_ble_eq_true rfl)) (ke_7_33 k_a i11) (by decide) i12 dX7_tie_119 (fun H locs hG hS => ?_)
                obtain ⟨M30, eM30⟩ : ∃ y, y = sI r28 ((a + 33) + 1 + (v1 : Int32).toNatClampNeg) (v2 : Int32).toNatClampNeg ((r28.1 ((a + 33) + 1 + (v1 : Int32).toNatClampNeg) (v2 : Int32).toNatClampNeg) &&& ((1 <<< (v3 &&& 31)) ^^^ (-1))) := ⟨_, rfl⟩
                rw [← eM30] at hG
                have h := nm_y h M30 eM30
                refine lv_aload_n hx hb dX7_tie_120 rfl (lv_at hl 1 rfl) ?_
                refine gf_X7_16 X hG (nx_0 n_a) k_a fl_X7_57 dX7_tie_121 ?_
                refine lv_iload_n hx hb dX7_tie_124 rfl (lv_at hl 2 rfl) ?_
                refine g_aldII X hG (nx_a (a := a) (k := 33) (n := 59) n_a (Nat.le_of_ble_eq_true rfl)) (kx_7_33 k_a) (by decide) i11 dX7_tie_125 ?_
                refine lv_iload_n hx hb dX7_tie_126 rfl (lv_at hl 4 rfl) ?_
                refine lv_dup2_11 hx hb dX7_tie_127 rfl rfl ?_
                obtain ⟨i31, h⟩ := gd_y h
                refine g_iald X hG (nE n_a i11 (Nat.le_of_ble_eq_true rfl)) (ke_7_33 k_a i11) (by decide) i31 dX7_tie_128 ?_
                refine lv_iconst (v := 1) hx hb dX7_tie_129 (by decide) ?_
                refine lv_iload_n hx hb dX7_tie_130 rfl (lv_at hl 3 rfl) ?_
                refine lv_ishl hx hb dX7_tie_131 ?_
                refine lv_iconst (v := (-1)) hx hb dX7_tie_132 (by decide) ?_
                refine lv_ixor hx hb dX7_tie_133 ?_
                refine lv_iand hx hb dX7_tie_134 ?_
                refine g_iast X hG hS (nE n_a i11 (Nat.le_of_ble_eq_true rfl)) (ke_7_33 k_a i11) (by decide) i31 dX7_tie_135 (fun H locs hG hS => ?_)
                obtain ⟨M32, eM32⟩ : ∃ y, y = sI M30 ((a + 33) + 1 + (v1 : Int32).toNatClampNeg) (v3 : Int32).toNatClampNeg ((M30.1 ((a + 33) + 1 + (v1 : Int32).toNatClampNeg) (v3 : Int32).toNatClampNeg) &&& ((1 <<< (v2 &&& 31)) ^^^ (-1))) := ⟨_, rfl⟩
                rw [← eM32] at hG
                have h := nm_y h M32 eM32
                refine lv_iload hx hb dX7_tie_136 (lv_at hl 0 rfl) ?_
                obtain rfl := Option.some.inj h
                exact g_iret X hr hlk hG hS dX7_tie_138
            · have h := ite_y h q27
              refine lv_iconst (v := 0) hx hb dX7_tie_89 (by decide) ?_
              refine lv_goto (tgt := 95) hx hb dX7_tie_90 (by decide) ?_
              obtain ⟨r33, hcr33, h⟩ := bd_y h
              refine g_cVV (a := a) (ci := 7) (T := TX7) (N := 37) (av := [.int v1, .int v2, .int v3, .int 0]) (rest := []) X hG hS (ct_X7_tieThem l z k_a n_a hcr33) mt_X7_tieThem ml_X7_183 rfl ⟨rfl, rfl, Nat.le_of_ble_eq_true rfl, Nat.le_of_ble_eq_true rfl⟩ ⟨Nat.le_refl 0, Nat.le_refl 0⟩ (nx_0 n_a) k_a (by decide) rfl hl.1 (Nat.le_of_ble_eq_true rfl) rfl dX7_tie_95 (fun H locs hG hS => ?_)
              refine lv_iload hx hb dX7_tie_98 (lv_at hl 5 rfl) ?_
              refine lv_iconst (v := (-1)) hx hb dX7_tie_100 (by decide) ?_
              refine lv_icmp_ne (tgt := 136) hx hb dX7_tie_101 (by decide) (fun q34 => ?_) (fun q34 => ?_)
              · have h := ite_n h q34
                refine lv_iload hx hb dX7_tie_136 (lv_at hl 0 rfl) ?_
                obtain rfl := Option.some.inj h
                exact g_iret X hr hlk hG hS dX7_tie_138
              · have h := ite_y h q34
                refine lv_aload_n hx hb dX7_tie_104 rfl (lv_at hl 1 rfl) ?_
                refine gf_X7_16 X hG (nx_0 n_a) k_a fl_X7_57 dX7_tie_105 ?_
                refine lv_iload_n hx hb dX7_tie_108 rfl (lv_at hl 2 rfl) ?_
                refine g_aldII X hG (nx_a (a := a) (k := 33) (n := 59) n_a (Nat.le_of_ble_eq_true rfl)) (kx_7_33 k_a) (by decide) i11 dX7_tie_109 ?_
                refine lv_iload_n hx hb dX7_tie_110 rfl (lv_at hl 3 rfl) ?_
                refine lv_dup2_11 hx hb dX7_tie_111 rfl rfl ?_
                refine g_iald X hG (nE n_a i11 (Nat.le_of_ble_eq_true rfl)) (ke_7_33 k_a i11) (by decide) i12 dX7_tie_112 ?_
                refine lv_iconst (v := 1) hx hb dX7_tie_113 (by decide) ?_
                refine lv_iload_n hx hb dX7_tie_114 rfl (lv_at hl 4 rfl) ?_
                refine lv_ishl hx hb dX7_tie_115 ?_
                refine lv_iconst (v := (-1)) hx hb dX7_tie_116 (by decide) ?_
                refine lv_ixor hx hb dX7_tie_117 ?_
                refine lv_iand hx hb dX7_tie_118 ?_
                refine g_iast X hG hS (nE n_a i11 (Nat.le_of_ble_eq_true rfl)) (ke_7_33 k_a i11) (by decide) i12 dX7_tie_119 (fun H locs hG hS => ?_)
                obtain ⟨M35, eM35⟩ : ∃ y, y = sI r33 ((a + 33) + 1 + (v1 : Int32).toNatClampNeg) (v2 : Int32).toNatClampNeg ((r33.1 ((a + 33) + 1 + (v1 : Int32).toNatClampNeg) (v2 : Int32).toNatClampNeg) &&& ((1 <<< (v3 &&& 31)) ^^^ (-1))) := ⟨_, rfl⟩
                rw [← eM35] at hG
                have h := nm_y h M35 eM35
                refine lv_aload_n hx hb dX7_tie_120 rfl (lv_at hl 1 rfl) ?_
                refine gf_X7_16 X hG (nx_0 n_a) k_a fl_X7_57 dX7_tie_121 ?_
                refine lv_iload_n hx hb dX7_tie_124 rfl (lv_at hl 2 rfl) ?_
                refine g_aldII X hG (nx_a (a := a) (k := 33) (n := 59) n_a (Nat.le_of_ble_eq_true rfl)) (kx_7_33 k_a) (by decide) i11 dX7_tie_125 ?_
                refine lv_iload_n hx hb dX7_tie_126 rfl (lv_at hl 4 rfl) ?_
                refine lv_dup2_11 hx hb dX7_tie_127 rfl rfl ?_
                obtain ⟨i36, h⟩ := gd_y h
                refine g_iald X hG (nE n_a i11 (Nat.le_of_ble_eq_true rfl)) (ke_7_33 k_a i11) (by decide) i36 dX7_tie_128 ?_
                refine lv_iconst (v := 1) hx hb dX7_tie_129 (by decide) ?_
                refine lv_iload_n hx hb dX7_tie_130 rfl (lv_at hl 3 rfl) ?_
                refine lv_ishl hx hb dX7_tie_131 ?_
                refine lv_iconst (v := (-1)) hx hb dX7_tie_132 (by decide) ?_
                refine lv_ixor hx hb dX7_tie_133 ?_
                refine lv_iand hx hb dX7_tie_134 ?_
                refine g_iast X hG hS (nE n_a i11 (Nat.le_of_ble_eq_true rfl)) (ke_7_33 k_a i11) (by decide) i36 dX7_tie_135 (fun H locs hG hS => ?_)
                obtain ⟨M37, eM37⟩ : ∃ y, y = sI M35 ((a + 33) + 1 + (v1 : Int32).toNatClampNeg) (v3 : Int32).toNatClampNeg ((M35.1 ((a + 33) + 1 + (v1 : Int32).toNatClampNeg) (v3 : Int32).toNatClampNeg) &&& ((1 <<< (v2 &&& 31)) ^^^ (-1))) := ⟨_, rfl⟩
                rw [← eM37] at hG
                have h := nm_y h M37 eM37
                refine lv_iload hx hb dX7_tie_136 (lv_at hl 0 rfl) ?_
                obtain rfl := Option.some.inj h
                exact g_iret X hr hlk hG hS dX7_tie_138
        · have h := ite_y h q10
          refine lv_aload_n hx hb dX7_tie_38 rfl (lv_at hl 0 rfl) ?_
          refine lv_bipush (v := (-2)) hx hb dX7_tie_39 (by decide) ?_
          obtain ⟨r38, hcr38, h⟩ := bd_y h
          refine g_cVI (a := a) (ci := 7) (T := TX7) (N := 37) (av := [.int (-2)]) (rest := []) X hG hS (ct_X7_refuse l z k_a n_a hcr38) mt_X7_refuse ml_X7_106 rfl ⟨rfl, rfl, Nat.le_of_ble_eq_true rfl, Nat.le_of_ble_eq_true rfl⟩ ⟨Nat.le_refl 0, Nat.le_refl 0⟩ (nx_0 n_a) k_a (by decide) rfl hl.1 (Nat.le_of_ble_eq_true rfl) rfl dX7_tie_41 (fun H locs hG hS => ?_)
          obtain rfl := Option.some.inj h
          exact g_iret X hr hlk hG hS dX7_tie_44
set_option maxRecDepth 100000 in
set_option maxHeartbeats 4000000 in
theorem ct_X7_must (l : Launch) (z : gZ) {N : Nat} {M : Mem} {a : Nat} {v1 : Int32} {v2 : Int32} {v3 : Int32} {o : Int32 × Mem} (k_a : kd a = 7) (n_a : a + 59 ≤ gn z) (h : fX7_must N M a v1 v2 v3 = some o) : CtI l z yX7_must cX7_must 5 (some .int) { frames := 3, cells := 0, slots := 0, locals := 68 } [.ref (gad z a), .int v1, .int v2, .int v3] M o.1 o.2 := by
  refine Ct_of rfl (Nat.le_of_ble_eq_true rfl) ?_
  intro p e s m below meth c ls X hr hlk hG hS hl
  have X : gX p m c _ _ s _ RX7 z := X
  have hl : lv_has ls 5 [(0, .ref (gad z a)), (1, .int v1), (2, .int v2), (3, .int v3)] := hl
  have hx := X.1
  have hb := X.2.1
  unfold fX7_must at h
  refine lv_aload_n hx hb dX7_must_0 rfl (lv_at hl 0 rfl) ?_
  refine lv_iload_n hx hb dX7_must_1 rfl (lv_at hl 1 rfl) ?_
  refine lv_iload_n hx hb dX7_must_2 rfl (lv_at hl 2 rfl) ?_
  obtain ⟨r1, hcr1, h⟩ := bd_y h
  refine g_cVI (a := a) (ci := 7) (T := TX7) (N := 37) (av := [.int v1, .int v2]) (rest := []) X hG hS (ct_X7_isPerson l z k_a n_a hcr1) mt_X7_isPerson ml_X7_230 rfl ⟨rfl, rfl, Nat.le_of_ble_eq_true rfl, Nat.le_of_ble_eq_true rfl⟩ ⟨Nat.le_refl 0, Nat.le_refl 0⟩ (nx_0 n_a) k_a (by decide) rfl hl.1 (Nat.le_of_ble_eq_true rfl) rfl dX7_must_3 (fun H locs hG hS => ?_)
  refine lv_if_ne (tgt := 16) hx hb dX7_must_6 (by decide) (fun q2 => ?_) (fun q2 => ?_)
  · have h := ite_n h q2
    refine lv_aload_n hx hb dX7_must_16 rfl (lv_at hl 0 rfl) ?_
    refine gf_X7_13 X hG (nx_0 n_a) k_a fl_X7_46 dX7_must_17 ?_
    refine lv_iload_n hx hb dX7_must_20 rfl (lv_at hl 1 rfl) ?_
    obtain ⟨i3, h⟩ := gd_y h
    refine g_iald X hG (nx_a (a := a) (k := 20) (n := 59) n_a (Nat.le_of_ble_eq_true rfl)) (kx_7_20 k_a) (by decide) i3 dX7_must_21 ?_
    refine lv_iload_n hx hb dX7_must_22 rfl (lv_at hl 2 rfl) ?_
    refine lv_ishr hx hb dX7_must_23 ?_
    refine lv_iconst (v := 1) hx hb dX7_must_24 (by decide) ?_
    refine lv_iand hx hb dX7_must_25 ?_
    refine lv_topi (fun x4 ex4 => ?_)
    have h := nm_y h x4 ex4
    refine lv_istore (lv' := [(4, .int x4), (0, .ref (gad z a)), (1, .int v1), (2, .int v2), (3, .int v3)]) hx hb dX7_must_26 hl (by decide) rfl (fun ls hl => ?_)
    refine lv_aload_n hx hb dX7_must_28 rfl (lv_at hl 1 rfl) ?_
    refine gf_X7_13 X hG (nx_0 n_a) k_a fl_X7_46 dX7_must_29 ?_
    refine lv_iload_n hx hb dX7_must_32 rfl (lv_at hl 2 rfl) ?_
    refine lv_iload_n hx hb dX7_must_33 rfl (lv_at hl 4 rfl) ?_
    refine lv_if_eq (tgt := 50) hx hb dX7_must_34 (by decide) (fun q5 => ?_) (fun q5 => ?_)
    · have h := ite_y h q5
      refine lv_aload_n hx hb dX7_must_50 rfl (lv_at hl 1 rfl) ?_
      refine gf_X7_13 X hG (nx_0 n_a) k_a fl_X7_46 dX7_must_51 ?_
      refine lv_iload_n hx hb dX7_must_54 rfl (lv_at hl 2 rfl) ?_
      refine g_iald X hG (nx_a (a := a) (k := 20) (n := 59) n_a (Nat.le_of_ble_eq_true rfl)) (kx_7_20 k_a) (by decide) i3 dX7_must_55 ?_
      refine lv_iconst (v := 1) hx hb dX7_must_56 (by decide) ?_
      refine lv_iload_n hx hb dX7_must_57 rfl (lv_at hl 3 rfl) ?_
      refine lv_ishl hx hb dX7_must_58 ?_
      refine lv_iconst (v := (-1)) hx hb dX7_must_59 (by decide) ?_
      refine lv_ixor hx hb dX7_must_60 ?_
      refine lv_iand hx hb dX7_must_61 ?_
      refine g_iast X hG hS (nx_a (a := a) (k := 20) (n := 59) n_a (Nat.le_of_ble_eq_true rfl)) (kx_7_20 k_a) (by decide) i3 dX7_must_62 (fun H locs hG hS => ?_)
      obtain ⟨M6, eM6⟩ : ∃ y, y = sI M (a + 20) (v1 : Int32).toNatClampNeg ((M.1 (a + 20) (v1 : Int32).toNatClampNeg) &&& ((1 <<< (v2 &&& 31)) ^^^ (-1))) := ⟨_, rfl⟩
      rw [← eM6] at hG
      have h := nm_y h M6 eM6
      refine lv_iload hx hb dX7_must_63 (lv_at hl 0 rfl) ?_
      obtain rfl := Option.some.inj h
      exact g_iret X hr hlk hG hS dX7_must_65
    · have h := ite_n h q5
      refine lv_aload_n hx hb dX7_must_37 rfl (lv_at hl 1 rfl) ?_
      refine gf_X7_13 X hG (nx_0 n_a) k_a fl_X7_46 dX7_must_38 ?_
      refine lv_iload_n hx hb dX7_must_41 rfl (lv_at hl 2 rfl) ?_
      refine g_iald X hG (nx_a (a := a) (k := 20) (n := 59) n_a (Nat.le_of_ble_eq_true rfl)) (kx_7_20 k_a) (by decide) i3 dX7_must_42 ?_
      refine lv_iconst (v := 1) hx hb dX7_must_43 (by decide) ?_
      refine lv_iload_n hx hb dX7_must_44 rfl (lv_at hl 3 rfl) ?_
      refine lv_ishl hx hb dX7_must_45 ?_
      refine lv_ior hx hb dX7_must_46 ?_
      refine lv_goto (tgt := 62) hx hb dX7_must_47 (by decide) ?_
      refine g_iast X hG hS (nx_a (a := a) (k := 20) (n := 59) n_a (Nat.le_of_ble_eq_true rfl)) (kx_7_20 k_a) (by decide) i3 dX7_must_62 (fun H locs hG hS => ?_)
      obtain ⟨M7, eM7⟩ : ∃ y, y = sI M (a + 20) (v1 : Int32).toNatClampNeg ((M.1 (a + 20) (v1 : Int32).toNatClampNeg) ||| (1 <<< (v2 &&& 31))) := ⟨_, rfl⟩
      rw [← eM7] at hG
      have h := nm_y h M7 eM7
      refine lv_iload hx hb dX7_must_63 (lv_at hl 0 rfl) ?_
      obtain rfl := Option.some.inj h
      exact g_iret X hr hlk hG hS dX7_must_65
  · have h := ite_y h q2
    refine lv_aload_n hx hb dX7_must_9 rfl (lv_at hl 0 rfl) ?_
    refine lv_bipush (v := (-2)) hx hb dX7_must_10 (by decide) ?_
    obtain ⟨r8, hcr8, h⟩ := bd_y h
    refine g_cVI (a := a) (ci := 7) (T := TX7) (N := 37) (av := [.int (-2)]) (rest := []) X hG hS (ct_X7_refuse l z k_a n_a hcr8) mt_X7_refuse ml_X7_106 rfl ⟨rfl, rfl, Nat.le_of_ble_eq_true rfl, Nat.le_of_ble_eq_true rfl⟩ ⟨Nat.le_refl 0, Nat.le_refl 0⟩ (nx_0 n_a) k_a (by decide) rfl hl.1 (Nat.le_of_ble_eq_true rfl) rfl dX7_must_12 (fun H locs hG hS => ?_)
    obtain rfl := Option.some.inj h
    exact g_iret X hr hlk hG hS dX7_must_15
set_option maxRecDepth 100000 in
set_option maxHeartbeats 4000000 in
theorem ct_X7_take (l : Launch) (z : gZ) {N : Nat} {M : Mem} {a : Nat} {v1 : Int32} {v2 : Int32} {v3 : Int32} {o : Int32 × Mem} (k_a : kd a = 7) (n_a : a + 59 ≤ gn z) (h : fX7_take N M a v1 v2 v3 = some o) : CtI l z yX7_take cX7_take 4 (some .int) { frames := 3, cells := 0, slots := 0, locals := 68 } [.ref (gad z a), .int v1, .int v2, .int v3] M o.1 o.2 := by
  refine Ct_of rfl (Nat.le_of_ble_eq_true rfl) ?_
  intro p e s m below meth c ls X hr hlk hG hS hl
  have X : gX p m c _ _ s _ RX7 z := X
  have hl : lv_has ls 4 [(0, .ref (gad z a)), (1, .int v1), (2, .int v2), (3, .int v3)] := hl
  have hx := X.1
  have hb := X.2.1
  unfold fX7_take at h
  refine lv_aload_n hx hb dX7_take_0 rfl (lv_at hl 0 rfl) ?_
  refine lv_iload_n hx hb dX7_take_1 rfl (lv_at hl 1 rfl) ?_
  refine lv_iload_n hx hb dX7_take_2 rfl (lv_at hl 2 rfl) ?_
  obtain ⟨r1, hcr1, h⟩ := bd_y h
  refine g_cVI (a := a) (ci := 7) (T := TX7) (N := 37) (av := [.int v1, .int v2]) (rest := []) X hG hS (ct_X7_isPerson l z k_a n_a hcr1) mt_X7_isPerson ml_X7_230 rfl ⟨rfl, rfl, Nat.le_of_ble_eq_true rfl, Nat.le_of_ble_eq_true rfl⟩ ⟨Nat.le_refl 0, Nat.le_refl 0⟩ (nx_0 n_a) k_a (by decide) rfl hl.1 (Nat.le_of_ble_eq_true rfl) rfl dX7_take_3 (fun H locs hG hS => ?_)
  refine lv_if_eq (tgt := 23) hx hb dX7_take_6 (by decide) (fun q2 => ?_) (fun q2 => ?_)
  · have h := ite_y h q2
    refine lv_aload_n hx hb dX7_take_23 rfl (lv_at hl 0 rfl) ?_
    refine lv_bipush (v := (-2)) hx hb dX7_take_24 (by decide) ?_
    obtain ⟨r3, hcr3, h⟩ := bd_y h
    refine g_cVI (a := a) (ci := 7) (T := TX7) (N := 37) (av := [.int (-2)]) (rest := []) X hG hS (ct_X7_refuse l z k_a n_a hcr3) mt_X7_refuse ml_X7_106 rfl ⟨rfl, rfl, Nat.le_of_ble_eq_true rfl, Nat.le_of_ble_eq_true rfl⟩ ⟨Nat.le_refl 0, Nat.le_refl 0⟩ (nx_0 n_a) k_a (by decide) rfl hl.1 (Nat.le_of_ble_eq_true rfl) rfl dX7_take_26 (fun H locs hG hS => ?_)
    obtain rfl := Option.some.inj h
    exact g_iret X hr hlk hG hS dX7_take_29
  · have h := ite_n h q2
    refine lv_iload_n hx hb dX7_take_9 rfl (lv_at hl 3 rfl) ?_
    refine lv_i2l hx hb dX7_take_10 rfl ?_
    refine lv_ldc2 (v := (-1)) hx hb X.2.2.2.1 (X.2.2.2.2.1 _ cn_X7_235) dX7_take_11 ?_
    refine lv_ldc2 (v := 7) hx hb X.2.2.2.1 (X.2.2.2.2.1 _ cn_X7_100) dX7_take_14 ?_
    obtain ⟨r4, hcr4, h⟩ := bd_y h
    refine g_cSI (av := [.long ((v3 : Int32).toInt64), .long (-1), .long 7]) (rest := []) X hG hS (ct_X7_in l z  hcr4) mt_X7_in ml_X7_88 rfl ⟨rfl, rfl, Nat.le_of_ble_eq_true rfl, Nat.le_of_ble_eq_true rfl⟩ ⟨Nat.le_refl 0, Nat.le_refl 0⟩ hl.1 (Nat.le_of_ble_eq_true rfl) rfl dX7_take_17 (fun H locs hG hS => ?_)
    refine lv_if_ne (tgt := 30) hx hb dX7_take_20 (by decide) (fun q5 => ?_) (fun q5 => ?_)
    · have h := ite_n h q5
      refine lv_iload_n hx hb dX7_take_30 rfl (lv_at hl 3 rfl) ?_
      refine lv_iconst (v := (-1)) hx hb dX7_take_31 (by decide) ?_
      refine lv_icmp_ne (tgt := 46) hx hb dX7_take_32 (by decide) (fun q6 => ?_) (fun q6 => ?_)
      · have h := ite_n h q6
        refine lv_aload_n hx hb dX7_take_46 rfl (lv_at hl 0 rfl) ?_
        refine gf_X7_0 X hG (nx_0 n_a) k_a fl_X7_7 dX7_take_47 ?_
        refine lv_iload_n hx hb dX7_take_50 rfl (lv_at hl 3 rfl) ?_
        obtain ⟨i7, h⟩ := gd_y h
        refine g_iald X hG (nx_a (a := a) (k := 1) (n := 59) n_a (Nat.le_of_ble_eq_true rfl)) (kx_7_1 k_a) (by decide) i7 dX7_take_51 ?_
        refine lv_iconst (v := 1) hx hb dX7_take_52 (by decide) ?_
        refine lv_icmp_ne (tgt := 63) hx hb dX7_take_53 (by decide) (fun q8 => ?_) (fun q8 => ?_)
        · have h := ite_n h q8
          refine lv_aload_n hx hb dX7_take_63 rfl (lv_at hl 0 rfl) ?_
          refine gf_X7_0 X hG (nx_0 n_a) k_a fl_X7_7 dX7_take_64 ?_
          refine lv_iload_n hx hb dX7_take_67 rfl (lv_at hl 3 rfl) ?_
          refine g_iald X hG (nx_a (a := a) (k := 1) (n := 59) n_a (Nat.le_of_ble_eq_true rfl)) (kx_7_1 k_a) (by decide) i7 dX7_take_68 ?_
          refine lv_if_ne (tgt := 79) hx hb dX7_take_69 (by decide) (fun q9 => ?_) (fun q9 => ?_)
          · have h := ite_n h q9
            refine lv_aload_n hx hb dX7_take_79 rfl (lv_at hl 0 rfl) ?_
            refine gf_X7_18 X hG (nx_0 n_a) k_a fl_X7_63 dX7_take_80 ?_
            refine lv_iload_n hx hb dX7_take_83 rfl (lv_at hl 1 rfl) ?_
            obtain ⟨i10, h⟩ := gd_y h
            refine g_aldII X hG (nx_a (a := a) (k := 45) (n := 59) n_a (Nat.le_of_ble_eq_true rfl)) (kx_7_45 k_a) (by decide) i10 dX7_take_84 ?_
            refine lv_iload_n hx hb dX7_take_85 rfl (lv_at hl 2 rfl) ?_
            refine lv_aload_n hx hb dX7_take_86 rfl (lv_at hl 0 rfl) ?_
            refine gf_X7_4 X hG (nx_0 n_a) k_a fl_X7_24 dX7_take_87 ?_
            refine lv_iload_n hx hb dX7_take_90 rfl (lv_at hl 3 rfl) ?_
            refine g_iald X hG (nx_a (a := a) (k := 13) (n := 59) n_a (Nat.le_of_ble_eq_true rfl)) (kx_7_13 k_a) (by decide) i7 dX7_take_91 ?_
            obtain ⟨i11, h⟩ := gd_y h
            refine g_iast X hG hS (nE n_a i10 (Nat.le_of_ble_eq_true rfl)) (ke_7_45 k_a i10) (by decide) i11 dX7_take_92 (fun H locs hG hS => ?_)
            obtain ⟨M12, eM12⟩ : ∃ y, y = sI M ((a + 45) + 1 + (v1 : Int32).toNatClampNeg) (v2 : Int32).toNatClampNeg (M.1 (a + 13) (v3 : Int32).toNatClampNeg) := ⟨_, rfl⟩
            rw [← eM12] at hG
            have h := nm_y h M12 eM12
            refine lv_aload_n hx hb dX7_take_93 rfl (lv_at hl 0 rfl) ?_
            refine gf_X7_19 X hG (nx_0 n_a) k_a fl_X7_66 dX7_take_94 ?_
            refine lv_iload_n hx hb dX7_take_97 rfl (lv_at hl 1 rfl) ?_
            refine g_aldII X hG (nx_a (a := a) (k := 51) (n := 59) n_a (Nat.le_of_ble_eq_true rfl)) (kx_7_51 k_a) (by decide) i10 dX7_take_98 ?_
            refine lv_iload_n hx hb dX7_take_99 rfl (lv_at hl 2 rfl) ?_
            refine lv_aload_n hx hb dX7_take_100 rfl (lv_at hl 0 rfl) ?_
            refine gf_X7_5 X hG (nx_0 n_a) k_a fl_X7_27 dX7_take_101 ?_
            refine lv_iload_n hx hb dX7_take_104 rfl (lv_at hl 3 rfl) ?_
            refine g_iald X hG (nx_a (a := a) (k := 14) (n := 59) n_a (Nat.le_of_ble_eq_true rfl)) (kx_7_14 k_a) (by decide) i7 dX7_take_105 ?_
            refine g_iast X hG hS (nE n_a i10 (Nat.le_of_ble_eq_true rfl)) (ke_7_51 k_a i10) (by decide) i11 dX7_take_106 (fun H locs hG hS => ?_)
            obtain ⟨M13, eM13⟩ : ∃ y, y = sI M12 ((a + 51) + 1 + (v1 : Int32).toNatClampNeg) (v2 : Int32).toNatClampNeg (M12.1 (a + 14) (v3 : Int32).toNatClampNeg) := ⟨_, rfl⟩
            rw [← eM13] at hG
            have h := nm_y h M13 eM13
            refine lv_iconst (v := 1) hx hb dX7_take_107 (by decide) ?_
            obtain rfl := Option.some.inj h
            exact g_iret X hr hlk hG hS dX7_take_108
          · have h := ite_y h q9
            refine lv_aload_n hx hb dX7_take_72 rfl (lv_at hl 0 rfl) ?_
            refine lv_bipush (v := (-4)) hx hb dX7_take_73 (by decide) ?_
            obtain ⟨r14, hcr14, h⟩ := bd_y h
            refine g_cVI (a := a) (ci := 7) (T := TX7) (N := 37) (av := [.int (-4)]) (rest := []) X hG hS (ct_X7_refuse l z k_a n_a hcr14) mt_X7_refuse ml_X7_106 rfl ⟨rfl, rfl, Nat.le_of_ble_eq_true rfl, Nat.le_of_ble_eq_true rfl⟩ ⟨Nat.le_refl 0, Nat.le_refl 0⟩ (nx_0 n_a) k_a (by decide) rfl hl.1 (Nat.le_of_ble_eq_true rfl) rfl dX7_take_75 (fun H locs hG hS => ?_)
            obtain rfl := Option.some.inj h
            exact g_iret X hr hlk hG hS dX7_take_78
        · have h := ite_y h q8
          refine lv_aload_n hx hb dX7_take_56 rfl (lv_at hl 0 rfl) ?_
          refine lv_bipush (v := (-3)) hx hb dX7_take_57 (by decide) ?_
          obtain ⟨r15, hcr15, h⟩ := bd_y h
          refine g_cVI (a := a) (ci := 7) (T := TX7) (N := 37) (av := [.int (-3)]) (rest := []) X hG hS (ct_X7_refuse l z k_a n_a hcr15) mt_X7_refuse ml_X7_106 rfl ⟨rfl, rfl, Nat.le_of_ble_eq_true rfl, Nat.le_of_ble_eq_true rfl⟩ ⟨Nat.le_refl 0, Nat.le_refl 0⟩ (nx_0 n_a) k_a (by decide) rfl hl.1 (Nat.le_of_ble_eq_true rfl) rfl dX7_take_59 (fun H locs hG hS => ?_)
          obtain rfl := Option.some.inj h
          exact g_iret X hr hlk hG hS dX7_take_62
      · have h := ite_y h q6
        refine lv_aload_n hx hb dX7_take_35 rfl (lv_at hl 0 rfl) ?_
        refine gf_X7_18 X hG (nx_0 n_a) k_a fl_X7_63 dX7_take_36 ?_
        refine lv_iload_n hx hb dX7_take_39 rfl (lv_at hl 1 rfl) ?_
        obtain ⟨i16, h⟩ := gd_y h
        refine g_aldII X hG (nx_a (a := a) (k := 45) (n := 59) n_a (Nat.le_of_ble_eq_true rfl)) (kx_7_45 k_a) (by decide) i16 dX7_take_40 ?_
        refine lv_iload_n hx hb dX7_take_41 rfl (lv_at hl 2 rfl) ?_
        refine lv_iconst (v := 0) hx hb dX7_take_42 (by decide) ?_
        obtain ⟨i17, h⟩ := gd_y h
        refine g_iast X hG hS (nE n_a i16 (Nat.le_of_ble_eq_true rfl)) (ke_7_45 k_a i16) (by decide) i17 dX7_take_43 (fun H locs hG hS => ?_)
        obtain ⟨M18, eM18⟩ : ∃ y, y = sI M ((a + 45) + 1 + (v1 : Int32).toNatClampNeg) (v2 : Int32).toNatClampNeg 0 := ⟨_, rfl⟩
        rw [← eM18] at hG
        have h := nm_y h M18 eM18
        refine lv_iconst (v := 1) hx hb dX7_take_44 (by decide) ?_
        obtain rfl := Option.some.inj h
        exact g_iret X hr hlk hG hS dX7_take_45
    · have h := ite_y h q5
      refine lv_aload_n hx hb dX7_take_23 rfl (lv_at hl 0 rfl) ?_
      refine lv_bipush (v := (-2)) hx hb dX7_take_24 (by decide) ?_
      obtain ⟨r19, hcr19, h⟩ := bd_y h
      refine g_cVI (a := a) (ci := 7) (T := TX7) (N := 37) (av := [.int (-2)]) (rest := []) X hG hS (ct_X7_refuse l z k_a n_a hcr19) mt_X7_refuse ml_X7_106 rfl ⟨rfl, rfl, Nat.le_of_ble_eq_true rfl, Nat.le_of_ble_eq_true rfl⟩ ⟨Nat.le_refl 0, Nat.le_refl 0⟩ (nx_0 n_a) k_a (by decide) rfl hl.1 (Nat.le_of_ble_eq_true rfl) rfl dX7_take_26 (fun H locs hG hS => ?_)
      obtain rfl := Option.some.inj h
      exact g_iret X hr hlk hG hS dX7_take_29
set_option maxRecDepth 100000 in
set_option maxHeartbeats 4000000 in
theorem wX7_come_120 {N : Nat} {p : Program} {l : Launch} {e : Env} {s : State} {m : MethodId} {args : Array Value} {below : List Frame} {meth : Method} {c : Code} {z : gZ} {a : Nat} {u1 : Int32} {u2 : Int32} {u5 : Int32} {o : Int32 × Mem} (X : gX p m c cX7_come 7 s args RX7 z) (hr : meth.sig.returnType = (some .int)) (hlk : meth.locks = false) (k_a : kd a = 7) (n_a : a + 59 ≤ gn z)  : ∀ (n : Nat) (Mw : Mem) (w6 : Int32) (H : Heap) (locs : List Loc) (ls : Array Slot), fX7_come_120 N a u1 u2 u5  n Mw w6 = some o → gW z Mw H → va_S (gA z) s.heap H locs → lv_has ls 7 [(0, .ref (gad z a)), (1, .int u1), (2, .int u2), (5, .int u5), (6, .int w6)] → W p l e { frames := 3, cells := 0, slots := 0, locals := 69 } s m args below meth c H locs 0 0 (MQ below (va_Qi (fun r' (_ : Unit) => r' = o.1) (fun _ t => gW z o.2 t.heap) (gA z)) args s 0 0 (gA z)) (F0 m 120 ls []) := by
  have hx := X.1
  have hb := X.2.1
  intro n
  induction n with
  | zero => intro Mw w6 H locs ls h; cases h
  | succ n ih =>
    intro Mw w6 H locs ls h hG hS hl
    rw [fX7_come_120] at h
    refine lv_iload hx hb dX7_come_120 (lv_at hl 4 rfl) ?_
    refine lv_iload hx hb dX7_come_122 (lv_at hl 3 rfl) ?_
    refine lv_icmp_ge (tgt := 152) hx hb dX7_come_124 (by decide) (fun q1 => ?_) (fun q1 => ?_)
    · have h := ite_y h q1
      refine lv_iload hx hb dX7_come_152 (lv_at hl 3 rfl) ?_
      obtain rfl := Option.some.inj h
      exact g_iret X hr hlk hG hS dX7_come_154
    · have h := ite_n h q1
      refine lv_iload_n hx hb dX7_come_127 rfl (lv_at hl 2 rfl) ?_
      refine lv_iload hx hb dX7_come_128 (lv_at hl 4 rfl) ?_
      refine lv_ishr hx hb dX7_come_130 ?_
      refine lv_iconst (v := 1) hx hb dX7_come_131 (by decide) ?_
      refine lv_iand hx hb dX7_come_132 ?_
      refine lv_if_eq (tgt := 146) hx hb dX7_come_133 (by decide) (fun q2 => ?_) (fun q2 => ?_)
      · have h := ite_y h q2
        refine lv_iinc (v := (w6 + 1)) (lv' := [(6, .int (w6 + 1)), (0, .ref (gad z a)), (1, .int u1), (2, .int u2), (5, .int u5)]) hx hb dX7_come_146 hl (k := 4) rfl rfl (by decide) rfl (fun ls hl => ?_)
        refine lv_goto (tgt := 120) hx hb dX7_come_149 (by decide) ?_
        exact ih Mw (w6 + 1) _ _ _ h hG hS (lv_sub hl [1, 2, 3, 4, 0] rfl)
      · have h := ite_n h q2
        refine lv_aload_n hx hb dX7_come_136 rfl (lv_at hl 0 rfl) ?_
        refine lv_iload_n hx hb dX7_come_137 rfl (lv_at hl 1 rfl) ?_
        refine lv_iload hx hb dX7_come_138 (lv_at hl 3 rfl) ?_
        refine lv_iload hx hb dX7_come_140 (lv_at hl 4 rfl) ?_
        refine lv_iconst (v := 0) hx hb dX7_come_142 (by decide) ?_
        obtain ⟨r3, hcr3, h⟩ := bd_y h
        refine g_cVV (a := a) (ci := 7) (T := TX7) (N := 37) (av := [.int u1, .int u5, .int w6, .int 0]) (rest := []) X hG hS (ct_X7_tieThem l z k_a n_a hcr3) mt_X7_tieThem ml_X7_183 rfl ⟨rfl, rfl, Nat.le_of_ble_eq_true rfl, Nat.le_of_ble_eq_true rfl⟩ ⟨Nat.le_refl 0, Nat.le_refl 0⟩ (nx_0 n_a) k_a (by decide) rfl hl.1 (Nat.le_of_ble_eq_true rfl) rfl dX7_come_143 (fun H locs hG hS => ?_)
        refine lv_iinc (v := (w6 + 1)) (lv' := [(6, .int (w6 + 1)), (0, .ref (gad z a)), (1, .int u1), (2, .int u2), (5, .int u5)]) hx hb dX7_come_146 hl (k := 4) rfl rfl (by decide) rfl (fun ls hl => ?_)
        refine lv_goto (tgt := 120) hx hb dX7_come_149 (by decide) ?_
        exact ih r3 (w6 + 1) _ _ _ h hG hS (lv_sub hl [1, 2, 3, 4, 0] rfl)
set_option maxRecDepth 100000 in
set_option maxHeartbeats 4000000 in
theorem ct_X7_come (l : Launch) (z : gZ) {N : Nat} {M : Mem} {a : Nat} {v1 : Int32} {v2 : Int32} {v3 : Int32} {v4 : Int32} {o : Int32 × Mem} (k_a : kd a = 7) (n_a : a + 59 ≤ gn z) (h : fX7_come N M a v1 v2 v3 v4 = some o) : CtI l z yX7_come cX7_come 7 (some .int) { frames := 3, cells := 0, slots := 0, locals := 69 } [.ref (gad z a), .int v1, .int v2, .int v3, .int v4] M o.1 o.2 := by
  refine Ct_of rfl (Nat.le_of_ble_eq_true rfl) ?_
  intro p e s m below meth c ls X hr hlk hG hS hl
  have X : gX p m c _ _ s _ RX7 z := X
  have hl : lv_has ls 7 [(0, .ref (gad z a)), (1, .int v1), (2, .int v2), (3, .int v3), (4, .int v4)] := hl
  have hx := X.1
  have hb := X.2.1
  unfold fX7_come at h
  refine lv_aload_n hx hb dX7_come_0 rfl (lv_at hl 0 rfl) ?_
  refine lv_iload_n hx hb dX7_come_1 rfl (lv_at hl 1 rfl) ?_
  refine lv_iload_n hx hb dX7_come_2 rfl (lv_at hl 2 rfl) ?_
  refine lv_i2l hx hb dX7_come_3 rfl ?_
  obtain ⟨r1, hcr1, h⟩ := bd_y h
  refine g_cVI (a := a) (ci := 7) (T := TX7) (N := 37) (av := [.int v1, .long ((v2 : Int32).toInt64)]) (rest := []) X hG hS (ct_X7_isSet l z k_a n_a hcr1) mt_X7_isSet ml_X7_237 rfl ⟨rfl, rfl, Nat.le_of_ble_eq_true rfl, Nat.le_of_ble_eq_true rfl⟩ ⟨Nat.le_refl 0, Nat.le_refl 0⟩ (nx_0 n_a) k_a (by decide) rfl hl.1 (Nat.le_of_ble_eq_true rfl) rfl dX7_come_4 (fun H locs hG hS => ?_)
  refine lv_if_eq (tgt := 35) hx hb dX7_come_7 (by decide) (fun q2 => ?_) (fun q2 => ?_)
  · have h := ite_y h q2
    refine lv_aload_n hx hb dX7_come_35 rfl (lv_at hl 0 rfl) ?_
    refine lv_bipush (v := (-2)) hx hb dX7_come_36 (by decide) ?_
    obtain ⟨r3, hcr3, h⟩ := bd_y h
    refine g_cVI (a := a) (ci := 7) (T := TX7) (N := 37) (av := [.int (-2)]) (rest := []) X hG hS (ct_X7_refuse l z k_a n_a hcr3) mt_X7_refuse ml_X7_106 rfl ⟨rfl, rfl, Nat.le_of_ble_eq_true rfl, Nat.le_of_ble_eq_true rfl⟩ ⟨Nat.le_refl 0, Nat.le_refl 0⟩ (nx_0 n_a) k_a (by decide) rfl hl.1 (Nat.le_of_ble_eq_true rfl) rfl dX7_come_38 (fun H locs hG hS => ?_)
    obtain rfl := Option.some.inj h
    exact g_iret X hr hlk hG hS dX7_come_41
  · have h := ite_n h q2
    refine lv_iload_n hx hb dX7_come_10 rfl (lv_at hl 3 rfl) ?_
    refine lv_i2l hx hb dX7_come_11 rfl ?_
    refine lv_lconst (v := 0) hx hb dX7_come_12 (by decide) ?_
    refine lv_ldc2 (v := 99) hx hb X.2.2.2.1 (X.2.2.2.2.1 _ cn_X7_233) dX7_come_13 ?_
    obtain ⟨r4, hcr4, h⟩ := bd_y h
    refine g_cSI (av := [.long ((v3 : Int32).toInt64), .long 0, .long 99]) (rest := []) X hG hS (ct_X7_in l z  hcr4) mt_X7_in ml_X7_88 rfl ⟨rfl, rfl, Nat.le_of_ble_eq_true rfl, Nat.le_of_ble_eq_true rfl⟩ ⟨Nat.le_refl 0, Nat.le_refl 0⟩ hl.1 (Nat.le_of_ble_eq_true rfl) rfl dX7_come_16 (fun H locs hG hS => ?_)
    refine lv_if_eq (tgt := 35) hx hb dX7_come_19 (by decide) (fun q5 => ?_) (fun q5 => ?_)
    · have h := ite_y h q5
      refine lv_aload_n hx hb dX7_come_35 rfl (lv_at hl 0 rfl) ?_
      refine lv_bipush (v := (-2)) hx hb dX7_come_36 (by decide) ?_
      obtain ⟨r6, hcr6, h⟩ := bd_y h
      refine g_cVI (a := a) (ci := 7) (T := TX7) (N := 37) (av := [.int (-2)]) (rest := []) X hG hS (ct_X7_refuse l z k_a n_a hcr6) mt_X7_refuse ml_X7_106 rfl ⟨rfl, rfl, Nat.le_of_ble_eq_true rfl, Nat.le_of_ble_eq_true rfl⟩ ⟨Nat.le_refl 0, Nat.le_refl 0⟩ (nx_0 n_a) k_a (by decide) rfl hl.1 (Nat.le_of_ble_eq_true rfl) rfl dX7_come_38 (fun H locs hG hS => ?_)
      obtain rfl := Option.some.inj h
      exact g_iret X hr hlk hG hS dX7_come_41
    · have h := ite_n h q5
      refine lv_iload hx hb dX7_come_22 (lv_at hl 4 rfl) ?_
      refine lv_i2l hx hb dX7_come_24 rfl ?_
      refine lv_lconst (v := 0) hx hb dX7_come_25 (by decide) ?_
      refine lv_ldc2 (v := 99) hx hb X.2.2.2.1 (X.2.2.2.2.1 _ cn_X7_233) dX7_come_26 ?_
      obtain ⟨r7, hcr7, h⟩ := bd_y h
      refine g_cSI (av := [.long ((v4 : Int32).toInt64), .long 0, .long 99]) (rest := []) X hG hS (ct_X7_in l z  hcr7) mt_X7_in ml_X7_88 rfl ⟨rfl, rfl, Nat.le_of_ble_eq_true rfl, Nat.le_of_ble_eq_true rfl⟩ ⟨Nat.le_refl 0, Nat.le_refl 0⟩ hl.1 (Nat.le_of_ble_eq_true rfl) rfl dX7_come_29 (fun H locs hG hS => ?_)
      refine lv_if_ne (tgt := 42) hx hb dX7_come_32 (by decide) (fun q8 => ?_) (fun q8 => ?_)
      · have h := ite_n h q8
        refine lv_aload_n hx hb dX7_come_42 rfl (lv_at hl 0 rfl) ?_
        refine gf_X7_11 X hG (nx_0 n_a) k_a fl_X7_40 dX7_come_43 ?_
        refine lv_iload_n hx hb dX7_come_46 rfl (lv_at hl 1 rfl) ?_
        obtain ⟨i9, h⟩ := gd_y h
        refine g_iald X hG (nx_a (a := a) (k := 18) (n := 59) n_a (Nat.le_of_ble_eq_true rfl)) (kx_7_18 k_a) (by decide) i9 dX7_come_47 ?_
        refine lv_topi (fun x10 ex10 => ?_)
        have h := nm_y h x10 ex10
        refine lv_istore (lv' := [(5, .int x10), (0, .ref (gad z a)), (1, .int v1), (2, .int v2), (3, .int v3), (4, .int v4)]) hx hb dX7_come_48 hl (by decide) rfl (fun ls hl => ?_)
        refine lv_iload hx hb dX7_come_50 (lv_at hl 0 rfl) ?_
        refine lv_bipush (v := 12) hx hb dX7_come_52 (by decide) ?_
        refine lv_icmp_ne (tgt := 64) hx hb dX7_come_54 (by decide) (fun q11 => ?_) (fun q11 => ?_)
        · have h := ite_n h q11
          refine lv_aload_n hx hb dX7_come_64 rfl (lv_at hl 1 rfl) ?_
          refine lv_iload_n hx hb dX7_come_65 rfl (lv_at hl 2 rfl) ?_
          refine lv_iload hx hb dX7_come_66 (lv_at hl 0 rfl) ?_
          obtain ⟨r12, hcr12, h⟩ := bd_y h
          refine g_cVV (a := a) (ci := 7) (T := TX7) (N := 37) (av := [.int v1, .int x10]) (rest := []) X hG hS (ct_X7_empty l z k_a n_a hcr12) mt_X7_empty ml_X7_212 rfl ⟨rfl, rfl, Nat.le_of_ble_eq_true rfl, Nat.le_of_ble_eq_true rfl⟩ ⟨Nat.le_refl 0, Nat.le_refl 0⟩ (nx_0 n_a) k_a (by decide) rfl hl.1 (Nat.le_of_ble_eq_true rfl) rfl dX7_come_68 (fun H locs hG hS => ?_)
          refine lv_aload_n hx hb dX7_come_71 rfl (lv_at hl 1 rfl) ?_
          refine gf_X7_13 X hG (nx_0 n_a) k_a fl_X7_46 dX7_come_72 ?_
          refine lv_iload_n hx hb dX7_come_75 rfl (lv_at hl 2 rfl) ?_
          refine lv_dup2_11 hx hb dX7_come_76 rfl rfl ?_
          refine g_iald X hG (nx_a (a := a) (k := 20) (n := 59) n_a (Nat.le_of_ble_eq_true rfl)) (kx_7_20 k_a) (by decide) i9 dX7_come_77 ?_
          refine lv_iconst (v := 1) hx hb dX7_come_78 (by decide) ?_
          refine lv_iload hx hb dX7_come_79 (lv_at hl 0 rfl) ?_
          refine lv_ishl hx hb dX7_come_81 ?_
          refine lv_iconst (v := (-1)) hx hb dX7_come_82 (by decide) ?_
          refine lv_ixor hx hb dX7_come_83 ?_
          refine lv_iand hx hb dX7_come_84 ?_
          refine g_iast X hG hS (nx_a (a := a) (k := 20) (n := 59) n_a (Nat.le_of_ble_eq_true rfl)) (kx_7_20 k_a) (by decide) i9 dX7_come_85 (fun H locs hG hS => ?_)
          obtain ⟨M13, eM13⟩ : ∃ y, y = sI r12 (a + 20) (v1 : Int32).toNatClampNeg ((r12.1 (a + 20) (v1 : Int32).toNatClampNeg) &&& ((1 <<< (x10 &&& 31)) ^^^ (-1))) := ⟨_, rfl⟩
          rw [← eM13] at hG
          have h := nm_y h M13 eM13
          refine lv_aload_n hx hb dX7_come_86 rfl (lv_at hl 1 rfl) ?_
          refine gf_X7_11 X hG (nx_0 n_a) k_a fl_X7_40 dX7_come_87 ?_
          refine lv_iload_n hx hb dX7_come_90 rfl (lv_at hl 2 rfl) ?_
          refine lv_iload hx hb dX7_come_91 (lv_at hl 0 rfl) ?_
          refine lv_iconst (v := 1) hx hb dX7_come_93 (by decide) ?_
          refine lv_iadd hx hb dX7_come_94 ?_
          refine g_iast X hG hS (nx_a (a := a) (k := 18) (n := 59) n_a (Nat.le_of_ble_eq_true rfl)) (kx_7_18 k_a) (by decide) i9 dX7_come_95 (fun H locs hG hS => ?_)
          obtain ⟨M14, eM14⟩ : ∃ y, y = sI M13 (a + 18) (v1 : Int32).toNatClampNeg (x10 + 1) := ⟨_, rfl⟩
          rw [← eM14] at hG
          have h := nm_y h M14 eM14
          refine lv_aload_n hx hb dX7_come_96 rfl (lv_at hl 1 rfl) ?_
          refine gf_X7_14 X hG (nx_0 n_a) k_a fl_X7_51 dX7_come_97 ?_
          refine lv_iload_n hx hb dX7_come_100 rfl (lv_at hl 2 rfl) ?_
          refine g_aldII X hG (nx_a (a := a) (k := 21) (n := 59) n_a (Nat.le_of_ble_eq_true rfl)) (kx_7_21 k_a) (by decide) i9 dX7_come_101 ?_
          refine lv_iload hx hb dX7_come_102 (lv_at hl 0 rfl) ?_
          refine lv_iload_n hx hb dX7_come_104 rfl (lv_at hl 4 rfl) ?_
          obtain ⟨i15, h⟩ := gd_y h
          refine g_iast X hG hS (nE n_a i9 (Nat.le_of_ble_eq_true rfl)) (ke_7_21 k_a i9) (by decide) i15 dX7_come_105 (fun H locs hG hS => ?_)
          obtain ⟨M16, eM16⟩ : ∃ y, y = sI M14 ((a + 21) + 1 + (v1 : Int32).toNatClampNeg) (x10 : Int32).toNatClampNeg v3 := ⟨_, rfl⟩
          rw [← eM16] at hG
          have h := nm_y h M16 eM16
          refine lv_aload_n hx hb dX7_come_106 rfl (lv_at hl 1 rfl) ?_
          refine gf_X7_15 X hG (nx_0 n_a) k_a fl_X7_54 dX7_come_107 ?_
          refine lv_iload_n hx hb dX7_come_110 rfl (lv_at hl 2 rfl) ?_
          refine g_aldII X hG (nx_a (a := a) (k := 27) (n := 59) n_a (Nat.le_of_ble_eq_true rfl)) (kx_7_27 k_a) (by decide) i9 dX7_come_111 ?_
          refine lv_iload hx hb dX7_come_112 (lv_at hl 0 rfl) ?_
          refine lv_iload hx hb dX7_come_114 (lv_at hl 5 rfl) ?_
          refine g_iast X hG hS (nE n_a i9 (Nat.le_of_ble_eq_true rfl)) (ke_7_27 k_a i9) (by decide) i15 dX7_come_116 (fun H locs hG hS => ?_)
          obtain ⟨M17, eM17⟩ : ∃ y, y = sI M16 ((a + 27) + 1 + (v1 : Int32).toNatClampNeg) (x10 : Int32).toNatClampNeg v4 := ⟨_, rfl⟩
          rw [← eM17] at hG
          have h := nm_y h M17 eM17
          refine lv_iconst (v := 0) hx hb dX7_come_117 (by decide) ?_
          refine lv_istore (lv' := [(6, .int 0), (5, .int x10), (0, .ref (gad z a)), (1, .int v1), (2, .int v2), (3, .int v3), (4, .int v4)]) hx hb dX7_come_118 hl (by decide) rfl (fun ls hl => ?_)
          refine wX7_come_120 X hr hlk k_a n_a _ _ _ _ _ _ h hG hS (lv_sub hl [2, 3, 4, 1, 0] rfl)
        · have h := ite_y h q11
          refine lv_aload_n hx hb dX7_come_57 rfl (lv_at hl 1 rfl) ?_
          refine lv_bipush (v := (-6)) hx hb dX7_come_58 (by decide) ?_
          obtain ⟨r18, hcr18, h⟩ := bd_y h
          refine g_cVI (a := a) (ci := 7) (T := TX7) (N := 37) (av := [.int (-6)]) (rest := []) X hG hS (ct_X7_refuse l z k_a n_a hcr18) mt_X7_refuse ml_X7_106 rfl ⟨rfl, rfl, Nat.le_of_ble_eq_true rfl, Nat.le_of_ble_eq_true rfl⟩ ⟨Nat.le_refl 0, Nat.le_refl 0⟩ (nx_0 n_a) k_a (by decide) rfl hl.1 (Nat.le_of_ble_eq_true rfl) rfl dX7_come_60 (fun H locs hG hS => ?_)
          obtain rfl := Option.some.inj h
          exact g_iret X hr hlk hG hS dX7_come_63
      · have h := ite_y h q8
        refine lv_aload_n hx hb dX7_come_35 rfl (lv_at hl 0 rfl) ?_
        refine lv_bipush (v := (-2)) hx hb dX7_come_36 (by decide) ?_
        obtain ⟨r19, hcr19, h⟩ := bd_y h
        refine g_cVI (a := a) (ci := 7) (T := TX7) (N := 37) (av := [.int (-2)]) (rest := []) X hG hS (ct_X7_refuse l z k_a n_a hcr19) mt_X7_refuse ml_X7_106 rfl ⟨rfl, rfl, Nat.le_of_ble_eq_true rfl, Nat.le_of_ble_eq_true rfl⟩ ⟨Nat.le_refl 0, Nat.le_refl 0⟩ (nx_0 n_a) k_a (by decide) rfl hl.1 (Nat.le_of_ble_eq_true rfl) rfl dX7_come_38 (fun H locs hG hS => ?_)
        obtain rfl := Option.some.inj h
        exact g_iret X hr hlk hG hS dX7_come_41
set_option maxRecDepth 100000 in
set_option maxHeartbeats 4000000 in
theorem ct_X7_gainOf (l : Launch) (z : gZ) {N : Nat} {M : Mem} {a : Nat} {v1 : Int32} {v2 : Int32} {v3 : Int32} {o : Int32} (k_a : kd a = 7) (n_a : a + 59 ≤ gn z) (h : fX7_gainOf N M a v1 v2 v3 = some o) : CtI l z yX7_gainOf cX7_gainOf 6 (some .int) { frames := 1, cells := 0, slots := 0, locals := 24 } [.ref (gad z a), .int v1, .int v2, .int v3] M o M := by
  refine Ct_of rfl (Nat.le_of_ble_eq_true rfl) ?_
  intro p e s m below meth c ls X hr hlk hG hS hl
  have X : gX p m c _ _ s _ RX7 z := X
  have hl : lv_has ls 6 [(0, .ref (gad z a)), (1, .int v1), (2, .int v2), (3, .int v3)] := hl
  have hx := X.1
  have hb := X.2.1
  unfold fX7_gainOf at h
  refine lv_iload_n hx hb dX7_gainOf_0 rfl (lv_at hl 3 rfl) ?_
  refine lv_aload_n hx hb dX7_gainOf_1 rfl (lv_at hl 0 rfl) ?_
  refine gf_X7_16 X hG (nx_0 n_a) k_a fl_X7_57 dX7_gainOf_2 ?_
  refine lv_iload_n hx hb dX7_gainOf_5 rfl (lv_at hl 1 rfl) ?_
  obtain ⟨i1, h⟩ := gd_y h
  refine g_aldII X hG (nx_a (a := a) (k := 33) (n := 59) n_a (Nat.le_of_ble_eq_true rfl)) (kx_7_33 k_a) (by decide) i1 dX7_gainOf_6 ?_
  refine lv_iload_n hx hb dX7_gainOf_7 rfl (lv_at hl 2 rfl) ?_
  obtain ⟨i2, h⟩ := gd_y h
  refine g_iald X hG (nE n_a i1 (Nat.le_of_ble_eq_true rfl)) (ke_7_33 k_a i1) (by decide) i2 dX7_gainOf_8 ?_
  refine lv_iconst (v := 1) hx hb dX7_gainOf_9 (by decide) ?_
  refine lv_iload_n hx hb dX7_gainOf_10 rfl (lv_at hl 2 rfl) ?_
  refine lv_ishl hx hb dX7_gainOf_11 ?_
  refine lv_ior hx hb dX7_gainOf_12 ?_
  refine lv_iand hx hb dX7_gainOf_13 ?_
  obtain ⟨r3, hcr3, h⟩ := bd_y h
  refine g_cSI (av := [.int (v3 &&& ((M.1 ((a + 33) + 1 + (v1 : Int32).toNatClampNeg) (v2 : Int32).toNatClampNeg) ||| (1 <<< (v2 &&& 31))))]) (rest := []) X hG hS (ct_X7_bits l z  hcr3) mt_X7_bits ml_X7_223 rfl ⟨rfl, rfl, Nat.le_of_ble_eq_true rfl, Nat.le_of_ble_eq_true rfl⟩ ⟨Nat.le_refl 0, Nat.le_refl 0⟩ hl.1 (Nat.le_of_ble_eq_true rfl) rfl dX7_gainOf_14 (fun H locs hG hS => ?_)
  refine lv_istore (lv' := [(4, .int r3), (0, .ref (gad z a)), (1, .int v1), (2, .int v2), (3, .int v3)]) hx hb dX7_gainOf_17 hl (by decide) rfl (fun ls hl => ?_)
  refine lv_iload hx hb dX7_gainOf_19 (lv_at hl 0 rfl) ?_
  refine lv_if_le (tgt := 47) hx hb dX7_gainOf_21 (by decide) (fun q4 => ?_) (fun q4 => ?_)
  · have h := ite_y h q4
    refine lv_iconst (v := 0) hx hb dX7_gainOf_47 (by decide) ?_
    refine lv_istore (lv' := [(5, .int 0), (4, .int r3), (0, .ref (gad z a)), (1, .int v1), (2, .int v2), (3, .int v3)]) hx hb dX7_gainOf_48 hl (by decide) rfl (fun ls hl => ?_)
    refine lv_iload hx hb dX7_gainOf_50 (lv_at hl 0 rfl) ?_
    refine lv_iload_n hx hb dX7_gainOf_52 rfl (lv_at hl 5 rfl) ?_
    refine lv_iload_n hx hb dX7_gainOf_53 rfl (lv_at hl 4 rfl) ?_
    refine lv_ishr hx hb dX7_gainOf_54 ?_
    refine lv_iconst (v := 1) hx hb dX7_gainOf_55 (by decide) ?_
    refine lv_iand hx hb dX7_gainOf_56 ?_
    refine lv_if_eq (tgt := 71) hx hb dX7_gainOf_57 (by decide) (fun q5 => ?_) (fun q5 => ?_)
    · have h := ite_y h q5
      refine lv_iconst (v := 0) hx hb dX7_gainOf_71 (by decide) ?_
      refine lv_isub hx hb dX7_gainOf_72 ?_
      refine lv_aload_n hx hb dX7_gainOf_73 rfl (lv_at hl 2 rfl) ?_
      refine lv_iload_n hx hb dX7_gainOf_74 rfl (lv_at hl 3 rfl) ?_
      refine lv_iload_n hx hb dX7_gainOf_75 rfl (lv_at hl 4 rfl) ?_
      obtain ⟨r6, hcr6, h⟩ := bd_y h
      refine g_cVI (a := a) (ci := 7) (T := TX7) (N := 37) (av := [.int v1, .int v2]) (rest := [.int (0 - 0)]) X hG hS (ct_X7_pricesOf l z k_a n_a hcr6) mt_X7_pricesOf ml_X7_226 rfl ⟨rfl, rfl, Nat.le_of_ble_eq_true rfl, Nat.le_of_ble_eq_true rfl⟩ ⟨Nat.le_refl 0, Nat.le_refl 0⟩ (nx_0 n_a) k_a (by decide) rfl hl.1 (Nat.le_of_ble_eq_true rfl) rfl dX7_gainOf_76 (fun H locs hG hS => ?_)
      refine lv_isub hx hb dX7_gainOf_79 ?_
      obtain rfl := Option.some.inj h
      exact g_iret X hr hlk hG hS dX7_gainOf_80
    · have h := ite_n h q5
      refine lv_aload_n hx hb dX7_gainOf_60 rfl (lv_at hl 2 rfl) ?_
      refine gf_X7_14 X hG (nx_0 n_a) k_a fl_X7_51 dX7_gainOf_61 ?_
      refine lv_iload_n hx hb dX7_gainOf_64 rfl (lv_at hl 3 rfl) ?_
      refine g_aldII X hG (nx_a (a := a) (k := 21) (n := 59) n_a (Nat.le_of_ble_eq_true rfl)) (kx_7_21 k_a) (by decide) i1 dX7_gainOf_65 ?_
      refine lv_iload_n hx hb dX7_gainOf_66 rfl (lv_at hl 4 rfl) ?_
      refine g_iald X hG (nE n_a i1 (Nat.le_of_ble_eq_true rfl)) (ke_7_21 k_a i1) (by decide) i2 dX7_gainOf_67 ?_
      refine lv_goto (tgt := 72) hx hb dX7_gainOf_68 (by decide) ?_
      refine lv_isub hx hb dX7_gainOf_72 ?_
      refine lv_aload_n hx hb dX7_gainOf_73 rfl (lv_at hl 2 rfl) ?_
      refine lv_iload_n hx hb dX7_gainOf_74 rfl (lv_at hl 3 rfl) ?_
      refine lv_iload_n hx hb dX7_gainOf_75 rfl (lv_at hl 4 rfl) ?_
      obtain ⟨r7, hcr7, h⟩ := bd_y h
      refine g_cVI (a := a) (ci := 7) (T := TX7) (N := 37) (av := [.int v1, .int v2]) (rest := [.int (0 - (M.1 ((a + 21) + 1 + (v1 : Int32).toNatClampNeg) (v2 : Int32).toNatClampNeg))]) X hG hS (ct_X7_pricesOf l z k_a n_a hcr7) mt_X7_pricesOf ml_X7_226 rfl ⟨rfl, rfl, Nat.le_of_ble_eq_true rfl, Nat.le_of_ble_eq_true rfl⟩ ⟨Nat.le_refl 0, Nat.le_refl 0⟩ (nx_0 n_a) k_a (by decide) rfl hl.1 (Nat.le_of_ble_eq_true rfl) rfl dX7_gainOf_76 (fun H locs hG hS => ?_)
      refine lv_isub hx hb dX7_gainOf_79 ?_
      obtain rfl := Option.some.inj h
      exact g_iret X hr hlk hG hS dX7_gainOf_80
  · have h := ite_n h q4
    refine lv_aload_n hx hb dX7_gainOf_24 rfl (lv_at hl 1 rfl) ?_
    refine gf_X7_15 X hG (nx_0 n_a) k_a fl_X7_54 dX7_gainOf_25 ?_
    refine lv_iload_n hx hb dX7_gainOf_28 rfl (lv_at hl 2 rfl) ?_
    refine g_aldII X hG (nx_a (a := a) (k := 27) (n := 59) n_a (Nat.le_of_ble_eq_true rfl)) (kx_7_27 k_a) (by decide) i1 dX7_gainOf_29 ?_
    refine lv_iload_n hx hb dX7_gainOf_30 rfl (lv_at hl 3 rfl) ?_
    refine g_iald X hG (nE n_a i1 (Nat.le_of_ble_eq_true rfl)) (ke_7_27 k_a i1) (by decide) i2 dX7_gainOf_31 ?_
    refine lv_aload_n hx hb dX7_gainOf_32 rfl (lv_at hl 1 rfl) ?_
    refine gf_X7_12 X hG (nx_0 n_a) k_a fl_X7_43 dX7_gainOf_33 ?_
    refine lv_iload_n hx hb dX7_gainOf_36 rfl (lv_at hl 2 rfl) ?_
    refine g_iald X hG (nx_a (a := a) (k := 19) (n := 59) n_a (Nat.le_of_ble_eq_true rfl)) (kx_7_19 k_a) (by decide) i1 dX7_gainOf_37 ?_
    refine lv_iload hx hb dX7_gainOf_38 (lv_at hl 0 rfl) ?_
    refine lv_iconst (v := 1) hx hb dX7_gainOf_40 (by decide) ?_
    refine lv_isub hx hb dX7_gainOf_41 ?_
    refine lv_imul hx hb dX7_gainOf_42 ?_
    refine lv_iadd hx hb dX7_gainOf_43 ?_
    refine lv_goto (tgt := 48) hx hb dX7_gainOf_44 (by decide) ?_
    refine lv_topi (fun x8 ex8 => ?_)
    have h := nm_y h x8 ex8
    refine lv_istore (lv' := [(5, .int x8), (4, .int r3), (0, .ref (gad z a)), (1, .int v1), (2, .int v2), (3, .int v3)]) hx hb dX7_gainOf_48 hl (by decide) rfl (fun ls hl => ?_)
    refine lv_iload hx hb dX7_gainOf_50 (lv_at hl 0 rfl) ?_
    refine lv_iload_n hx hb dX7_gainOf_52 rfl (lv_at hl 5 rfl) ?_
    refine lv_iload_n hx hb dX7_gainOf_53 rfl (lv_at hl 4 rfl) ?_
    refine lv_ishr hx hb dX7_gainOf_54 ?_
    refine lv_iconst (v := 1) hx hb dX7_gainOf_55 (by decide) ?_
    refine lv_iand hx hb dX7_gainOf_56 ?_
    refine lv_if_eq (tgt := 71) hx hb dX7_gainOf_57 (by decide) (fun q9 => ?_) (fun q9 => ?_)
    · have h := ite_y h q9
      refine lv_iconst (v := 0) hx hb dX7_gainOf_71 (by decide) ?_
      refine lv_isub hx hb dX7_gainOf_72 ?_
      refine lv_aload_n hx hb dX7_gainOf_73 rfl (lv_at hl 2 rfl) ?_
      refine lv_iload_n hx hb dX7_gainOf_74 rfl (lv_at hl 3 rfl) ?_
      refine lv_iload_n hx hb dX7_gainOf_75 rfl (lv_at hl 4 rfl) ?_
      obtain ⟨r10, hcr10, h⟩ := bd_y h
      refine g_cVI (a := a) (ci := 7) (T := TX7) (N := 37) (av := [.int v1, .int v2]) (rest := [.int (x8 - 0)]) X hG hS (ct_X7_pricesOf l z k_a n_a hcr10) mt_X7_pricesOf ml_X7_226 rfl ⟨rfl, rfl, Nat.le_of_ble_eq_true rfl, Nat.le_of_ble_eq_true rfl⟩ ⟨Nat.le_refl 0, Nat.le_refl 0⟩ (nx_0 n_a) k_a (by decide) rfl hl.1 (Nat.le_of_ble_eq_true rfl) rfl dX7_gainOf_76 (fun H locs hG hS => ?_)
      refine lv_isub hx hb dX7_gainOf_79 ?_
      obtain rfl := Option.some.inj h
      exact g_iret X hr hlk hG hS dX7_gainOf_80
    · have h := ite_n h q9
      refine lv_aload_n hx hb dX7_gainOf_60 rfl (lv_at hl 2 rfl) ?_
      refine gf_X7_14 X hG (nx_0 n_a) k_a fl_X7_51 dX7_gainOf_61 ?_
      refine lv_iload_n hx hb dX7_gainOf_64 rfl (lv_at hl 3 rfl) ?_
      refine g_aldII X hG (nx_a (a := a) (k := 21) (n := 59) n_a (Nat.le_of_ble_eq_true rfl)) (kx_7_21 k_a) (by decide) i1 dX7_gainOf_65 ?_
      refine lv_iload_n hx hb dX7_gainOf_66 rfl (lv_at hl 4 rfl) ?_
      refine g_iald X hG (nE n_a i1 (Nat.le_of_ble_eq_true rfl)) (ke_7_21 k_a i1) (by decide) i2 dX7_gainOf_67 ?_
      refine lv_goto (tgt := 72) hx hb dX7_gainOf_68 (by decide) ?_
      refine lv_isub hx hb dX7_gainOf_72 ?_
      refine lv_aload_n hx hb dX7_gainOf_73 rfl (lv_at hl 2 rfl) ?_
      refine lv_iload_n hx hb dX7_gainOf_74 rfl (lv_at hl 3 rfl) ?_
      refine lv_iload_n hx hb dX7_gainOf_75 rfl (lv_at hl 4 rfl) ?_
      obtain ⟨r11, hcr11, h⟩ := bd_y h
      refine g_cVI (a := a) (ci := 7) (T := TX7) (N := 37) (av := [.int v1, .int v2]) (rest := [.int (x8 - (M.1 ((a + 21) + 1 + (v1 : Int32).toNatClampNeg) (v2 : Int32).toNatClampNeg))]) X hG hS (ct_X7_pricesOf l z k_a n_a hcr11) mt_X7_pricesOf ml_X7_226 rfl ⟨rfl, rfl, Nat.le_of_ble_eq_true rfl, Nat.le_of_ble_eq_true rfl⟩ ⟨Nat.le_refl 0, Nat.le_refl 0⟩ (nx_0 n_a) k_a (by decide) rfl hl.1 (Nat.le_of_ble_eq_true rfl) rfl dX7_gainOf_76 (fun H locs hG hS => ?_)
      refine lv_isub hx hb dX7_gainOf_79 ?_
      obtain rfl := Option.some.inj h
      exact g_iret X hr hlk hG hS dX7_gainOf_80
set_option maxRecDepth 100000 in
set_option maxHeartbeats 4000000 in
theorem wX7_goodOf_5 {N : Nat} {p : Program} {l : Launch} {e : Env} {s : State} {m : MethodId} {args : Array Value} {below : List Frame} {meth : Method} {c : Code} {z : gZ} {M : Mem} {a : Nat} {u1 : Int32} {u2 : Int32} {o : Int32} (X : gX p m c cX7_goodOf 5 s args RX7 z) (hr : meth.sig.returnType = (some .int)) (hlk : meth.locks = false) (k_a : kd a = 7) (n_a : a + 59 ≤ gn z)  : ∀ (n : Nat) (w3 : Int32) (w4 : Int32) (H : Heap) (locs : List Loc) (ls : Array Slot), fX7_goodOf_5 N M a u1 u2  n w3 w4 = some o → gW z M H → va_S (gA z) s.heap H locs → lv_has ls 5 [(0, .ref (gad z a)), (1, .int u1), (2, .int u2), (3, .int w3), (4, .int w4)] → W p l e { frames := 2, cells := 0, slots := 0, locals := 49 } s m args below meth c H locs 0 0 (MQ below (va_Qi (fun r' (_ : Unit) => r' = o) (fun _ t => gW z M t.heap) (gA z)) args s 0 0 (gA z)) (F0 m 5 ls []) := by
  have hx := X.1
  have hb := X.2.1
  intro n
  induction n with
  | zero => intro w3 w4 H locs ls h; cases h
  | succ n ih =>
    intro w3 w4 H locs ls h hG hS hl
    rw [fX7_goodOf_5] at h
    refine lv_iload hx hb dX7_goodOf_5 (lv_at hl 4 rfl) ?_
    refine lv_aload_n hx hb dX7_goodOf_7 rfl (lv_at hl 0 rfl) ?_
    refine gf_X7_11 X hG (nx_0 n_a) k_a fl_X7_40 dX7_goodOf_8 ?_
    refine lv_iload_n hx hb dX7_goodOf_11 rfl (lv_at hl 1 rfl) ?_
    obtain ⟨i1, h⟩ := gd_y h
    refine g_iald X hG (nx_a (a := a) (k := 18) (n := 59) n_a (Nat.le_of_ble_eq_true rfl)) (kx_7_18 k_a) (by decide) i1 dX7_goodOf_12 ?_
    refine lv_icmp_ge (tgt := 33) hx hb dX7_goodOf_13 (by decide) (fun q2 => ?_) (fun q2 => ?_)
    · have h := ite_y h q2
      refine lv_iload_n hx hb dX7_goodOf_33 rfl (lv_at hl 3 rfl) ?_
      obtain rfl := Option.some.inj h
      exact g_iret X hr hlk hG hS dX7_goodOf_34
    · have h := ite_n h q2
      refine lv_iload_n hx hb dX7_goodOf_16 rfl (lv_at hl 3 rfl) ?_
      refine lv_aload_n hx hb dX7_goodOf_17 rfl (lv_at hl 0 rfl) ?_
      refine lv_iload_n hx hb dX7_goodOf_18 rfl (lv_at hl 1 rfl) ?_
      refine lv_iload hx hb dX7_goodOf_19 (lv_at hl 4 rfl) ?_
      refine lv_iload_n hx hb dX7_goodOf_21 rfl (lv_at hl 2 rfl) ?_
      obtain ⟨r3, hcr3, h⟩ := bd_y h
      refine g_cVI (a := a) (ci := 7) (T := TX7) (N := 37) (av := [.int u1, .int w4, .int u2]) (rest := [.int w3]) X hG hS (ct_X7_gainOf l z k_a n_a hcr3) mt_X7_gainOf ml_X7_241 rfl ⟨rfl, rfl, Nat.le_of_ble_eq_true rfl, Nat.le_of_ble_eq_true rfl⟩ ⟨Nat.le_refl 0, Nat.le_refl 0⟩ (nx_0 n_a) k_a (by decide) rfl hl.1 (Nat.le_of_ble_eq_true rfl) rfl dX7_goodOf_22 (fun H locs hG hS => ?_)
      refine lv_iadd hx hb dX7_goodOf_25 ?_
      refine lv_topi (fun x4 ex4 => ?_)
      have h := nm_y h x4 ex4
      refine lv_istore_n (lv' := [(3, .int x4), (0, .ref (gad z a)), (1, .int u1), (2, .int u2), (4, .int w4)]) hx hb dX7_goodOf_26 rfl hl (by decide) rfl (fun ls hl => ?_)
      refine lv_iinc (v := (w4 + 1)) (lv' := [(4, .int (w4 + 1)), (3, .int x4), (0, .ref (gad z a)), (1, .int u1), (2, .int u2)]) hx hb dX7_goodOf_27 hl (k := 4) rfl rfl (by decide) rfl (fun ls hl => ?_)
      refine lv_goto (tgt := 5) hx hb dX7_goodOf_30 (by decide) ?_
      exact ih x4 (w4 + 1) _ _ _ h hG hS (lv_sub hl [2, 3, 4, 1, 0] rfl)
set_option maxRecDepth 100000 in
set_option maxHeartbeats 4000000 in
theorem ct_X7_goodOf (l : Launch) (z : gZ) {N : Nat} {M : Mem} {a : Nat} {v1 : Int32} {v2 : Int32} {o : Int32} (k_a : kd a = 7) (n_a : a + 59 ≤ gn z) (h : fX7_goodOf N M a v1 v2 = some o) : CtI l z yX7_goodOf cX7_goodOf 5 (some .int) { frames := 2, cells := 0, slots := 0, locals := 49 } [.ref (gad z a), .int v1, .int v2] M o M := by
  refine Ct_of rfl (Nat.le_of_ble_eq_true rfl) ?_
  intro p e s m below meth c ls X hr hlk hG hS hl
  have X : gX p m c _ _ s _ RX7 z := X
  have hl : lv_has ls 5 [(0, .ref (gad z a)), (1, .int v1), (2, .int v2)] := hl
  have hx := X.1
  have hb := X.2.1
  unfold fX7_goodOf at h
  refine lv_iconst (v := 0) hx hb dX7_goodOf_0 (by decide) ?_
  refine lv_istore_n (lv' := [(3, .int 0), (0, .ref (gad z a)), (1, .int v1), (2, .int v2)]) hx hb dX7_goodOf_1 rfl hl (by decide) rfl (fun ls hl => ?_)
  refine lv_iconst (v := 0) hx hb dX7_goodOf_2 (by decide) ?_
  refine lv_istore (lv' := [(4, .int 0), (3, .int 0), (0, .ref (gad z a)), (1, .int v1), (2, .int v2)]) hx hb dX7_goodOf_3 hl (by decide) rfl (fun ls hl => ?_)
  refine wX7_goodOf_5 X hr hlk k_a n_a _ _ _ _ _ _ h hG hS (lv_sub hl [2, 3, 4, 1, 0] rfl)
set_option maxRecDepth 100000 in
set_option maxHeartbeats 4000000 in
theorem ct_X7_would (l : Launch) (z : gZ) {N : Nat} {M : Mem} {a : Nat} {v1 : Int32} {v2 : Int32} {v3 : Int32} {o : Int32} (k_a : kd a = 7) (n_a : a + 59 ≤ gn z) (h : fX7_would N M a v1 v2 v3 = some o) : CtI l z yX7_would cX7_would 4 (some .boolean) { frames := 2, cells := 0, slots := 0, locals := 49 } [.ref (gad z a), .int v1, .int v2, .int v3] M o M := by
  refine Ct_of rfl (Nat.le_of_ble_eq_true rfl) ?_
  intro p e s m below meth c ls X hr hlk hG hS hl
  have X : gX p m c _ _ s _ RX7 z := X
  have hl : lv_has ls 4 [(0, .ref (gad z a)), (1, .int v1), (2, .int v2), (3, .int v3)] := hl
  have hx := X.1
  have hb := X.2.1
  unfold fX7_would at h
  refine lv_aload_n hx hb dX7_would_0 rfl (lv_at hl 0 rfl) ?_
  refine gf_X7_13 X hG (nx_0 n_a) k_a fl_X7_46 dX7_would_1 ?_
  refine lv_iload_n hx hb dX7_would_4 rfl (lv_at hl 1 rfl) ?_
  obtain ⟨i1, h⟩ := gd_y h
  refine g_iald X hG (nx_a (a := a) (k := 20) (n := 59) n_a (Nat.le_of_ble_eq_true rfl)) (kx_7_20 k_a) (by decide) i1 dX7_would_5 ?_
  refine lv_iload_n hx hb dX7_would_6 rfl (lv_at hl 2 rfl) ?_
  refine lv_ishr hx hb dX7_would_7 ?_
  refine lv_iconst (v := 1) hx hb dX7_would_8 (by decide) ?_
  refine lv_iand hx hb dX7_would_9 ?_
  refine lv_if_ne (tgt := 38) hx hb dX7_would_10 (by decide) (fun q2 => ?_) (fun q2 => ?_)
  · have h := ite_n h q2
    refine lv_iconst (v := 0) hx hb dX7_would_38 (by decide) ?_
    obtain rfl := Option.some.inj h
    exact g_zret (zn (Or.inl rfl)) X hr hlk hG hS dX7_would_39
  · have h := ite_y h q2
    refine lv_aload_n hx hb dX7_would_13 rfl (lv_at hl 0 rfl) ?_
    refine lv_iload_n hx hb dX7_would_14 rfl (lv_at hl 1 rfl) ?_
    refine lv_iload_n hx hb dX7_would_15 rfl (lv_at hl 2 rfl) ?_
    refine lv_iload_n hx hb dX7_would_16 rfl (lv_at hl 3 rfl) ?_
    refine lv_iconst (v := 1) hx hb dX7_would_17 (by decide) ?_
    refine lv_iload_n hx hb dX7_would_18 rfl (lv_at hl 2 rfl) ?_
    refine lv_ishl hx hb dX7_would_19 ?_
    refine lv_ixor hx hb dX7_would_20 ?_
    obtain ⟨r3, hcr3, h⟩ := bd_y h
    refine g_cVI (a := a) (ci := 7) (T := TX7) (N := 37) (av := [.int v1, .int v2, .int (v3 ^^^ (1 <<< (v2 &&& 31)))]) (rest := []) X hG hS (ct_X7_gainOf l z k_a n_a hcr3) mt_X7_gainOf ml_X7_241 rfl ⟨rfl, rfl, Nat.le_of_ble_eq_true rfl, Nat.le_of_ble_eq_true rfl⟩ ⟨Nat.le_refl 0, Nat.le_refl 0⟩ (nx_0 n_a) k_a (by decide) rfl hl.1 (Nat.le_of_ble_eq_true rfl) rfl dX7_would_21 (fun H locs hG hS => ?_)
    refine lv_aload_n hx hb dX7_would_24 rfl (lv_at hl 0 rfl) ?_
    refine lv_iload_n hx hb dX7_would_25 rfl (lv_at hl 1 rfl) ?_
    refine lv_iload_n hx hb dX7_would_26 rfl (lv_at hl 2 rfl) ?_
    refine lv_iload_n hx hb dX7_would_27 rfl (lv_at hl 3 rfl) ?_
    obtain ⟨r4, hcr4, h⟩ := bd_y h
    refine g_cVI (a := a) (ci := 7) (T := TX7) (N := 37) (av := [.int v1, .int v2, .int v3]) (rest := [.int r3]) X hG hS (ct_X7_gainOf l z k_a n_a hcr4) mt_X7_gainOf ml_X7_241 rfl ⟨rfl, rfl, Nat.le_of_ble_eq_true rfl, Nat.le_of_ble_eq_true rfl⟩ ⟨Nat.le_refl 0, Nat.le_refl 0⟩ (nx_0 n_a) k_a (by decide) rfl hl.1 (Nat.le_of_ble_eq_true rfl) rfl dX7_would_28 (fun H locs hG hS => ?_)
    refine lv_icmp_le (tgt := 38) hx hb dX7_would_31 (by decide) (fun q5 => ?_) (fun q5 => ?_)
    · have h := ite_y h q5
      refine lv_iconst (v := 0) hx hb dX7_would_38 (by decide) ?_
      obtain rfl := Option.some.inj h
      exact g_zret (zn (Or.inl rfl)) X hr hlk hG hS dX7_would_39
    · have h := ite_n h q5
      refine lv_iconst (v := 1) hx hb dX7_would_34 (by decide) ?_
      refine lv_goto (tgt := 39) hx hb dX7_would_35 (by decide) ?_
      obtain rfl := Option.some.inj h
      exact g_zret (zn (Or.inr rfl)) X hr hlk hG hS dX7_would_39
set_option maxRecDepth 100000 in
set_option maxHeartbeats 4000000 in
theorem wX7_firstOf_2 {N : Nat} {p : Program} {l : Launch} {e : Env} {s : State} {m : MethodId} {args : Array Value} {below : List Frame} {meth : Method} {c : Code} {z : gZ} {M : Mem} {a : Nat} {u1 : Int32} {u2 : Int32} {o : Int32} (X : gX p m c cX7_firstOf 5 s args RX7 z) (hr : meth.sig.returnType = (some .int)) (hlk : meth.locks = false) (k_a : kd a = 7) (n_a : a + 59 ≤ gn z)  : ∀ (n : Nat) (w3 : Int32) (H : Heap) (locs : List Loc) (ls : Array Slot), fX7_firstOf_2 N M a u1 u2  n w3 = some o → gW z M H → va_S (gA z) s.heap H locs → lv_has ls 5 [(0, .ref (gad z a)), (1, .int u1), (2, .int u2), (3, .int w3)] → W p l e { frames := 3, cells := 0, slots := 0, locals := 72 } s m args below meth c H locs 0 0 (MQ below (va_Qi (fun r' (_ : Unit) => r' = o) (fun _ t => gW z M t.heap) (gA z)) args s 0 0 (gA z)) (F0 m 2 ls []) := by
  have hx := X.1
  have hb := X.2.1
  intro n
  induction n with
  | zero => intro w3 H locs ls h; cases h
  | succ n ih =>
    intro w3 H locs ls h hG hS hl
    rw [fX7_firstOf_2] at h
    refine lv_iload_n hx hb dX7_firstOf_2 rfl (lv_at hl 3 rfl) ?_
    refine lv_aload_n hx hb dX7_firstOf_3 rfl (lv_at hl 0 rfl) ?_
    refine gf_X7_11 X hG (nx_0 n_a) k_a fl_X7_40 dX7_firstOf_4 ?_
    refine lv_iload_n hx hb dX7_firstOf_7 rfl (lv_at hl 1 rfl) ?_
    obtain ⟨i1, h⟩ := gd_y h
    refine g_iald X hG (nx_a (a := a) (k := 18) (n := 59) n_a (Nat.le_of_ble_eq_true rfl)) (kx_7_18 k_a) (by decide) i1 dX7_firstOf_8 ?_
    refine lv_icmp_ge (tgt := 63) hx hb dX7_firstOf_9 (by decide) (fun q2 => ?_) (fun q2 => ?_)
    · have h := ite_y h q2
      refine lv_iconst (v := (-1)) hx hb dX7_firstOf_63 (by decide) ?_
      obtain rfl := Option.some.inj h
      exact g_iret X hr hlk hG hS dX7_firstOf_64
    · have h := ite_n h q2
      refine lv_aload_n hx hb dX7_firstOf_12 rfl (lv_at hl 0 rfl) ?_
      refine gf_X7_13 X hG (nx_0 n_a) k_a fl_X7_46 dX7_firstOf_13 ?_
      refine lv_iload_n hx hb dX7_firstOf_16 rfl (lv_at hl 1 rfl) ?_
      refine g_iald X hG (nx_a (a := a) (k := 20) (n := 59) n_a (Nat.le_of_ble_eq_true rfl)) (kx_7_20 k_a) (by decide) i1 dX7_firstOf_17 ?_
      refine lv_iload_n hx hb dX7_firstOf_18 rfl (lv_at hl 3 rfl) ?_
      refine lv_ishr hx hb dX7_firstOf_19 ?_
      refine lv_iconst (v := 1) hx hb dX7_firstOf_20 (by decide) ?_
      refine lv_iand hx hb dX7_firstOf_21 ?_
      refine lv_if_eq (tgt := 37) hx hb dX7_firstOf_22 (by decide) (fun q3 => ?_) (fun q3 => ?_)
      · have h := ite_y h q3
        refine lv_iconst (v := 0) hx hb dX7_firstOf_37 (by decide) ?_
        refine lv_istore (lv' := [(4, .int 0), (0, .ref (gad z a)), (1, .int u1), (2, .int u2), (3, .int w3)]) hx hb dX7_firstOf_38 hl (by decide) rfl (fun ls hl => ?_)
        refine lv_iload hx hb dX7_firstOf_40 (lv_at hl 0 rfl) ?_
        refine lv_if_ne (tgt := 55) hx hb dX7_firstOf_42 (by decide) (fun q4 => ?_) (fun q4 => ?_)
        · have h := ite_n h q4
          refine lv_iload_n hx hb dX7_firstOf_55 rfl (lv_at hl 4 rfl) ?_
          obtain rfl := Option.some.inj h
          exact g_iret X hr hlk hG hS dX7_firstOf_56
        · have h := ite_y h q4
          refine lv_aload_n hx hb dX7_firstOf_45 rfl (lv_at hl 1 rfl) ?_
          refine lv_iload_n hx hb dX7_firstOf_46 rfl (lv_at hl 2 rfl) ?_
          refine lv_iload_n hx hb dX7_firstOf_47 rfl (lv_at hl 4 rfl) ?_
          refine lv_iload_n hx hb dX7_firstOf_48 rfl (lv_at hl 3 rfl) ?_
          obtain ⟨r5, hcr5, h⟩ := bd_y h
          refine g_cVI (a := a) (ci := 7) (T := TX7) (N := 37) (av := [.int u1, .int w3, .int u2]) (rest := []) X hG hS (ct_X7_would l z k_a n_a hcr5) mt_X7_would ml_X7_245 rfl ⟨rfl, rfl, Nat.le_of_ble_eq_true rfl, Nat.le_of_ble_eq_true rfl⟩ ⟨Nat.le_refl 0, Nat.le_refl 0⟩ (nx_0 n_a) k_a (by decide) rfl hl.1 (Nat.le_of_ble_eq_true rfl) rfl dX7_firstOf_49 (fun H locs hG hS => ?_)
          refine lv_if_eq (tgt := 57) hx hb dX7_firstOf_52 (by decide) (fun q6 => ?_) (fun q6 => ?_)
          · have h := ite_y h q6
            refine lv_iinc (v := (w3 + 1)) (lv' := [(3, .int (w3 + 1)), (4, .int 0), (0, .ref (gad z a)), (1, .int u1), (2, .int u2)]) hx hb dX7_firstOf_57 hl (k := 4) rfl rfl (by decide) rfl (fun ls hl => ?_)
            refine lv_goto (tgt := 2) hx hb dX7_firstOf_60 (by decide) ?_
            exact ih (w3 + 1) _ _ _ h hG hS (lv_sub hl [2, 3, 4, 0] rfl)
          · have h := ite_n h q6
            refine lv_iload_n hx hb dX7_firstOf_55 rfl (lv_at hl 4 rfl) ?_
            obtain rfl := Option.some.inj h
            exact g_iret X hr hlk hG hS dX7_firstOf_56
      · have h := ite_n h q3
        refine lv_iload_n hx hb dX7_firstOf_25 rfl (lv_at hl 2 rfl) ?_
        refine lv_iload_n hx hb dX7_firstOf_26 rfl (lv_at hl 3 rfl) ?_
        refine lv_ishr hx hb dX7_firstOf_27 ?_
        refine lv_iconst (v := 1) hx hb dX7_firstOf_28 (by decide) ?_
        refine lv_iand hx hb dX7_firstOf_29 ?_
        refine lv_if_ne (tgt := 37) hx hb dX7_firstOf_30 (by decide) (fun q7 => ?_) (fun q7 => ?_)
        · have h := ite_n h q7
          refine lv_iconst (v := 0) hx hb dX7_firstOf_37 (by decide) ?_
          refine lv_istore (lv' := [(4, .int 0), (0, .ref (gad z a)), (1, .int u1), (2, .int u2), (3, .int w3)]) hx hb dX7_firstOf_38 hl (by decide) rfl (fun ls hl => ?_)
          refine lv_iload hx hb dX7_firstOf_40 (lv_at hl 0 rfl) ?_
          refine lv_if_ne (tgt := 55) hx hb dX7_firstOf_42 (by decide) (fun q8 => ?_) (fun q8 => ?_)
          · have h := ite_n h q8
            refine lv_iload_n hx hb dX7_firstOf_55 rfl (lv_at hl 4 rfl) ?_
            obtain rfl := Option.some.inj h
            exact g_iret X hr hlk hG hS dX7_firstOf_56
          · have h := ite_y h q8
            refine lv_aload_n hx hb dX7_firstOf_45 rfl (lv_at hl 1 rfl) ?_
            refine lv_iload_n hx hb dX7_firstOf_46 rfl (lv_at hl 2 rfl) ?_
            refine lv_iload_n hx hb dX7_firstOf_47 rfl (lv_at hl 4 rfl) ?_
            refine lv_iload_n hx hb dX7_firstOf_48 rfl (lv_at hl 3 rfl) ?_
            obtain ⟨r9, hcr9, h⟩ := bd_y h
            refine g_cVI (a := a) (ci := 7) (T := TX7) (N := 37) (av := [.int u1, .int w3, .int u2]) (rest := []) X hG hS (ct_X7_would l z k_a n_a hcr9) mt_X7_would ml_X7_245 rfl ⟨rfl, rfl, Nat.le_of_ble_eq_true rfl, Nat.le_of_ble_eq_true rfl⟩ ⟨Nat.le_refl 0, Nat.le_refl 0⟩ (nx_0 n_a) k_a (by decide) rfl hl.1 (Nat.le_of_ble_eq_true rfl) rfl dX7_firstOf_49 (fun H locs hG hS => ?_)
            refine lv_if_eq (tgt := 57) hx hb dX7_firstOf_52 (by decide) (fun q10 => ?_) (fun q10 => ?_)
            · have h := ite_y h q10
              refine lv_iinc (v := (w3 + 1)) (lv' := [(3, .int (w3 + 1)), (4, .int 0), (0, .ref (gad z a)), (1, .int u1), (2, .int u2)]) hx hb dX7_firstOf_57 hl (k := 4) rfl rfl (by decide) rfl (fun ls hl => ?_)
              refine lv_goto (tgt := 2) hx hb dX7_firstOf_60 (by decide) ?_
              exact ih (w3 + 1) _ _ _ h hG hS (lv_sub hl [2, 3, 4, 0] rfl)
            · have h := ite_n h q10
              refine lv_iload_n hx hb dX7_firstOf_55 rfl (lv_at hl 4 rfl) ?_
              obtain rfl := Option.some.inj h
              exact g_iret X hr hlk hG hS dX7_firstOf_56
        · have h := ite_y h q7
          refine lv_iconst (v := 1) hx hb dX7_firstOf_33 (by decide) ?_
          refine lv_goto (tgt := 38) hx hb dX7_firstOf_34 (by decide) ?_
          refine lv_istore (lv' := [(4, .int 1), (0, .ref (gad z a)), (1, .int u1), (2, .int u2), (3, .int w3)]) hx hb dX7_firstOf_38 hl (by decide) rfl (fun ls hl => ?_)
          refine lv_iload hx hb dX7_firstOf_40 (lv_at hl 0 rfl) ?_
          refine lv_if_ne (tgt := 55) hx hb dX7_firstOf_42 (by decide) (fun q11 => ?_) (fun q11 => ?_)
          · have h := ite_n h q11
            refine lv_iload_n hx hb dX7_firstOf_55 rfl (lv_at hl 4 rfl) ?_
            obtain rfl := Option.some.inj h
            exact g_iret X hr hlk hG hS dX7_firstOf_56
          · have h := ite_y h q11
            refine lv_aload_n hx hb dX7_firstOf_45 rfl (lv_at hl 1 rfl) ?_
            refine lv_iload_n hx hb dX7_firstOf_46 rfl (lv_at hl 2 rfl) ?_
            refine lv_iload_n hx hb dX7_firstOf_47 rfl (lv_at hl 4 rfl) ?_
            refine lv_iload_n hx hb dX7_firstOf_48 rfl (lv_at hl 3 rfl) ?_
            obtain ⟨r12, hcr12, h⟩ := bd_y h
            refine g_cVI (a := a) (ci := 7) (T := TX7) (N := 37) (av := [.int u1, .int w3, .int u2]) (rest := []) X hG hS (ct_X7_would l z k_a n_a hcr12) mt_X7_would ml_X7_245 rfl ⟨rfl, rfl, Nat.le_of_ble_eq_true rfl, Nat.le_of_ble_eq_true rfl⟩ ⟨Nat.le_refl 0, Nat.le_refl 0⟩ (nx_0 n_a) k_a (by decide) rfl hl.1 (Nat.le_of_ble_eq_true rfl) rfl dX7_firstOf_49 (fun H locs hG hS => ?_)
            refine lv_if_eq (tgt := 57) hx hb dX7_firstOf_52 (by decide) (fun q13 => ?_) (fun q13 => ?_)
            · have h := ite_y h q13
              refine lv_iinc (v := (w3 + 1)) (lv' := [(3, .int (w3 + 1)), (4, .int 1), (0, .ref (gad z a)), (1, .int u1), (2, .int u2)]) hx hb dX7_firstOf_57 hl (k := 4) rfl rfl (by decide) rfl (fun ls hl => ?_)
              refine lv_goto (tgt := 2) hx hb dX7_firstOf_60 (by decide) ?_
              exact ih (w3 + 1) _ _ _ h hG hS (lv_sub hl [2, 3, 4, 0] rfl)
            · have h := ite_n h q13
              refine lv_iload_n hx hb dX7_firstOf_55 rfl (lv_at hl 4 rfl) ?_
              obtain rfl := Option.some.inj h
              exact g_iret X hr hlk hG hS dX7_firstOf_56
set_option maxRecDepth 100000 in
set_option maxHeartbeats 4000000 in
theorem ct_X7_firstOf (l : Launch) (z : gZ) {N : Nat} {M : Mem} {a : Nat} {v1 : Int32} {v2 : Int32} {o : Int32} (k_a : kd a = 7) (n_a : a + 59 ≤ gn z) (h : fX7_firstOf N M a v1 v2 = some o) : CtI l z yX7_firstOf cX7_firstOf 5 (some .int) { frames := 3, cells := 0, slots := 0, locals := 72 } [.ref (gad z a), .int v1, .int v2] M o M := by
  refine Ct_of rfl (Nat.le_of_ble_eq_true rfl) ?_
  intro p e s m below meth c ls X hr hlk hG hS hl
  have X : gX p m c _ _ s _ RX7 z := X
  have hl : lv_has ls 5 [(0, .ref (gad z a)), (1, .int v1), (2, .int v2)] := hl
  have hx := X.1
  have hb := X.2.1
  unfold fX7_firstOf at h
  refine lv_iconst (v := 0) hx hb dX7_firstOf_0 (by decide) ?_
  refine lv_istore_n (lv' := [(3, .int 0), (0, .ref (gad z a)), (1, .int v1), (2, .int v2)]) hx hb dX7_firstOf_1 rfl hl (by decide) rfl (fun ls hl => ?_)
  refine wX7_firstOf_2 X hr hlk k_a n_a _ _ _ _ _ h hG hS (lv_sub hl [1, 2, 3, 0] rfl)
set_option maxRecDepth 100000 in
set_option maxHeartbeats 4000000 in
theorem ct_X7_gain (l : Launch) (z : gZ) {N : Nat} {M : Mem} {a : Nat} {v1 : Int32} {v2 : Int32} {v3 : Int32} {o : Int32 × Mem} (k_a : kd a = 7) (n_a : a + 59 ≤ gn z) (h : fX7_gain N M a v1 v2 v3 = some o) : CtI l z yX7_gain cX7_gain 4 (some .int) { frames := 3, cells := 0, slots := 0, locals := 69 } [.ref (gad z a), .int v1, .int v2, .int v3] M o.1 o.2 := by
  refine Ct_of rfl (Nat.le_of_ble_eq_true rfl) ?_
  intro p e s m below meth c ls X hr hlk hG hS hl
  have X : gX p m c _ _ s _ RX7 z := X
  have hl : lv_has ls 4 [(0, .ref (gad z a)), (1, .int v1), (2, .int v2), (3, .int v3)] := hl
  have hx := X.1
  have hb := X.2.1
  unfold fX7_gain at h
  refine lv_aload_n hx hb dX7_gain_0 rfl (lv_at hl 0 rfl) ?_
  refine lv_iload_n hx hb dX7_gain_1 rfl (lv_at hl 1 rfl) ?_
  refine lv_iload_n hx hb dX7_gain_2 rfl (lv_at hl 2 rfl) ?_
  obtain ⟨r1, hcr1, h⟩ := bd_y h
  refine g_cVI (a := a) (ci := 7) (T := TX7) (N := 37) (av := [.int v1, .int v2]) (rest := []) X hG hS (ct_X7_isPerson l z k_a n_a hcr1) mt_X7_isPerson ml_X7_230 rfl ⟨rfl, rfl, Nat.le_of_ble_eq_true rfl, Nat.le_of_ble_eq_true rfl⟩ ⟨Nat.le_refl 0, Nat.le_refl 0⟩ (nx_0 n_a) k_a (by decide) rfl hl.1 (Nat.le_of_ble_eq_true rfl) rfl dX7_gain_3 (fun H locs hG hS => ?_)
  refine lv_if_eq (tgt := 19) hx hb dX7_gain_6 (by decide) (fun q2 => ?_) (fun q2 => ?_)
  · have h := ite_y h q2
    refine lv_ldc (v := (-1000000)) hx hb X.2.2.2.1 (X.2.2.2.2.1 _ cn_X7_249) dX7_gain_19 ?_
    refine lv_aload_n hx hb dX7_gain_21 rfl (lv_at hl 0 rfl) ?_
    refine lv_bipush (v := (-2)) hx hb dX7_gain_22 (by decide) ?_
    obtain ⟨r3, hcr3, h⟩ := bd_y h
    refine g_cVI (a := a) (ci := 7) (T := TX7) (N := 37) (av := [.int (-2)]) (rest := [.int (-1000000)]) X hG hS (ct_X7_refuse l z k_a n_a hcr3) mt_X7_refuse ml_X7_106 rfl ⟨rfl, rfl, Nat.le_of_ble_eq_true rfl, Nat.le_of_ble_eq_true rfl⟩ ⟨Nat.le_refl 0, Nat.le_refl 0⟩ (nx_0 n_a) k_a (by decide) rfl hl.1 (Nat.le_of_ble_eq_true rfl) rfl dX7_gain_24 (fun H locs hG hS => ?_)
    refine lv_iadd hx hb dX7_gain_27 ?_
    obtain rfl := Option.some.inj h
    exact g_iret X hr hlk hG hS dX7_gain_28
  · have h := ite_n h q2
    refine lv_aload_n hx hb dX7_gain_9 rfl (lv_at hl 0 rfl) ?_
    refine lv_iload_n hx hb dX7_gain_10 rfl (lv_at hl 1 rfl) ?_
    refine lv_iload_n hx hb dX7_gain_11 rfl (lv_at hl 3 rfl) ?_
    refine lv_i2l hx hb dX7_gain_12 rfl ?_
    obtain ⟨r4, hcr4, h⟩ := bd_y h
    refine g_cVI (a := a) (ci := 7) (T := TX7) (N := 37) (av := [.int v1, .long ((v3 : Int32).toInt64)]) (rest := []) X hG hS (ct_X7_isSet l z k_a n_a hcr4) mt_X7_isSet ml_X7_237 rfl ⟨rfl, rfl, Nat.le_of_ble_eq_true rfl, Nat.le_of_ble_eq_true rfl⟩ ⟨Nat.le_refl 0, Nat.le_refl 0⟩ (nx_0 n_a) k_a (by decide) rfl hl.1 (Nat.le_of_ble_eq_true rfl) rfl dX7_gain_13 (fun H locs hG hS => ?_)
    refine lv_if_ne (tgt := 29) hx hb dX7_gain_16 (by decide) (fun q5 => ?_) (fun q5 => ?_)
    · have h := ite_n h q5
      refine lv_aload_n hx hb dX7_gain_29 rfl (lv_at hl 0 rfl) ?_
      refine lv_iload_n hx hb dX7_gain_30 rfl (lv_at hl 1 rfl) ?_
      refine lv_iload_n hx hb dX7_gain_31 rfl (lv_at hl 2 rfl) ?_
      refine lv_iload_n hx hb dX7_gain_32 rfl (lv_at hl 3 rfl) ?_
      obtain ⟨r6, hcr6, h⟩ := bd_y h
      refine g_cVI (a := a) (ci := 7) (T := TX7) (N := 37) (av := [.int v1, .int v2, .int v3]) (rest := []) X hG hS (ct_X7_gainOf l z k_a n_a hcr6) mt_X7_gainOf ml_X7_241 rfl ⟨rfl, rfl, Nat.le_of_ble_eq_true rfl, Nat.le_of_ble_eq_true rfl⟩ ⟨Nat.le_refl 0, Nat.le_refl 0⟩ (nx_0 n_a) k_a (by decide) rfl hl.1 (Nat.le_of_ble_eq_true rfl) rfl dX7_gain_33 (fun H locs hG hS => ?_)
      obtain rfl := Option.some.inj h
      exact g_iret X hr hlk hG hS dX7_gain_36
    · have h := ite_y h q5
      refine lv_ldc (v := (-1000000)) hx hb X.2.2.2.1 (X.2.2.2.2.1 _ cn_X7_249) dX7_gain_19 ?_
      refine lv_aload_n hx hb dX7_gain_21 rfl (lv_at hl 0 rfl) ?_
      refine lv_bipush (v := (-2)) hx hb dX7_gain_22 (by decide) ?_
      obtain ⟨r7, hcr7, h⟩ := bd_y h
      refine g_cVI (a := a) (ci := 7) (T := TX7) (N := 37) (av := [.int (-2)]) (rest := [.int (-1000000)]) X hG hS (ct_X7_refuse l z k_a n_a hcr7) mt_X7_refuse ml_X7_106 rfl ⟨rfl, rfl, Nat.le_of_ble_eq_true rfl, Nat.le_of_ble_eq_true rfl⟩ ⟨Nat.le_refl 0, Nat.le_refl 0⟩ (nx_0 n_a) k_a (by decide) rfl hl.1 (Nat.le_of_ble_eq_true rfl) rfl dX7_gain_24 (fun H locs hG hS => ?_)
      refine lv_iadd hx hb dX7_gain_27 ?_
      obtain rfl := Option.some.inj h
      exact g_iret X hr hlk hG hS dX7_gain_28
set_option maxRecDepth 100000 in
set_option maxHeartbeats 4000000 in
theorem ct_X7_total (l : Launch) (z : gZ) {N : Nat} {M : Mem} {a : Nat} {v1 : Int32} {v2 : Int32} {o : Int32 × Mem} (k_a : kd a = 7) (n_a : a + 59 ≤ gn z) (h : fX7_total N M a v1 v2 = some o) : CtI l z yX7_total cX7_total 3 (some .int) { frames := 3, cells := 0, slots := 0, locals := 73 } [.ref (gad z a), .int v1, .int v2] M o.1 o.2 := by
  refine Ct_of rfl (Nat.le_of_ble_eq_true rfl) ?_
  intro p e s m below meth c ls X hr hlk hG hS hl
  have X : gX p m c _ _ s _ RX7 z := X
  have hl : lv_has ls 3 [(0, .ref (gad z a)), (1, .int v1), (2, .int v2)] := hl
  have hx := X.1
  have hb := X.2.1
  unfold fX7_total at h
  refine lv_aload_n hx hb dX7_total_0 rfl (lv_at hl 0 rfl) ?_
  refine lv_iload_n hx hb dX7_total_1 rfl (lv_at hl 1 rfl) ?_
  refine lv_iload_n hx hb dX7_total_2 rfl (lv_at hl 2 rfl) ?_
  refine lv_i2l hx hb dX7_total_3 rfl ?_
  obtain ⟨r1, hcr1, h⟩ := bd_y h
  refine g_cVI (a := a) (ci := 7) (T := TX7) (N := 37) (av := [.int v1, .long ((v2 : Int32).toInt64)]) (rest := []) X hG hS (ct_X7_isSet l z k_a n_a hcr1) mt_X7_isSet ml_X7_237 rfl ⟨rfl, rfl, Nat.le_of_ble_eq_true rfl, Nat.le_of_ble_eq_true rfl⟩ ⟨Nat.le_refl 0, Nat.le_refl 0⟩ (nx_0 n_a) k_a (by decide) rfl hl.1 (Nat.le_of_ble_eq_true rfl) rfl dX7_total_4 (fun H locs hG hS => ?_)
  refine lv_if_eq (tgt := 19) hx hb dX7_total_7 (by decide) (fun q2 => ?_) (fun q2 => ?_)
  · have h := ite_y h q2
    refine lv_ldc (v := (-1000000)) hx hb X.2.2.2.1 (X.2.2.2.2.1 _ cn_X7_249) dX7_total_19 ?_
    refine lv_aload_n hx hb dX7_total_21 rfl (lv_at hl 0 rfl) ?_
    refine lv_bipush (v := (-2)) hx hb dX7_total_22 (by decide) ?_
    obtain ⟨r3, hcr3, h⟩ := bd_y h
    refine g_cVI (a := a) (ci := 7) (T := TX7) (N := 37) (av := [.int (-2)]) (rest := [.int (-1000000)]) X hG hS (ct_X7_refuse l z k_a n_a hcr3) mt_X7_refuse ml_X7_106 rfl ⟨rfl, rfl, Nat.le_of_ble_eq_true rfl, Nat.le_of_ble_eq_true rfl⟩ ⟨Nat.le_refl 0, Nat.le_refl 0⟩ (nx_0 n_a) k_a (by decide) rfl hl.1 (Nat.le_of_ble_eq_true rfl) rfl dX7_total_24 (fun H locs hG hS => ?_)
    refine lv_iadd hx hb dX7_total_27 ?_
    obtain rfl := Option.some.inj h
    exact g_iret X hr hlk hG hS dX7_total_28
  · have h := ite_n h q2
    refine lv_aload_n hx hb dX7_total_10 rfl (lv_at hl 0 rfl) ?_
    refine lv_iload_n hx hb dX7_total_11 rfl (lv_at hl 1 rfl) ?_
    refine lv_iload_n hx hb dX7_total_12 rfl (lv_at hl 2 rfl) ?_
    obtain ⟨r4, hcr4, h⟩ := bd_y h
    refine g_cVI (a := a) (ci := 7) (T := TX7) (N := 37) (av := [.int v1, .int v2]) (rest := []) X hG hS (ct_X7_goodOf l z k_a n_a hcr4) mt_X7_goodOf ml_X7_250 rfl ⟨rfl, rfl, Nat.le_of_ble_eq_true rfl, Nat.le_of_ble_eq_true rfl⟩ ⟨Nat.le_refl 0, Nat.le_refl 0⟩ (nx_0 n_a) k_a (by decide) rfl hl.1 (Nat.le_of_ble_eq_true rfl) rfl dX7_total_13 (fun H locs hG hS => ?_)
    refine lv_goto (tgt := 28) hx hb dX7_total_16 (by decide) ?_
    obtain rfl := Option.some.inj h
    exact g_iret X hr hlk hG hS dX7_total_28
set_option maxRecDepth 100000 in
set_option maxHeartbeats 4000000 in
theorem ct_X7_judge (l : Launch) (z : gZ) {N : Nat} {M : Mem} {a : Nat} {v1 : Int32} {v2 : Int32} {o : Int32 × Mem} (k_a : kd a = 7) (n_a : a + 59 ≤ gn z) (h : fX7_judge N M a v1 v2 = some o) : CtI l z yX7_judge cX7_judge 3 (some .int) { frames := 4, cells := 0, slots := 0, locals := 96 } [.ref (gad z a), .int v1, .int v2] M o.1 o.2 := by
  refine Ct_of rfl (Nat.le_of_ble_eq_true rfl) ?_
  intro p e s m below meth c ls X hr hlk hG hS hl
  have X : gX p m c _ _ s _ RX7 z := X
  have hl : lv_has ls 3 [(0, .ref (gad z a)), (1, .int v1), (2, .int v2)] := hl
  have hx := X.1
  have hb := X.2.1
  unfold fX7_judge at h
  refine lv_aload_n hx hb dX7_judge_0 rfl (lv_at hl 0 rfl) ?_
  refine lv_iload_n hx hb dX7_judge_1 rfl (lv_at hl 1 rfl) ?_
  refine lv_iload_n hx hb dX7_judge_2 rfl (lv_at hl 2 rfl) ?_
  refine lv_i2l hx hb dX7_judge_3 rfl ?_
  obtain ⟨r1, hcr1, h⟩ := bd_y h
  refine g_cVI (a := a) (ci := 7) (T := TX7) (N := 37) (av := [.int v1, .long ((v2 : Int32).toInt64)]) (rest := []) X hG hS (ct_X7_isSet l z k_a n_a hcr1) mt_X7_isSet ml_X7_237 rfl ⟨rfl, rfl, Nat.le_of_ble_eq_true rfl, Nat.le_of_ble_eq_true rfl⟩ ⟨Nat.le_refl 0, Nat.le_refl 0⟩ (nx_0 n_a) k_a (by decide) rfl hl.1 (Nat.le_of_ble_eq_true rfl) rfl dX7_judge_4 (fun H locs hG hS => ?_)
  refine lv_if_eq (tgt := 19) hx hb dX7_judge_7 (by decide) (fun q2 => ?_) (fun q2 => ?_)
  · have h := ite_y h q2
    refine lv_aload_n hx hb dX7_judge_19 rfl (lv_at hl 0 rfl) ?_
    refine lv_bipush (v := (-2)) hx hb dX7_judge_20 (by decide) ?_
    obtain ⟨r3, hcr3, h⟩ := bd_y h
    refine g_cVI (a := a) (ci := 7) (T := TX7) (N := 37) (av := [.int (-2)]) (rest := []) X hG hS (ct_X7_refuse l z k_a n_a hcr3) mt_X7_refuse ml_X7_106 rfl ⟨rfl, rfl, Nat.le_of_ble_eq_true rfl, Nat.le_of_ble_eq_true rfl⟩ ⟨Nat.le_refl 0, Nat.le_refl 0⟩ (nx_0 n_a) k_a (by decide) rfl hl.1 (Nat.le_of_ble_eq_true rfl) rfl dX7_judge_22 (fun H locs hG hS => ?_)
    obtain rfl := Option.some.inj h
    exact g_iret X hr hlk hG hS dX7_judge_25
  · have h := ite_n h q2
    refine lv_aload_n hx hb dX7_judge_10 rfl (lv_at hl 0 rfl) ?_
    refine lv_iload_n hx hb dX7_judge_11 rfl (lv_at hl 1 rfl) ?_
    refine lv_iload_n hx hb dX7_judge_12 rfl (lv_at hl 2 rfl) ?_
    obtain ⟨r4, hcr4, h⟩ := bd_y h
    refine g_cVI (a := a) (ci := 7) (T := TX7) (N := 37) (av := [.int v1, .int v2]) (rest := []) X hG hS (ct_X7_firstOf l z k_a n_a hcr4) mt_X7_firstOf ml_X7_253 rfl ⟨rfl, rfl, Nat.le_of_ble_eq_true rfl, Nat.le_of_ble_eq_true rfl⟩ ⟨Nat.le_refl 0, Nat.le_refl 0⟩ (nx_0 n_a) k_a (by decide) rfl hl.1 (Nat.le_of_ble_eq_true rfl) rfl dX7_judge_13 (fun H locs hG hS => ?_)
    refine lv_goto (tgt := 25) hx hb dX7_judge_16 (by decide) ?_
    obtain rfl := Option.some.inj h
    exact g_iret X hr hlk hG hS dX7_judge_25
set_option maxRecDepth 100000 in
set_option maxHeartbeats 4000000 in
theorem ct_X7_isRest (l : Launch) (z : gZ) {N : Nat} {M : Mem} {a : Nat} {v1 : Int32} {v2 : Int32} {o : Int32} (k_a : kd a = 7) (n_a : a + 59 ≤ gn z) (h : fX7_isRest N M a v1 v2 = some o) : CtI l z yX7_isRest cX7_isRest 3 (some .boolean) { frames := 4, cells := 0, slots := 0, locals := 96 } [.ref (gad z a), .int v1, .int v2] M o M := by
  refine Ct_of rfl (Nat.le_of_ble_eq_true rfl) ?_
  intro p e s m below meth c ls X hr hlk hG hS hl
  have X : gX p m c _ _ s _ RX7 z := X
  have hl : lv_has ls 3 [(0, .ref (gad z a)), (1, .int v1), (2, .int v2)] := hl
  have hx := X.1
  have hb := X.2.1
  unfold fX7_isRest at h
  refine lv_aload_n hx hb dX7_isRest_0 rfl (lv_at hl 0 rfl) ?_
  refine lv_iload_n hx hb dX7_isRest_1 rfl (lv_at hl 1 rfl) ?_
  refine lv_iload_n hx hb dX7_isRest_2 rfl (lv_at hl 2 rfl) ?_
  obtain ⟨r1, hcr1, h⟩ := bd_y h
  refine g_cVI (a := a) (ci := 7) (T := TX7) (N := 37) (av := [.int v1, .int v2]) (rest := []) X hG hS (ct_X7_firstOf l z k_a n_a hcr1) mt_X7_firstOf ml_X7_253 rfl ⟨rfl, rfl, Nat.le_of_ble_eq_true rfl, Nat.le_of_ble_eq_true rfl⟩ ⟨Nat.le_refl 0, Nat.le_refl 0⟩ (nx_0 n_a) k_a (by decide) rfl hl.1 (Nat.le_of_ble_eq_true rfl) rfl dX7_isRest_3 (fun H locs hG hS => ?_)
  refine lv_iconst (v := (-1)) hx hb dX7_isRest_6 (by decide) ?_
  refine lv_icmp_ne (tgt := 14) hx hb dX7_isRest_7 (by decide) (fun q2 => ?_) (fun q2 => ?_)
  · have h := ite_n h q2
    refine lv_iconst (v := 0) hx hb dX7_isRest_14 (by decide) ?_
    obtain rfl := Option.some.inj h
    exact g_zret (zn (Or.inl rfl)) X hr hlk hG hS dX7_isRest_15
  · have h := ite_y h q2
    refine lv_iconst (v := 1) hx hb dX7_isRest_10 (by decide) ?_
    refine lv_goto (tgt := 15) hx hb dX7_isRest_11 (by decide) ?_
    obtain rfl := Option.some.inj h
    exact g_zret (zn (Or.inr rfl)) X hr hlk hG hS dX7_isRest_15
set_option maxRecDepth 100000 in
set_option maxHeartbeats 4000000 in
theorem wX7_countRests_4 {N : Nat} {p : Program} {l : Launch} {e : Env} {s : State} {m : MethodId} {args : Array Value} {below : List Frame} {meth : Method} {c : Code} {z : gZ} {M : Mem} {a : Nat} {u1 : Int32} {o : Int32} (X : gX p m c cX7_countRests 4 s args RX7 z) (hr : meth.sig.returnType = (some .int)) (hlk : meth.locks = false) (k_a : kd a = 7) (n_a : a + 59 ≤ gn z)  : ∀ (n : Nat) (w2 : Int32) (w3 : Int32) (H : Heap) (locs : List Loc) (ls : Array Slot), fX7_countRests_4 N M a u1  n w2 w3 = some o → gW z M H → va_S (gA z) s.heap H locs → lv_has ls 4 [(0, .ref (gad z a)), (1, .int u1), (2, .int w2), (3, .int w3)] → W p l e { frames := 5, cells := 0, slots := 0, locals := 118 } s m args below meth c H locs 0 0 (MQ below (va_Qi (fun r' (_ : Unit) => r' = o) (fun _ t => gW z M t.heap) (gA z)) args s 0 0 (gA z)) (F0 m 4 ls []) := by
  have hx := X.1
  have hb := X.2.1
  intro n
  induction n with
  | zero => intro w2 w3 H locs ls h; cases h
  | succ n ih =>
    intro w2 w3 H locs ls h hG hS hl
    rw [fX7_countRests_4] at h
    refine lv_iload_n hx hb dX7_countRests_4 rfl (lv_at hl 3 rfl) ?_
    refine lv_aload_n hx hb dX7_countRests_5 rfl (lv_at hl 0 rfl) ?_
    refine lv_iload_n hx hb dX7_countRests_6 rfl (lv_at hl 1 rfl) ?_
    obtain ⟨r1, hcr1, h⟩ := bd_y h
    refine g_cVI (a := a) (ci := 7) (T := TX7) (N := 37) (av := [.int u1]) (rest := [.int w3]) X hG hS (ct_X7_all l z k_a n_a hcr1) mt_X7_all ml_X7_96 rfl ⟨rfl, rfl, Nat.le_of_ble_eq_true rfl, Nat.le_of_ble_eq_true rfl⟩ ⟨Nat.le_refl 0, Nat.le_refl 0⟩ (nx_0 n_a) k_a (by decide) rfl hl.1 (Nat.le_of_ble_eq_true rfl) rfl dX7_countRests_7 (fun H locs hG hS => ?_)
    refine lv_icmp_gt (tgt := 36) hx hb dX7_countRests_10 (by decide) (fun q2 => ?_) (fun q2 => ?_)
    · have h := ite_y h q2
      refine lv_iload_n hx hb dX7_countRests_36 rfl (lv_at hl 2 rfl) ?_
      obtain rfl := Option.some.inj h
      exact g_iret X hr hlk hG hS dX7_countRests_37
    · have h := ite_n h q2
      refine lv_iload_n hx hb dX7_countRests_13 rfl (lv_at hl 2 rfl) ?_
      refine lv_aload_n hx hb dX7_countRests_14 rfl (lv_at hl 0 rfl) ?_
      refine lv_iload_n hx hb dX7_countRests_15 rfl (lv_at hl 1 rfl) ?_
      refine lv_iload_n hx hb dX7_countRests_16 rfl (lv_at hl 3 rfl) ?_
      obtain ⟨r3, hcr3, h⟩ := bd_y h
      refine g_cVI (a := a) (ci := 7) (T := TX7) (N := 37) (av := [.int u1, .int w3]) (rest := [.int w2]) X hG hS (ct_X7_isRest l z k_a n_a hcr3) mt_X7_isRest ml_X7_256 rfl ⟨rfl, rfl, Nat.le_of_ble_eq_true rfl, Nat.le_of_ble_eq_true rfl⟩ ⟨Nat.le_refl 0, Nat.le_refl 0⟩ (nx_0 n_a) k_a (by decide) rfl hl.1 (Nat.le_of_ble_eq_true rfl) rfl dX7_countRests_17 (fun H locs hG hS => ?_)
      refine lv_if_eq (tgt := 27) hx hb dX7_countRests_20 (by decide) (fun q4 => ?_) (fun q4 => ?_)
      · have h := ite_y h q4
        refine lv_iconst (v := 0) hx hb dX7_countRests_27 (by decide) ?_
        refine lv_iadd hx hb dX7_countRests_28 ?_
        refine lv_topi (fun x5 ex5 => ?_)
        have h := nm_y h x5 ex5
        refine lv_istore_n (lv' := [(2, .int x5), (0, .ref (gad z a)), (1, .int u1), (3, .int w3)]) hx hb dX7_countRests_29 rfl hl (by decide) rfl (fun ls hl => ?_)
        refine lv_iinc (v := (w3 + 1)) (lv' := [(3, .int (w3 + 1)), (2, .int x5), (0, .ref (gad z a)), (1, .int u1)]) hx hb dX7_countRests_30 hl (k := 3) rfl rfl (by decide) rfl (fun ls hl => ?_)
        refine lv_goto (tgt := 4) hx hb dX7_countRests_33 (by decide) ?_
        exact ih x5 (w3 + 1) _ _ _ h hG hS (lv_sub hl [2, 3, 1, 0] rfl)
      · have h := ite_n h q4
        refine lv_iconst (v := 1) hx hb dX7_countRests_23 (by decide) ?_
        refine lv_goto (tgt := 28) hx hb dX7_countRests_24 (by decide) ?_
        refine lv_iadd hx hb dX7_countRests_28 ?_
        refine lv_topi (fun x6 ex6 => ?_)
        have h := nm_y h x6 ex6
        refine lv_istore_n (lv' := [(2, .int x6), (0, .ref (gad z a)), (1, .int u1), (3, .int w3)]) hx hb dX7_countRests_29 rfl hl (by decide) rfl (fun ls hl => ?_)
        refine lv_iinc (v := (w3 + 1)) (lv' := [(3, .int (w3 + 1)), (2, .int x6), (0, .ref (gad z a)), (1, .int u1)]) hx hb dX7_countRests_30 hl (k := 3) rfl rfl (by decide) rfl (fun ls hl => ?_)
        refine lv_goto (tgt := 4) hx hb dX7_countRests_33 (by decide) ?_
        exact ih x6 (w3 + 1) _ _ _ h hG hS (lv_sub hl [2, 3, 1, 0] rfl)
set_option maxRecDepth 100000 in
set_option maxHeartbeats 4000000 in
theorem ct_X7_countRests (l : Launch) (z : gZ) {N : Nat} {M : Mem} {a : Nat} {v1 : Int32} {o : Int32} (k_a : kd a = 7) (n_a : a + 59 ≤ gn z) (h : fX7_countRests N M a v1 = some o) : CtI l z yX7_countRests cX7_countRests 4 (some .int) { frames := 5, cells := 0, slots := 0, locals := 118 } [.ref (gad z a), .int v1] M o M := by
  refine Ct_of rfl (Nat.le_of_ble_eq_true rfl) ?_
  intro p e s m below meth c ls X hr hlk hG hS hl
  have X : gX p m c _ _ s _ RX7 z := X
  have hl : lv_has ls 4 [(0, .ref (gad z a)), (1, .int v1)] := hl
  have hx := X.1
  have hb := X.2.1
  unfold fX7_countRests at h
  refine lv_iconst (v := 0) hx hb dX7_countRests_0 (by decide) ?_
  refine lv_istore_n (lv' := [(2, .int 0), (0, .ref (gad z a)), (1, .int v1)]) hx hb dX7_countRests_1 rfl hl (by decide) rfl (fun ls hl => ?_)
  refine lv_iconst (v := 0) hx hb dX7_countRests_2 (by decide) ?_
  refine lv_istore_n (lv' := [(3, .int 0), (2, .int 0), (0, .ref (gad z a)), (1, .int v1)]) hx hb dX7_countRests_3 rfl hl (by decide) rfl (fun ls hl => ?_)
  refine wX7_countRests_4 X hr hlk k_a n_a _ _ _ _ _ _ h hG hS (lv_sub hl [2, 3, 1, 0] rfl)
set_option maxRecDepth 100000 in
set_option maxHeartbeats 4000000 in
theorem ct_X7_count (l : Launch) (z : gZ) {N : Nat} {M : Mem} {a : Nat} {v1 : Int32} {o : Int32 × Mem} (k_a : kd a = 7) (n_a : a + 59 ≤ gn z) (h : fX7_count N M a v1 = some o) : CtI l z yX7_count cX7_count 2 (some .int) { frames := 6, cells := 0, slots := 0, locals := 141 } [.ref (gad z a), .int v1] M o.1 o.2 := by
  refine Ct_of rfl (Nat.le_of_ble_eq_true rfl) ?_
  intro p e s m below meth c ls X hr hlk hG hS hl
  have X : gX p m c _ _ s _ RX7 z := X
  have hl : lv_has ls 2 [(0, .ref (gad z a)), (1, .int v1)] := hl
  have hx := X.1
  have hb := X.2.1
  unfold fX7_count at h
  refine lv_aload_n hx hb dX7_count_0 rfl (lv_at hl 0 rfl) ?_
  refine lv_iload_n hx hb dX7_count_1 rfl (lv_at hl 1 rfl) ?_
  obtain ⟨r1, hcr1, h⟩ := bd_y h
  refine g_cVI (a := a) (ci := 7) (T := TX7) (N := 37) (av := [.int v1]) (rest := []) X hG hS (ct_X7_isStreet l z k_a n_a hcr1) mt_X7_isStreet ml_X7_92 rfl ⟨rfl, rfl, Nat.le_of_ble_eq_true rfl, Nat.le_of_ble_eq_true rfl⟩ ⟨Nat.le_refl 0, Nat.le_refl 0⟩ (nx_0 n_a) k_a (by decide) rfl hl.1 (Nat.le_of_ble_eq_true rfl) rfl dX7_count_2 (fun H locs hG hS => ?_)
  refine lv_if_eq (tgt := 16) hx hb dX7_count_5 (by decide) (fun q2 => ?_) (fun q2 => ?_)
  · have h := ite_y h q2
    refine lv_aload_n hx hb dX7_count_16 rfl (lv_at hl 0 rfl) ?_
    refine lv_bipush (v := (-2)) hx hb dX7_count_17 (by decide) ?_
    obtain ⟨r3, hcr3, h⟩ := bd_y h
    refine g_cVI (a := a) (ci := 7) (T := TX7) (N := 37) (av := [.int (-2)]) (rest := []) X hG hS (ct_X7_refuse l z k_a n_a hcr3) mt_X7_refuse ml_X7_106 rfl ⟨rfl, rfl, Nat.le_of_ble_eq_true rfl, Nat.le_of_ble_eq_true rfl⟩ ⟨Nat.le_refl 0, Nat.le_refl 0⟩ (nx_0 n_a) k_a (by decide) rfl hl.1 (Nat.le_of_ble_eq_true rfl) rfl dX7_count_19 (fun H locs hG hS => ?_)
    obtain rfl := Option.some.inj h
    exact g_iret X hr hlk hG hS dX7_count_22
  · have h := ite_n h q2
    refine lv_aload_n hx hb dX7_count_8 rfl (lv_at hl 0 rfl) ?_
    refine lv_iload_n hx hb dX7_count_9 rfl (lv_at hl 1 rfl) ?_
    obtain ⟨r4, hcr4, h⟩ := bd_y h
    refine g_cVI (a := a) (ci := 7) (T := TX7) (N := 37) (av := [.int v1]) (rest := []) X hG hS (ct_X7_countRests l z k_a n_a hcr4) mt_X7_countRests ml_X7_259 rfl ⟨rfl, rfl, Nat.le_of_ble_eq_true rfl, Nat.le_of_ble_eq_true rfl⟩ ⟨Nat.le_refl 0, Nat.le_refl 0⟩ (nx_0 n_a) k_a (by decide) rfl hl.1 (Nat.le_of_ble_eq_true rfl) rfl dX7_count_10 (fun H locs hG hS => ?_)
    refine lv_goto (tgt := 22) hx hb dX7_count_13 (by decide) ?_
    obtain rfl := Option.some.inj h
    exact g_iret X hr hlk hG hS dX7_count_22
set_option maxRecDepth 100000 in
set_option maxHeartbeats 4000000 in
theorem wX7_costOf_5 {N : Nat} {p : Program} {l : Launch} {e : Env} {s : State} {m : MethodId} {args : Array Value} {below : List Frame} {meth : Method} {c : Code} {z : gZ} {M : Mem} {a : Nat} {u1 : Int32} {u2 : Int32} {o : Int32} (X : gX p m c cX7_costOf 5 s args RX7 z) (hr : meth.sig.returnType = (some .int)) (hlk : meth.locks = false) (k_a : kd a = 7) (n_a : a + 59 ≤ gn z)  : ∀ (n : Nat) (w3 : Int32) (w4 : Int32) (H : Heap) (locs : List Loc) (ls : Array Slot), fX7_costOf_5 N M a u1 u2  n w3 w4 = some o → gW z M H → va_S (gA z) s.heap H locs → lv_has ls 5 [(0, .ref (gad z a)), (1, .int u1), (2, .int u2), (3, .int w3), (4, .int w4)] → W p l e { frames := 0, cells := 0, slots := 0, locals := 0 } s m args below meth c H locs 0 0 (MQ below (va_Qi (fun r' (_ : Unit) => r' = o) (fun _ t => gW z M t.heap) (gA z)) args s 0 0 (gA z)) (F0 m 5 ls []) := by
  have hx := X.1
  have hb := X.2.1
  intro n
  induction n with
  | zero => intro w3 w4 H locs ls h; cases h
  | succ n ih =>
    intro w3 w4 H locs ls h hG hS hl
    rw [fX7_costOf_5] at h
    refine lv_iload hx hb dX7_costOf_5 (lv_at hl 4 rfl) ?_
    refine lv_aload_n hx hb dX7_costOf_7 rfl (lv_at hl 0 rfl) ?_
    refine gf_X7_11 X hG (nx_0 n_a) k_a fl_X7_40 dX7_costOf_8 ?_
    refine lv_iload_n hx hb dX7_costOf_11 rfl (lv_at hl 1 rfl) ?_
    obtain ⟨i1, h⟩ := gd_y h
    refine g_iald X hG (nx_a (a := a) (k := 18) (n := 59) n_a (Nat.le_of_ble_eq_true rfl)) (kx_7_18 k_a) (by decide) i1 dX7_costOf_12 ?_
    refine lv_icmp_ge (tgt := 47) hx hb dX7_costOf_13 (by decide) (fun q2 => ?_) (fun q2 => ?_)
    · have h := ite_y h q2
      refine lv_iload_n hx hb dX7_costOf_47 rfl (lv_at hl 3 rfl) ?_
      obtain rfl := Option.some.inj h
      exact g_iret X hr hlk hG hS dX7_costOf_48
    · have h := ite_n h q2
      refine lv_iload_n hx hb dX7_costOf_16 rfl (lv_at hl 3 rfl) ?_
      refine lv_iload_n hx hb dX7_costOf_17 rfl (lv_at hl 2 rfl) ?_
      refine lv_iload hx hb dX7_costOf_18 (lv_at hl 4 rfl) ?_
      refine lv_ishr hx hb dX7_costOf_20 ?_
      refine lv_iconst (v := 1) hx hb dX7_costOf_21 (by decide) ?_
      refine lv_iand hx hb dX7_costOf_22 ?_
      refine lv_if_eq (tgt := 38) hx hb dX7_costOf_23 (by decide) (fun q3 => ?_) (fun q3 => ?_)
      · have h := ite_y h q3
        refine lv_iconst (v := 0) hx hb dX7_costOf_38 (by decide) ?_
        refine lv_iadd hx hb dX7_costOf_39 ?_
        refine lv_topi (fun x4 ex4 => ?_)
        have h := nm_y h x4 ex4
        refine lv_istore_n (lv' := [(3, .int x4), (0, .ref (gad z a)), (1, .int u1), (2, .int u2), (4, .int w4)]) hx hb dX7_costOf_40 rfl hl (by decide) rfl (fun ls hl => ?_)
        refine lv_iinc (v := (w4 + 1)) (lv' := [(4, .int (w4 + 1)), (3, .int x4), (0, .ref (gad z a)), (1, .int u1), (2, .int u2)]) hx hb dX7_costOf_41 hl (k := 4) rfl rfl (by decide) rfl (fun ls hl => ?_)
        refine lv_goto (tgt := 5) hx hb dX7_costOf_44 (by decide) ?_
        exact ih x4 (w4 + 1) _ _ _ h hG hS (lv_sub hl [2, 3, 4, 1, 0] rfl)
      · have h := ite_n h q3
        refine lv_aload_n hx hb dX7_costOf_26 rfl (lv_at hl 0 rfl) ?_
        refine gf_X7_14 X hG (nx_0 n_a) k_a fl_X7_51 dX7_costOf_27 ?_
        refine lv_iload_n hx hb dX7_costOf_30 rfl (lv_at hl 1 rfl) ?_
        refine g_aldII X hG (nx_a (a := a) (k := 21) (n := 59) n_a (Nat.le_of_ble_eq_true rfl)) (kx_7_21 k_a) (by decide) i1 dX7_costOf_31 ?_
        refine lv_iload hx hb dX7_costOf_32 (lv_at hl 4 rfl) ?_
        obtain ⟨i5, h⟩ := gd_y h
        refine g_iald X hG (nE n_a i1 (Nat.le_of_ble_eq_true rfl)) (ke_7_21 k_a i1) (by decide) i5 dX7_costOf_34 ?_
        refine lv_goto (tgt := 39) hx hb dX7_costOf_35 (by decide) ?_
        refine lv_iadd hx hb dX7_costOf_39 ?_
        refine lv_topi (fun x6 ex6 => ?_)
        have h := nm_y h x6 ex6
        refine lv_istore_n (lv' := [(3, .int x6), (0, .ref (gad z a)), (1, .int u1), (2, .int u2), (4, .int w4)]) hx hb dX7_costOf_40 rfl hl (by decide) rfl (fun ls hl => ?_)
        refine lv_iinc (v := (w4 + 1)) (lv' := [(4, .int (w4 + 1)), (3, .int x6), (0, .ref (gad z a)), (1, .int u1), (2, .int u2)]) hx hb dX7_costOf_41 hl (k := 4) rfl rfl (by decide) rfl (fun ls hl => ?_)
        refine lv_goto (tgt := 5) hx hb dX7_costOf_44 (by decide) ?_
        exact ih x6 (w4 + 1) _ _ _ h hG hS (lv_sub hl [2, 3, 4, 1, 0] rfl)
set_option maxRecDepth 100000 in
set_option maxHeartbeats 4000000 in
theorem ct_X7_costOf (l : Launch) (z : gZ) {N : Nat} {M : Mem} {a : Nat} {v1 : Int32} {v2 : Int32} {o : Int32} (k_a : kd a = 7) (n_a : a + 59 ≤ gn z) (h : fX7_costOf N M a v1 v2 = some o) : CtI l z yX7_costOf cX7_costOf 5 (some .int) { frames := 0, cells := 0, slots := 0, locals := 0 } [.ref (gad z a), .int v1, .int v2] M o M := by
  refine Ct_of rfl (Nat.le_of_ble_eq_true rfl) ?_
  intro p e s m below meth c ls X hr hlk hG hS hl
  have X : gX p m c _ _ s _ RX7 z := X
  have hl : lv_has ls 5 [(0, .ref (gad z a)), (1, .int v1), (2, .int v2)] := hl
  have hx := X.1
  have hb := X.2.1
  unfold fX7_costOf at h
  refine lv_iconst (v := 0) hx hb dX7_costOf_0 (by decide) ?_
  refine lv_istore_n (lv' := [(3, .int 0), (0, .ref (gad z a)), (1, .int v1), (2, .int v2)]) hx hb dX7_costOf_1 rfl hl (by decide) rfl (fun ls hl => ?_)
  refine lv_iconst (v := 0) hx hb dX7_costOf_2 (by decide) ?_
  refine lv_istore (lv' := [(4, .int 0), (3, .int 0), (0, .ref (gad z a)), (1, .int v1), (2, .int v2)]) hx hb dX7_costOf_3 hl (by decide) rfl (fun ls hl => ?_)
  refine wX7_costOf_5 X hr hlk k_a n_a _ _ _ _ _ _ h hG hS (lv_sub hl [2, 3, 4, 1, 0] rfl)
set_option maxRecDepth 100000 in
set_option maxHeartbeats 4000000 in
theorem ct_X7_worthOf (l : Launch) (z : gZ) {N : Nat} {M : Mem} {a : Nat} {v1 : Int32} {v2 : Int32} {v3 : Int32} {o : Int32} (k_a : kd a = 7) (n_a : a + 59 ≤ gn z) (h : fX7_worthOf N M a v1 v2 v3 = some o) : CtI l z yX7_worthOf cX7_worthOf 4 (some .int) { frames := 3, cells := 0, slots := 0, locals := 73 } [.ref (gad z a), .int v1, .int v2, .int v3] M o M := by
  refine Ct_of rfl (Nat.le_of_ble_eq_true rfl) ?_
  intro p e s m below meth c ls X hr hlk hG hS hl
  have X : gX p m c _ _ s _ RX7 z := X
  have hl : lv_has ls 4 [(0, .ref (gad z a)), (1, .int v1), (2, .int v2), (3, .int v3)] := hl
  have hx := X.1
  have hb := X.2.1
  unfold fX7_worthOf at h
  refine lv_iload_n hx hb dX7_worthOf_0 rfl (lv_at hl 3 rfl) ?_
  by_cases q1 : v3 = 0
  · have h := ite_y h q1
    refine lv_tableIn (tgt := 32) hx hb dX7_worthOf_1 (by rw [q1]; decide) (by rw [q1]; decide) (by rw [q1]; rfl) (by decide) ?_
    refine lv_iload_n hx hb dX7_worthOf_32 rfl (lv_at hl 2 rfl) ?_
    obtain ⟨r2, hcr2, h⟩ := bd_y h
    refine g_cSI (av := [.int v2]) (rest := []) X hG hS (ct_X7_bits l z  hcr2) mt_X7_bits ml_X7_223 rfl ⟨rfl, rfl, Nat.le_of_ble_eq_true rfl, Nat.le_of_ble_eq_true rfl⟩ ⟨Nat.le_refl 0, Nat.le_refl 0⟩ hl.1 (Nat.le_of_ble_eq_true rfl) rfl dX7_worthOf_33 (fun H locs hG hS => ?_)
    refine lv_ineg hx hb dX7_worthOf_36 ?_
    obtain rfl := Option.some.inj h
    exact g_iret X hr hlk hG hS dX7_worthOf_37
  · have h := ite_n h q1
    by_cases q3 : v3 = 1
    · have h := ite_y h q3
      refine lv_tableIn (tgt := 38) hx hb dX7_worthOf_1 (by rw [q3]; decide) (by rw [q3]; decide) (by rw [q3]; rfl) (by decide) ?_
      refine lv_iload_n hx hb dX7_worthOf_38 rfl (lv_at hl 2 rfl) ?_
      obtain ⟨r4, hcr4, h⟩ := bd_y h
      refine g_cSI (av := [.int v2]) (rest := []) X hG hS (ct_X7_bits l z  hcr4) mt_X7_bits ml_X7_223 rfl ⟨rfl, rfl, Nat.le_of_ble_eq_true rfl, Nat.le_of_ble_eq_true rfl⟩ ⟨Nat.le_refl 0, Nat.le_refl 0⟩ hl.1 (Nat.le_of_ble_eq_true rfl) rfl dX7_worthOf_39 (fun H locs hG hS => ?_)
      obtain rfl := Option.some.inj h
      exact g_iret X hr hlk hG hS dX7_worthOf_42
    · have h := ite_n h q3
      by_cases q5 : v3 = 2
      · have h := ite_y h q5
        refine lv_tableIn (tgt := 43) hx hb dX7_worthOf_1 (by rw [q5]; decide) (by rw [q5]; decide) (by rw [q5]; rfl) (by decide) ?_
        refine lv_aload_n hx hb dX7_worthOf_43 rfl (lv_at hl 0 rfl) ?_
        refine lv_iload_n hx hb dX7_worthOf_44 rfl (lv_at hl 1 rfl) ?_
        refine lv_iload_n hx hb dX7_worthOf_45 rfl (lv_at hl 2 rfl) ?_
        obtain ⟨r6, hcr6, h⟩ := bd_y h
        refine g_cVI (a := a) (ci := 7) (T := TX7) (N := 37) (av := [.int v1, .int v2]) (rest := []) X hG hS (ct_X7_costOf l z k_a n_a hcr6) mt_X7_costOf ml_X7_262 rfl ⟨rfl, rfl, Nat.le_of_ble_eq_true rfl, Nat.le_of_ble_eq_true rfl⟩ ⟨Nat.le_refl 0, Nat.le_refl 0⟩ (nx_0 n_a) k_a (by decide) rfl hl.1 (Nat.le_of_ble_eq_true rfl) rfl dX7_worthOf_46 (fun H locs hG hS => ?_)
        refine lv_ineg hx hb dX7_worthOf_49 ?_
        obtain rfl := Option.some.inj h
        exact g_iret X hr hlk hG hS dX7_worthOf_50
      · have h := ite_n h q5
        by_cases q7 : v3 = 3
        · have h := ite_y h q7
          refine lv_tableIn (tgt := 51) hx hb dX7_worthOf_1 (by rw [q7]; decide) (by rw [q7]; decide) (by rw [q7]; rfl) (by decide) ?_
          refine lv_aload_n hx hb dX7_worthOf_51 rfl (lv_at hl 0 rfl) ?_
          refine lv_iload_n hx hb dX7_worthOf_52 rfl (lv_at hl 1 rfl) ?_
          refine lv_iload_n hx hb dX7_worthOf_53 rfl (lv_at hl 2 rfl) ?_
          obtain ⟨r8, hcr8, h⟩ := bd_y h
          refine g_cVI (a := a) (ci := 7) (T := TX7) (N := 37) (av := [.int v1, .int v2]) (rest := []) X hG hS (ct_X7_goodOf l z k_a n_a hcr8) mt_X7_goodOf ml_X7_250 rfl ⟨rfl, rfl, Nat.le_of_ble_eq_true rfl, Nat.le_of_ble_eq_true rfl⟩ ⟨Nat.le_refl 0, Nat.le_refl 0⟩ (nx_0 n_a) k_a (by decide) rfl hl.1 (Nat.le_of_ble_eq_true rfl) rfl dX7_worthOf_54 (fun H locs hG hS => ?_)
          obtain rfl := Option.some.inj h
          exact g_iret X hr hlk hG hS dX7_worthOf_57
        · have h := ite_n h q7
          refine lv_tableOut (tgt := 58) hx hb dX7_worthOf_1 (by have eq1 := lv_neT (a := 0) q1 (by decide); have eq3 := lv_neT (a := 1) q3 (by decide); have eq5 := lv_neT (a := 2) q5 (by decide); have eq7 := lv_neT (a := 3) q7 (by decide); omega) (by decide) ?_
          refine lv_aload_n hx hb dX7_worthOf_58 rfl (lv_at hl 0 rfl) ?_
          refine lv_iload_n hx hb dX7_worthOf_59 rfl (lv_at hl 1 rfl) ?_
          refine lv_iload_n hx hb dX7_worthOf_60 rfl (lv_at hl 2 rfl) ?_
          obtain ⟨r9, hcr9, h⟩ := bd_y h
          refine g_cVI (a := a) (ci := 7) (T := TX7) (N := 37) (av := [.int v1, .int v2]) (rest := []) X hG hS (ct_X7_goodOf l z k_a n_a hcr9) mt_X7_goodOf ml_X7_250 rfl ⟨rfl, rfl, Nat.le_of_ble_eq_true rfl, Nat.le_of_ble_eq_true rfl⟩ ⟨Nat.le_refl 0, Nat.le_refl 0⟩ (nx_0 n_a) k_a (by decide) rfl hl.1 (Nat.le_of_ble_eq_true rfl) rfl dX7_worthOf_61 (fun H locs hG hS => ?_)
          refine lv_ineg hx hb dX7_worthOf_64 ?_
          obtain rfl := Option.some.inj h
          exact g_iret X hr hlk hG hS dX7_worthOf_65
set_option maxRecDepth 100000 in
set_option maxHeartbeats 4000000 in
theorem wX7_seek_8 {N : Nat} {p : Program} {l : Launch} {e : Env} {s : State} {m : MethodId} {args : Array Value} {below : List Frame} {meth : Method} {c : Code} {z : gZ} {M : Mem} {a : Nat} {u1 : Int32} {u2 : Int32} {o : Int32} (X : gX p m c cX7_seek 7 s args RX7 z) (hr : meth.sig.returnType = (some .int)) (hlk : meth.locks = false) (k_a : kd a = 7) (n_a : a + 59 ≤ gn z)  : ∀ (n : Nat) (w3 : Int32) (w4 : Int32) (w5 : Int32) (H : Heap) (locs : List Loc) (ls : Array Slot), fX7_seek_8 N M a u1 u2  n w3 w4 w5 = some o → gW z M H → va_S (gA z) s.heap H locs → lv_has ls 7 [(0, .ref (gad z a)), (1, .int u1), (2, .int u2), (3, .int w3), (4, .int w4), (5, .int w5)] → W p l e { frames := 5, cells := 0, slots := 0, locals := 118 } s m args below meth c H locs 0 0 (MQ below (va_Qi (fun r' (_ : Unit) => r' = o) (fun _ t => gW z M t.heap) (gA z)) args s 0 0 (gA z)) (F0 m 8 ls []) := by
  have hx := X.1
  have hb := X.2.1
  intro n
  induction n with
  | zero => intro w3 w4 w5 H locs ls h; cases h
  | succ n ih =>
    intro w3 w4 w5 H locs ls h hG hS hl
    rw [fX7_seek_8] at h
    refine lv_iload hx hb dX7_seek_8 (lv_at hl 5 rfl) ?_
    refine lv_aload_n hx hb dX7_seek_10 rfl (lv_at hl 0 rfl) ?_
    refine lv_iload_n hx hb dX7_seek_11 rfl (lv_at hl 1 rfl) ?_
    obtain ⟨r1, hcr1, h⟩ := bd_y h
    refine g_cVI (a := a) (ci := 7) (T := TX7) (N := 37) (av := [.int u1]) (rest := [.int w5]) X hG hS (ct_X7_all l z k_a n_a hcr1) mt_X7_all ml_X7_96 rfl ⟨rfl, rfl, Nat.le_of_ble_eq_true rfl, Nat.le_of_ble_eq_true rfl⟩ ⟨Nat.le_refl 0, Nat.le_refl 0⟩ (nx_0 n_a) k_a (by decide) rfl hl.1 (Nat.le_of_ble_eq_true rfl) rfl dX7_seek_12 (fun H locs hG hS => ?_)
    refine lv_icmp_gt (tgt := 63) hx hb dX7_seek_15 (by decide) (fun q2 => ?_) (fun q2 => ?_)
    · have h := ite_y h q2
      refine lv_iload_n hx hb dX7_seek_63 rfl (lv_at hl 3 rfl) ?_
      obtain rfl := Option.some.inj h
      exact g_iret X hr hlk hG hS dX7_seek_64
    · have h := ite_n h q2
      refine lv_aload_n hx hb dX7_seek_18 rfl (lv_at hl 0 rfl) ?_
      refine lv_iload_n hx hb dX7_seek_19 rfl (lv_at hl 1 rfl) ?_
      refine lv_iload hx hb dX7_seek_20 (lv_at hl 5 rfl) ?_
      obtain ⟨r3, hcr3, h⟩ := bd_y h
      refine g_cVI (a := a) (ci := 7) (T := TX7) (N := 37) (av := [.int u1, .int w5]) (rest := []) X hG hS (ct_X7_isRest l z k_a n_a hcr3) mt_X7_isRest ml_X7_256 rfl ⟨rfl, rfl, Nat.le_of_ble_eq_true rfl, Nat.le_of_ble_eq_true rfl⟩ ⟨Nat.le_refl 0, Nat.le_refl 0⟩ (nx_0 n_a) k_a (by decide) rfl hl.1 (Nat.le_of_ble_eq_true rfl) rfl dX7_seek_22 (fun H locs hG hS => ?_)
      refine lv_if_eq (tgt := 57) hx hb dX7_seek_25 (by decide) (fun q4 => ?_) (fun q4 => ?_)
      · have h := ite_y h q4
        refine lv_iinc (v := (w5 + 1)) (lv' := [(5, .int (w5 + 1)), (0, .ref (gad z a)), (1, .int u1), (2, .int u2), (3, .int w3), (4, .int w4)]) hx hb dX7_seek_57 hl (k := 5) rfl rfl (by decide) rfl (fun ls hl => ?_)
        refine lv_goto (tgt := 8) hx hb dX7_seek_60 (by decide) ?_
        exact ih w3 w4 (w5 + 1) _ _ _ h hG hS (lv_sub hl [1, 2, 3, 4, 5, 0] rfl)
      · have h := ite_n h q4
        refine lv_aload_n hx hb dX7_seek_28 rfl (lv_at hl 0 rfl) ?_
        refine lv_iload_n hx hb dX7_seek_29 rfl (lv_at hl 1 rfl) ?_
        refine lv_iload hx hb dX7_seek_30 (lv_at hl 5 rfl) ?_
        refine lv_iload_n hx hb dX7_seek_32 rfl (lv_at hl 2 rfl) ?_
        obtain ⟨r5, hcr5, h⟩ := bd_y h
        refine g_cVI (a := a) (ci := 7) (T := TX7) (N := 37) (av := [.int u1, .int w5, .int u2]) (rest := []) X hG hS (ct_X7_worthOf l z k_a n_a hcr5) mt_X7_worthOf ml_X7_265 rfl ⟨rfl, rfl, Nat.le_of_ble_eq_true rfl, Nat.le_of_ble_eq_true rfl⟩ ⟨Nat.le_refl 0, Nat.le_refl 0⟩ (nx_0 n_a) k_a (by decide) rfl hl.1 (Nat.le_of_ble_eq_true rfl) rfl dX7_seek_33 (fun H locs hG hS => ?_)
        refine lv_istore (lv' := [(6, .int r5), (0, .ref (gad z a)), (1, .int u1), (2, .int u2), (3, .int w3), (4, .int w4), (5, .int w5)]) hx hb dX7_seek_36 hl (by decide) rfl (fun ls hl => ?_)
        refine lv_iload_n hx hb dX7_seek_38 rfl (lv_at hl 4 rfl) ?_
        refine lv_iconst (v := (-1)) hx hb dX7_seek_39 (by decide) ?_
        refine lv_icmp_eq (tgt := 50) hx hb dX7_seek_40 (by decide) (fun q6 => ?_) (fun q6 => ?_)
        · have h := ite_y h q6
          refine lv_iload hx hb dX7_seek_50 (lv_at hl 6 rfl) ?_
          refine lv_istore_n (lv' := [(3, .int w5), (6, .int r5), (0, .ref (gad z a)), (1, .int u1), (2, .int u2), (4, .int w4), (5, .int w5)]) hx hb dX7_seek_52 rfl hl (by decide) rfl (fun ls hl => ?_)
          refine lv_iload hx hb dX7_seek_53 (lv_at hl 1 rfl) ?_
          refine lv_istore (lv' := [(4, .int r5), (3, .int w5), (6, .int r5), (0, .ref (gad z a)), (1, .int u1), (2, .int u2), (5, .int w5)]) hx hb dX7_seek_55 hl (by decide) rfl (fun ls hl => ?_)
          refine lv_iinc (v := (w5 + 1)) (lv' := [(5, .int (w5 + 1)), (4, .int r5), (3, .int w5), (6, .int r5), (0, .ref (gad z a)), (1, .int u1), (2, .int u2)]) hx hb dX7_seek_57 hl (k := 6) rfl rfl (by decide) rfl (fun ls hl => ?_)
          refine lv_goto (tgt := 8) hx hb dX7_seek_60 (by decide) ?_
          exact ih w5 r5 (w5 + 1) _ _ _ h hG hS (lv_sub hl [4, 5, 6, 2, 1, 0] rfl)
        · have h := ite_n h q6
          refine lv_iload hx hb dX7_seek_43 (lv_at hl 0 rfl) ?_
          refine lv_iload hx hb dX7_seek_45 (lv_at hl 5 rfl) ?_
          refine lv_icmp_le (tgt := 57) hx hb dX7_seek_47 (by decide) (fun q7 => ?_) (fun q7 => ?_)
          · have h := ite_y h q7
            refine lv_iinc (v := (w5 + 1)) (lv' := [(5, .int (w5 + 1)), (6, .int r5), (0, .ref (gad z a)), (1, .int u1), (2, .int u2), (3, .int w3), (4, .int w4)]) hx hb dX7_seek_57 hl (k := 6) rfl rfl (by decide) rfl (fun ls hl => ?_)
            refine lv_goto (tgt := 8) hx hb dX7_seek_60 (by decide) ?_
            exact ih w3 w4 (w5 + 1) _ _ _ h hG hS (lv_sub hl [2, 3, 4, 5, 6, 0] rfl)
          · have h := ite_n h q7
            refine lv_iload hx hb dX7_seek_50 (lv_at hl 6 rfl) ?_
            refine lv_istore_n (lv' := [(3, .int w5), (6, .int r5), (0, .ref (gad z a)), (1, .int u1), (2, .int u2), (4, .int w4), (5, .int w5)]) hx hb dX7_seek_52 rfl hl (by decide) rfl (fun ls hl => ?_)
            refine lv_iload hx hb dX7_seek_53 (lv_at hl 1 rfl) ?_
            refine lv_istore (lv' := [(4, .int r5), (3, .int w5), (6, .int r5), (0, .ref (gad z a)), (1, .int u1), (2, .int u2), (5, .int w5)]) hx hb dX7_seek_55 hl (by decide) rfl (fun ls hl => ?_)
            refine lv_iinc (v := (w5 + 1)) (lv' := [(5, .int (w5 + 1)), (4, .int r5), (3, .int w5), (6, .int r5), (0, .ref (gad z a)), (1, .int u1), (2, .int u2)]) hx hb dX7_seek_57 hl (k := 6) rfl rfl (by decide) rfl (fun ls hl => ?_)
            refine lv_goto (tgt := 8) hx hb dX7_seek_60 (by decide) ?_
            exact ih w5 r5 (w5 + 1) _ _ _ h hG hS (lv_sub hl [4, 5, 6, 2, 1, 0] rfl)
set_option maxRecDepth 100000 in
set_option maxHeartbeats 4000000 in
theorem ct_X7_seek (l : Launch) (z : gZ) {N : Nat} {M : Mem} {a : Nat} {v1 : Int32} {v2 : Int32} {o : Int32} (k_a : kd a = 7) (n_a : a + 59 ≤ gn z) (h : fX7_seek N M a v1 v2 = some o) : CtI l z yX7_seek cX7_seek 7 (some .int) { frames := 5, cells := 0, slots := 0, locals := 118 } [.ref (gad z a), .int v1, .int v2] M o M := by
  refine Ct_of rfl (Nat.le_of_ble_eq_true rfl) ?_
  intro p e s m below meth c ls X hr hlk hG hS hl
  have X : gX p m c _ _ s _ RX7 z := X
  have hl : lv_has ls 7 [(0, .ref (gad z a)), (1, .int v1), (2, .int v2)] := hl
  have hx := X.1
  have hb := X.2.1
  unfold fX7_seek at h
  refine lv_iconst (v := (-1)) hx hb dX7_seek_0 (by decide) ?_
  refine lv_istore_n (lv' := [(3, .int (-1)), (0, .ref (gad z a)), (1, .int v1), (2, .int v2)]) hx hb dX7_seek_1 rfl hl (by decide) rfl (fun ls hl => ?_)
  refine lv_iconst (v := 0) hx hb dX7_seek_2 (by decide) ?_
  refine lv_istore (lv' := [(4, .int 0), (3, .int (-1)), (0, .ref (gad z a)), (1, .int v1), (2, .int v2)]) hx hb dX7_seek_3 hl (by decide) rfl (fun ls hl => ?_)
  refine lv_iconst (v := 0) hx hb dX7_seek_5 (by decide) ?_
  refine lv_istore (lv' := [(5, .int 0), (4, .int 0), (3, .int (-1)), (0, .ref (gad z a)), (1, .int v1), (2, .int v2)]) hx hb dX7_seek_6 hl (by decide) rfl (fun ls hl => ?_)
  refine wX7_seek_8 X hr hlk k_a n_a _ _ _ _ _ _ _ h hG hS (lv_sub hl [3, 4, 5, 2, 1, 0] rfl)
set_option maxRecDepth 100000 in
set_option maxHeartbeats 4000000 in
theorem ct_X7_sought (l : Launch) (z : gZ) {N : Nat} {M : Mem} {a : Nat} {v1 : Int32} {v2 : Int32} {o : Int32 × Mem} (k_a : kd a = 7) (n_a : a + 59 ≤ gn z) (h : fX7_sought N M a v1 v2 = some o) : CtI l z yX7_sought cX7_sought 3 (some .int) { frames := 6, cells := 0, slots := 0, locals := 144 } [.ref (gad z a), .int v1, .int v2] M o.1 o.2 := by
  refine Ct_of rfl (Nat.le_of_ble_eq_true rfl) ?_
  intro p e s m below meth c ls X hr hlk hG hS hl
  have X : gX p m c _ _ s _ RX7 z := X
  have hl : lv_has ls 3 [(0, .ref (gad z a)), (1, .int v1), (2, .int v2)] := hl
  have hx := X.1
  have hb := X.2.1
  unfold fX7_sought at h
  refine lv_aload_n hx hb dX7_sought_0 rfl (lv_at hl 0 rfl) ?_
  refine lv_iload_n hx hb dX7_sought_1 rfl (lv_at hl 1 rfl) ?_
  obtain ⟨r1, hcr1, h⟩ := bd_y h
  refine g_cVI (a := a) (ci := 7) (T := TX7) (N := 37) (av := [.int v1]) (rest := []) X hG hS (ct_X7_isStreet l z k_a n_a hcr1) mt_X7_isStreet ml_X7_92 rfl ⟨rfl, rfl, Nat.le_of_ble_eq_true rfl, Nat.le_of_ble_eq_true rfl⟩ ⟨Nat.le_refl 0, Nat.le_refl 0⟩ (nx_0 n_a) k_a (by decide) rfl hl.1 (Nat.le_of_ble_eq_true rfl) rfl dX7_sought_2 (fun H locs hG hS => ?_)
  refine lv_if_eq (tgt := 17) hx hb dX7_sought_5 (by decide) (fun q2 => ?_) (fun q2 => ?_)
  · have h := ite_y h q2
    refine lv_aload_n hx hb dX7_sought_17 rfl (lv_at hl 0 rfl) ?_
    refine lv_bipush (v := (-2)) hx hb dX7_sought_18 (by decide) ?_
    obtain ⟨r3, hcr3, h⟩ := bd_y h
    refine g_cVI (a := a) (ci := 7) (T := TX7) (N := 37) (av := [.int (-2)]) (rest := []) X hG hS (ct_X7_refuse l z k_a n_a hcr3) mt_X7_refuse ml_X7_106 rfl ⟨rfl, rfl, Nat.le_of_ble_eq_true rfl, Nat.le_of_ble_eq_true rfl⟩ ⟨Nat.le_refl 0, Nat.le_refl 0⟩ (nx_0 n_a) k_a (by decide) rfl hl.1 (Nat.le_of_ble_eq_true rfl) rfl dX7_sought_20 (fun H locs hG hS => ?_)
    obtain rfl := Option.some.inj h
    exact g_iret X hr hlk hG hS dX7_sought_23
  · have h := ite_n h q2
    refine lv_aload_n hx hb dX7_sought_8 rfl (lv_at hl 0 rfl) ?_
    refine lv_iload_n hx hb dX7_sought_9 rfl (lv_at hl 1 rfl) ?_
    refine lv_iload_n hx hb dX7_sought_10 rfl (lv_at hl 2 rfl) ?_
    obtain ⟨r4, hcr4, h⟩ := bd_y h
    refine g_cVI (a := a) (ci := 7) (T := TX7) (N := 37) (av := [.int v1, .int v2]) (rest := []) X hG hS (ct_X7_seek l z k_a n_a hcr4) mt_X7_seek ml_X7_268 rfl ⟨rfl, rfl, Nat.le_of_ble_eq_true rfl, Nat.le_of_ble_eq_true rfl⟩ ⟨Nat.le_refl 0, Nat.le_refl 0⟩ (nx_0 n_a) k_a (by decide) rfl hl.1 (Nat.le_of_ble_eq_true rfl) rfl dX7_sought_11 (fun H locs hG hS => ?_)
    refine lv_goto (tgt := 23) hx hb dX7_sought_14 (by decide) ?_
    obtain rfl := Option.some.inj h
    exact g_iret X hr hlk hG hS dX7_sought_23
set_option maxRecDepth 100000 in
set_option maxHeartbeats 4000000 in
theorem wX7_rest_24 {N : Nat} {p : Program} {l : Launch} {e : Env} {s : State} {m : MethodId} {args : Array Value} {below : List Frame} {meth : Method} {c : Code} {z : gZ} {M : Mem} {a : Nat} {u1 : Int32} {o : Int32 × Mem} (X : gX p m c cX7_rest 5 s args RX7 z) (hr : meth.sig.returnType = (some .int)) (hlk : meth.locks = false) (k_a : kd a = 7) (n_a : a + 59 ≤ gn z)  : ∀ (n : Nat) (w3 : Int32) (w4 : Int32) (H : Heap) (locs : List Loc) (ls : Array Slot), fX7_rest_24 N M a u1  n w3 w4 = some o → gW z M H → va_S (gA z) s.heap H locs → lv_has ls 5 [(0, .ref (gad z a)), (1, .int u1), (3, .int w3), (4, .int w4)] → W p l e { frames := 5, cells := 0, slots := 0, locals := 118 } s m args below meth c H locs 0 0 (MQ below (va_Qi (fun r' (_ : Unit) => r' = o.1) (fun _ t => gW z o.2 t.heap) (gA z)) args s 0 0 (gA z)) (F0 m 24 ls []) := by
  have hx := X.1
  have hb := X.2.1
  intro n
  induction n with
  | zero => intro w3 w4 H locs ls h; cases h
  | succ n ih =>
    intro w3 w4 H locs ls h hG hS hl
    rw [fX7_rest_24] at h
    refine lv_iload hx hb dX7_rest_24 (lv_at hl 3 rfl) ?_
    refine lv_aload_n hx hb dX7_rest_26 rfl (lv_at hl 0 rfl) ?_
    refine lv_iload_n hx hb dX7_rest_27 rfl (lv_at hl 1 rfl) ?_
    obtain ⟨r1, hcr1, h⟩ := bd_y h
    refine g_cVI (a := a) (ci := 7) (T := TX7) (N := 37) (av := [.int u1]) (rest := [.int w4]) X hG hS (ct_X7_all l z k_a n_a hcr1) mt_X7_all ml_X7_96 rfl ⟨rfl, rfl, Nat.le_of_ble_eq_true rfl, Nat.le_of_ble_eq_true rfl⟩ ⟨Nat.le_refl 0, Nat.le_refl 0⟩ (nx_0 n_a) k_a (by decide) rfl hl.1 (Nat.le_of_ble_eq_true rfl) rfl dX7_rest_28 (fun H locs hG hS => ?_)
    refine lv_icmp_gt (tgt := 60) hx hb dX7_rest_31 (by decide) (fun q2 => ?_) (fun q2 => ?_)
    · have h := ite_y h q2
      refine lv_aload_n hx hb dX7_rest_60 rfl (lv_at hl 0 rfl) ?_
      refine lv_bipush (v := (-2)) hx hb dX7_rest_61 (by decide) ?_
      obtain ⟨r3, hcr3, h⟩ := bd_y h
      refine g_cVI (a := a) (ci := 7) (T := TX7) (N := 37) (av := [.int (-2)]) (rest := []) X hG hS (ct_X7_refuse l z k_a n_a hcr3) mt_X7_refuse ml_X7_106 rfl ⟨rfl, rfl, Nat.le_of_ble_eq_true rfl, Nat.le_of_ble_eq_true rfl⟩ ⟨Nat.le_refl 0, Nat.le_refl 0⟩ (nx_0 n_a) k_a (by decide) rfl hl.1 (Nat.le_of_ble_eq_true rfl) rfl dX7_rest_63 (fun H locs hG hS => ?_)
      obtain rfl := Option.some.inj h
      exact g_iret X hr hlk hG hS dX7_rest_66
    · have h := ite_n h q2
      refine lv_aload_n hx hb dX7_rest_34 rfl (lv_at hl 0 rfl) ?_
      refine lv_iload_n hx hb dX7_rest_35 rfl (lv_at hl 1 rfl) ?_
      refine lv_iload hx hb dX7_rest_36 (lv_at hl 3 rfl) ?_
      obtain ⟨r4, hcr4, h⟩ := bd_y h
      refine g_cVI (a := a) (ci := 7) (T := TX7) (N := 37) (av := [.int u1, .int w4]) (rest := []) X hG hS (ct_X7_isRest l z k_a n_a hcr4) mt_X7_isRest ml_X7_256 rfl ⟨rfl, rfl, Nat.le_of_ble_eq_true rfl, Nat.le_of_ble_eq_true rfl⟩ ⟨Nat.le_refl 0, Nat.le_refl 0⟩ (nx_0 n_a) k_a (by decide) rfl hl.1 (Nat.le_of_ble_eq_true rfl) rfl dX7_rest_38 (fun H locs hG hS => ?_)
      refine lv_if_eq (tgt := 54) hx hb dX7_rest_41 (by decide) (fun q5 => ?_) (fun q5 => ?_)
      · have h := ite_y h q5
        refine lv_iinc (v := (w4 + 1)) (lv' := [(4, .int (w4 + 1)), (0, .ref (gad z a)), (1, .int u1), (3, .int w3)]) hx hb dX7_rest_54 hl (k := 3) rfl rfl (by decide) rfl (fun ls hl => ?_)
        refine lv_goto (tgt := 24) hx hb dX7_rest_57 (by decide) ?_
        exact ih w3 (w4 + 1) _ _ _ h hG hS (lv_sub hl [1, 2, 3, 0] rfl)
      · have h := ite_n h q5
        refine lv_iload_n hx hb dX7_rest_44 rfl (lv_at hl 2 rfl) ?_
        refine lv_if_ne (tgt := 51) hx hb dX7_rest_45 (by decide) (fun q6 => ?_) (fun q6 => ?_)
        · have h := ite_n h q6
          refine lv_iinc (v := (w3 + (-1))) (lv' := [(3, .int (w3 + (-1))), (0, .ref (gad z a)), (1, .int u1), (4, .int w4)]) hx hb dX7_rest_51 hl (k := 2) rfl rfl (by decide) rfl (fun ls hl => ?_)
          refine lv_iinc (v := (w4 + 1)) (lv' := [(4, .int (w4 + 1)), (3, .int (w3 + (-1))), (0, .ref (gad z a)), (1, .int u1)]) hx hb dX7_rest_54 hl (k := 3) rfl rfl (by decide) rfl (fun ls hl => ?_)
          refine lv_goto (tgt := 24) hx hb dX7_rest_57 (by decide) ?_
          exact ih (w3 + (-1)) (w4 + 1) _ _ _ h hG hS (lv_sub hl [2, 3, 1, 0] rfl)
        · have h := ite_y h q6
          refine lv_iload hx hb dX7_rest_48 (lv_at hl 3 rfl) ?_
          obtain rfl := Option.some.inj h
          exact g_iret X hr hlk hG hS dX7_rest_50
set_option maxRecDepth 100000 in
set_option maxHeartbeats 4000000 in
theorem ct_X7_rest (l : Launch) (z : gZ) {N : Nat} {M : Mem} {a : Nat} {v1 : Int32} {v2 : Int32} {o : Int32 × Mem} (k_a : kd a = 7) (n_a : a + 59 ≤ gn z) (h : fX7_rest N M a v1 v2 = some o) : CtI l z yX7_rest cX7_rest 5 (some .int) { frames := 5, cells := 0, slots := 0, locals := 118 } [.ref (gad z a), .int v1, .int v2] M o.1 o.2 := by
  refine Ct_of rfl (Nat.le_of_ble_eq_true rfl) ?_
  intro p e s m below meth c ls X hr hlk hG hS hl
  have X : gX p m c _ _ s _ RX7 z := X
  have hl : lv_has ls 5 [(0, .ref (gad z a)), (1, .int v1), (2, .int v2)] := hl
  have hx := X.1
  have hb := X.2.1
  unfold fX7_rest at h
  refine lv_aload_n hx hb dX7_rest_0 rfl (lv_at hl 0 rfl) ?_
  refine lv_iload_n hx hb dX7_rest_1 rfl (lv_at hl 1 rfl) ?_
  obtain ⟨r1, hcr1, h⟩ := bd_y h
  refine g_cVI (a := a) (ci := 7) (T := TX7) (N := 37) (av := [.int v1]) (rest := []) X hG hS (ct_X7_isStreet l z k_a n_a hcr1) mt_X7_isStreet ml_X7_92 rfl ⟨rfl, rfl, Nat.le_of_ble_eq_true rfl, Nat.le_of_ble_eq_true rfl⟩ ⟨Nat.le_refl 0, Nat.le_refl 0⟩ (nx_0 n_a) k_a (by decide) rfl hl.1 (Nat.le_of_ble_eq_true rfl) rfl dX7_rest_2 (fun H locs hG hS => ?_)
  refine lv_if_eq (tgt := 12) hx hb dX7_rest_5 (by decide) (fun q2 => ?_) (fun q2 => ?_)
  · have h := ite_y h q2
    refine lv_aload_n hx hb dX7_rest_12 rfl (lv_at hl 0 rfl) ?_
    refine lv_bipush (v := (-2)) hx hb dX7_rest_13 (by decide) ?_
    obtain ⟨r3, hcr3, h⟩ := bd_y h
    refine g_cVI (a := a) (ci := 7) (T := TX7) (N := 37) (av := [.int (-2)]) (rest := []) X hG hS (ct_X7_refuse l z k_a n_a hcr3) mt_X7_refuse ml_X7_106 rfl ⟨rfl, rfl, Nat.le_of_ble_eq_true rfl, Nat.le_of_ble_eq_true rfl⟩ ⟨Nat.le_refl 0, Nat.le_refl 0⟩ (nx_0 n_a) k_a (by decide) rfl hl.1 (Nat.le_of_ble_eq_true rfl) rfl dX7_rest_15 (fun H locs hG hS => ?_)
    obtain rfl := Option.some.inj h
    exact g_iret X hr hlk hG hS dX7_rest_18
  · have h := ite_n h q2
    refine lv_iload_n hx hb dX7_rest_8 rfl (lv_at hl 2 rfl) ?_
    refine lv_if_ge (tgt := 19) hx hb dX7_rest_9 (by decide) (fun q4 => ?_) (fun q4 => ?_)
    · have h := ite_y h q4
      refine lv_iload_n hx hb dX7_rest_19 rfl (lv_at hl 2 rfl) ?_
      refine lv_istore_n (lv' := [(3, .int v2), (0, .ref (gad z a)), (1, .int v1), (2, .int v2)]) hx hb dX7_rest_20 rfl hl (by decide) rfl (fun ls hl => ?_)
      refine lv_iconst (v := 0) hx hb dX7_rest_21 (by decide) ?_
      refine lv_istore (lv' := [(4, .int 0), (3, .int v2), (0, .ref (gad z a)), (1, .int v1), (2, .int v2)]) hx hb dX7_rest_22 hl (by decide) rfl (fun ls hl => ?_)
      refine wX7_rest_24 X hr hlk k_a n_a _ _ _ _ _ _ h hG hS (lv_sub hl [2, 3, 1, 0] rfl)
    · have h := ite_n h q4
      refine lv_aload_n hx hb dX7_rest_12 rfl (lv_at hl 0 rfl) ?_
      refine lv_bipush (v := (-2)) hx hb dX7_rest_13 (by decide) ?_
      obtain ⟨r7, hcr7, h⟩ := bd_y h
      refine g_cVI (a := a) (ci := 7) (T := TX7) (N := 37) (av := [.int (-2)]) (rest := []) X hG hS (ct_X7_refuse l z k_a n_a hcr7) mt_X7_refuse ml_X7_106 rfl ⟨rfl, rfl, Nat.le_of_ble_eq_true rfl, Nat.le_of_ble_eq_true rfl⟩ ⟨Nat.le_refl 0, Nat.le_refl 0⟩ (nx_0 n_a) k_a (by decide) rfl hl.1 (Nat.le_of_ble_eq_true rfl) rfl dX7_rest_15 (fun H locs hG hS => ?_)
      obtain rfl := Option.some.inj h
      exact g_iret X hr hlk hG hS dX7_rest_18
set_option maxRecDepth 100000 in
set_option maxHeartbeats 4000000 in
theorem ct_X7_fewest (l : Launch) (z : gZ) {N : Nat} {M : Mem} {a : Nat} {v1 : Int32} {o : Int32 × Mem} (k_a : kd a = 7) (n_a : a + 59 ≤ gn z) (h : fX7_fewest N M a v1 = some o) : CtI l z yX7_fewest cX7_fewest 2 (some .int) { frames := 7, cells := 0, slots := 0, locals := 166 } [.ref (gad z a), .int v1] M o.1 o.2 := by
  refine Ct_of rfl (Nat.le_of_ble_eq_true rfl) ?_
  intro p e s m below meth c ls X hr hlk hG hS hl
  have X : gX p m c _ _ s _ RX7 z := X
  have hl : lv_has ls 2 [(0, .ref (gad z a)), (1, .int v1)] := hl
  have hx := X.1
  have hb := X.2.1
  unfold fX7_fewest at h
  refine lv_aload_n hx hb dX7_fewest_0 rfl (lv_at hl 0 rfl) ?_
  refine lv_iload_n hx hb dX7_fewest_1 rfl (lv_at hl 1 rfl) ?_
  refine lv_iconst (v := 0) hx hb dX7_fewest_2 (by decide) ?_
  obtain ⟨r1, hcr1, h⟩ := bd_y h
  refine g_cVI (a := a) (ci := 7) (T := TX7) (N := 37) (av := [.int v1, .int 0]) (rest := []) X hG hS (ct_X7_sought l z k_a n_a hcr1) mt_X7_sought ml_X7_271 rfl ⟨rfl, rfl, Nat.le_of_ble_eq_true rfl, Nat.le_of_ble_eq_true rfl⟩ ⟨Nat.le_refl 0, Nat.le_refl 0⟩ (nx_0 n_a) k_a (by decide) rfl hl.1 (Nat.le_of_ble_eq_true rfl) rfl dX7_fewest_3 (fun H locs hG hS => ?_)
  obtain rfl := Option.some.inj h
  exact g_iret X hr hlk hG hS dX7_fewest_6
set_option maxRecDepth 100000 in
set_option maxHeartbeats 4000000 in
theorem ct_X7_most (l : Launch) (z : gZ) {N : Nat} {M : Mem} {a : Nat} {v1 : Int32} {o : Int32 × Mem} (k_a : kd a = 7) (n_a : a + 59 ≤ gn z) (h : fX7_most N M a v1 = some o) : CtI l z yX7_most cX7_most 2 (some .int) { frames := 7, cells := 0, slots := 0, locals := 166 } [.ref (gad z a), .int v1] M o.1 o.2 := by
  refine Ct_of rfl (Nat.le_of_ble_eq_true rfl) ?_
  intro p e s m below meth c ls X hr hlk hG hS hl
  have X : gX p m c _ _ s _ RX7 z := X
  have hl : lv_has ls 2 [(0, .ref (gad z a)), (1, .int v1)] := hl
  have hx := X.1
  have hb := X.2.1
  unfold fX7_most at h
  refine lv_aload_n hx hb dX7_most_0 rfl (lv_at hl 0 rfl) ?_
  refine lv_iload_n hx hb dX7_most_1 rfl (lv_at hl 1 rfl) ?_
  refine lv_iconst (v := 1) hx hb dX7_most_2 (by decide) ?_
  obtain ⟨r1, hcr1, h⟩ := bd_y h
  refine g_cVI (a := a) (ci := 7) (T := TX7) (N := 37) (av := [.int v1, .int 1]) (rest := []) X hG hS (ct_X7_sought l z k_a n_a hcr1) mt_X7_sought ml_X7_271 rfl ⟨rfl, rfl, Nat.le_of_ble_eq_true rfl, Nat.le_of_ble_eq_true rfl⟩ ⟨Nat.le_refl 0, Nat.le_refl 0⟩ (nx_0 n_a) k_a (by decide) rfl hl.1 (Nat.le_of_ble_eq_true rfl) rfl dX7_most_3 (fun H locs hG hS => ?_)
  obtain rfl := Option.some.inj h
  exact g_iret X hr hlk hG hS dX7_most_6
set_option maxRecDepth 100000 in
set_option maxHeartbeats 4000000 in
theorem ct_X7_cheap (l : Launch) (z : gZ) {N : Nat} {M : Mem} {a : Nat} {v1 : Int32} {o : Int32 × Mem} (k_a : kd a = 7) (n_a : a + 59 ≤ gn z) (h : fX7_cheap N M a v1 = some o) : CtI l z yX7_cheap cX7_cheap 2 (some .int) { frames := 7, cells := 0, slots := 0, locals := 166 } [.ref (gad z a), .int v1] M o.1 o.2 := by
  refine Ct_of rfl (Nat.le_of_ble_eq_true rfl) ?_
  intro p e s m below meth c ls X hr hlk hG hS hl
  have X : gX p m c _ _ s _ RX7 z := X
  have hl : lv_has ls 2 [(0, .ref (gad z a)), (1, .int v1)] := hl
  have hx := X.1
  have hb := X.2.1
  unfold fX7_cheap at h
  refine lv_aload_n hx hb dX7_cheap_0 rfl (lv_at hl 0 rfl) ?_
  refine lv_iload_n hx hb dX7_cheap_1 rfl (lv_at hl 1 rfl) ?_
  refine lv_iconst (v := 2) hx hb dX7_cheap_2 (by decide) ?_
  obtain ⟨r1, hcr1, h⟩ := bd_y h
  refine g_cVI (a := a) (ci := 7) (T := TX7) (N := 37) (av := [.int v1, .int 2]) (rest := []) X hG hS (ct_X7_sought l z k_a n_a hcr1) mt_X7_sought ml_X7_271 rfl ⟨rfl, rfl, Nat.le_of_ble_eq_true rfl, Nat.le_of_ble_eq_true rfl⟩ ⟨Nat.le_refl 0, Nat.le_refl 0⟩ (nx_0 n_a) k_a (by decide) rfl hl.1 (Nat.le_of_ble_eq_true rfl) rfl dX7_cheap_3 (fun H locs hG hS => ?_)
  obtain rfl := Option.some.inj h
  exact g_iret X hr hlk hG hS dX7_cheap_6
set_option maxRecDepth 100000 in
set_option maxHeartbeats 4000000 in
theorem ct_X7_best (l : Launch) (z : gZ) {N : Nat} {M : Mem} {a : Nat} {v1 : Int32} {o : Int32 × Mem} (k_a : kd a = 7) (n_a : a + 59 ≤ gn z) (h : fX7_best N M a v1 = some o) : CtI l z yX7_best cX7_best 2 (some .int) { frames := 7, cells := 0, slots := 0, locals := 166 } [.ref (gad z a), .int v1] M o.1 o.2 := by
  refine Ct_of rfl (Nat.le_of_ble_eq_true rfl) ?_
  intro p e s m below meth c ls X hr hlk hG hS hl
  have X : gX p m c _ _ s _ RX7 z := X
  have hl : lv_has ls 2 [(0, .ref (gad z a)), (1, .int v1)] := hl
  have hx := X.1
  have hb := X.2.1
  unfold fX7_best at h
  refine lv_aload_n hx hb dX7_best_0 rfl (lv_at hl 0 rfl) ?_
  refine lv_iload_n hx hb dX7_best_1 rfl (lv_at hl 1 rfl) ?_
  refine lv_iconst (v := 3) hx hb dX7_best_2 (by decide) ?_
  obtain ⟨r1, hcr1, h⟩ := bd_y h
  refine g_cVI (a := a) (ci := 7) (T := TX7) (N := 37) (av := [.int v1, .int 3]) (rest := []) X hG hS (ct_X7_sought l z k_a n_a hcr1) mt_X7_sought ml_X7_271 rfl ⟨rfl, rfl, Nat.le_of_ble_eq_true rfl, Nat.le_of_ble_eq_true rfl⟩ ⟨Nat.le_refl 0, Nat.le_refl 0⟩ (nx_0 n_a) k_a (by decide) rfl hl.1 (Nat.le_of_ble_eq_true rfl) rfl dX7_best_3 (fun H locs hG hS => ?_)
  obtain rfl := Option.some.inj h
  exact g_iret X hr hlk hG hS dX7_best_6
set_option maxRecDepth 100000 in
set_option maxHeartbeats 4000000 in
theorem wX7_goodSet_7 {N : Nat} {p : Program} {l : Launch} {e : Env} {s : State} {m : MethodId} {args : Array Value} {below : List Frame} {meth : Method} {c : Code} {z : gZ} {M : Mem} {a : Nat} {u1 : Int32} {o : Int32} (X : gX p m c cX7_goodSet 6 s args RX7 z) (hr : meth.sig.returnType = (some .int)) (hlk : meth.locks = false) (k_a : kd a = 7) (n_a : a + 59 ≤ gn z)  : ∀ (n : Nat) (w2 : Int32) (w3 : Int32) (w4 : Int32) (H : Heap) (locs : List Loc) (ls : Array Slot), fX7_goodSet_7 N M a u1  n w2 w3 w4 = some o → gW z M H → va_S (gA z) s.heap H locs → lv_has ls 6 [(0, .ref (gad z a)), (1, .int u1), (2, .int w2), (3, .int w3), (4, .int w4)] → W p l e { frames := 3, cells := 0, slots := 0, locals := 73 } s m args below meth c H locs 0 0 (MQ below (va_Qi (fun r' (_ : Unit) => r' = o) (fun _ t => gW z M t.heap) (gA z)) args s 0 0 (gA z)) (F0 m 7 ls []) := by
  have hx := X.1
  have hb := X.2.1
  intro n
  induction n with
  | zero => intro w2 w3 w4 H locs ls h; cases h
  | succ n ih =>
    intro w2 w3 w4 H locs ls h hG hS hl
    rw [fX7_goodSet_7] at h
    refine lv_iload hx hb dX7_goodSet_7 (lv_at hl 4 rfl) ?_
    refine lv_aload_n hx hb dX7_goodSet_9 rfl (lv_at hl 0 rfl) ?_
    refine lv_iload_n hx hb dX7_goodSet_10 rfl (lv_at hl 1 rfl) ?_
    obtain ⟨r1, hcr1, h⟩ := bd_y h
    refine g_cVI (a := a) (ci := 7) (T := TX7) (N := 37) (av := [.int u1]) (rest := [.int w4]) X hG hS (ct_X7_all l z k_a n_a hcr1) mt_X7_all ml_X7_96 rfl ⟨rfl, rfl, Nat.le_of_ble_eq_true rfl, Nat.le_of_ble_eq_true rfl⟩ ⟨Nat.le_refl 0, Nat.le_refl 0⟩ (nx_0 n_a) k_a (by decide) rfl hl.1 (Nat.le_of_ble_eq_true rfl) rfl dX7_goodSet_11 (fun H locs hG hS => ?_)
    refine lv_icmp_gt (tgt := 67) hx hb dX7_goodSet_14 (by decide) (fun q2 => ?_) (fun q2 => ?_)
    · have h := ite_y h q2
      refine lv_iload_n hx hb dX7_goodSet_67 rfl (lv_at hl 2 rfl) ?_
      obtain rfl := Option.some.inj h
      exact g_iret X hr hlk hG hS dX7_goodSet_68
    · have h := ite_n h q2
      refine lv_iload hx hb dX7_goodSet_17 (lv_at hl 4 rfl) ?_
      refine lv_aload_n hx hb dX7_goodSet_19 rfl (lv_at hl 0 rfl) ?_
      refine gf_X7_13 X hG (nx_0 n_a) k_a fl_X7_46 dX7_goodSet_20 ?_
      refine lv_iload_n hx hb dX7_goodSet_23 rfl (lv_at hl 1 rfl) ?_
      obtain ⟨i3, h⟩ := gd_y h
      refine g_iald X hG (nx_a (a := a) (k := 20) (n := 59) n_a (Nat.le_of_ble_eq_true rfl)) (kx_7_20 k_a) (by decide) i3 dX7_goodSet_24 ?_
      refine lv_iand hx hb dX7_goodSet_25 ?_
      refine lv_aload_n hx hb dX7_goodSet_26 rfl (lv_at hl 0 rfl) ?_
      refine gf_X7_13 X hG (nx_0 n_a) k_a fl_X7_46 dX7_goodSet_27 ?_
      refine lv_iload_n hx hb dX7_goodSet_30 rfl (lv_at hl 1 rfl) ?_
      refine g_iald X hG (nx_a (a := a) (k := 20) (n := 59) n_a (Nat.le_of_ble_eq_true rfl)) (kx_7_20 k_a) (by decide) i3 dX7_goodSet_31 ?_
      refine lv_icmp_ne (tgt := 61) hx hb dX7_goodSet_32 (by decide) (fun q4 => ?_) (fun q4 => ?_)
      · have h := ite_n h q4
        refine lv_iinc (v := (w4 + 1)) (lv' := [(4, .int (w4 + 1)), (0, .ref (gad z a)), (1, .int u1), (2, .int w2), (3, .int w3)]) hx hb dX7_goodSet_61 hl (k := 4) rfl rfl (by decide) rfl (fun ls hl => ?_)
        refine lv_goto (tgt := 7) hx hb dX7_goodSet_64 (by decide) ?_
        exact ih w2 w3 (w4 + 1) _ _ _ h hG hS (lv_sub hl [1, 2, 3, 4, 0] rfl)
      · have h := ite_y h q4
        refine lv_aload_n hx hb dX7_goodSet_35 rfl (lv_at hl 0 rfl) ?_
        refine lv_iload_n hx hb dX7_goodSet_36 rfl (lv_at hl 1 rfl) ?_
        refine lv_iload hx hb dX7_goodSet_37 (lv_at hl 4 rfl) ?_
        obtain ⟨r5, hcr5, h⟩ := bd_y h
        refine g_cVI (a := a) (ci := 7) (T := TX7) (N := 37) (av := [.int u1, .int w4]) (rest := []) X hG hS (ct_X7_goodOf l z k_a n_a hcr5) mt_X7_goodOf ml_X7_250 rfl ⟨rfl, rfl, Nat.le_of_ble_eq_true rfl, Nat.le_of_ble_eq_true rfl⟩ ⟨Nat.le_refl 0, Nat.le_refl 0⟩ (nx_0 n_a) k_a (by decide) rfl hl.1 (Nat.le_of_ble_eq_true rfl) rfl dX7_goodSet_39 (fun H locs hG hS => ?_)
        refine lv_istore (lv' := [(5, .int r5), (0, .ref (gad z a)), (1, .int u1), (2, .int w2), (3, .int w3), (4, .int w4)]) hx hb dX7_goodSet_42 hl (by decide) rfl (fun ls hl => ?_)
        refine lv_iload_n hx hb dX7_goodSet_44 rfl (lv_at hl 3 rfl) ?_
        refine lv_iconst (v := (-1)) hx hb dX7_goodSet_45 (by decide) ?_
        refine lv_icmp_eq (tgt := 55) hx hb dX7_goodSet_46 (by decide) (fun q6 => ?_) (fun q6 => ?_)
        · have h := ite_y h q6
          refine lv_iload hx hb dX7_goodSet_55 (lv_at hl 5 rfl) ?_
          refine lv_istore_n (lv' := [(2, .int w4), (5, .int r5), (0, .ref (gad z a)), (1, .int u1), (3, .int w3), (4, .int w4)]) hx hb dX7_goodSet_57 rfl hl (by decide) rfl (fun ls hl => ?_)
          refine lv_iload hx hb dX7_goodSet_58 (lv_at hl 1 rfl) ?_
          refine lv_istore_n (lv' := [(3, .int r5), (2, .int w4), (5, .int r5), (0, .ref (gad z a)), (1, .int u1), (4, .int w4)]) hx hb dX7_goodSet_60 rfl hl (by decide) rfl (fun ls hl => ?_)
          refine lv_iinc (v := (w4 + 1)) (lv' := [(4, .int (w4 + 1)), (3, .int r5), (2, .int w4), (5, .int r5), (0, .ref (gad z a)), (1, .int u1)]) hx hb dX7_goodSet_61 hl (k := 5) rfl rfl (by decide) rfl (fun ls hl => ?_)
          refine lv_goto (tgt := 7) hx hb dX7_goodSet_64 (by decide) ?_
          exact ih w4 r5 (w4 + 1) _ _ _ h hG hS (lv_sub hl [4, 5, 2, 1, 0] rfl)
        · have h := ite_n h q6
          refine lv_iload hx hb dX7_goodSet_49 (lv_at hl 0 rfl) ?_
          refine lv_iload_n hx hb dX7_goodSet_51 rfl (lv_at hl 4 rfl) ?_
          refine lv_icmp_le (tgt := 61) hx hb dX7_goodSet_52 (by decide) (fun q7 => ?_) (fun q7 => ?_)
          · have h := ite_y h q7
            refine lv_iinc (v := (w4 + 1)) (lv' := [(4, .int (w4 + 1)), (5, .int r5), (0, .ref (gad z a)), (1, .int u1), (2, .int w2), (3, .int w3)]) hx hb dX7_goodSet_61 hl (k := 5) rfl rfl (by decide) rfl (fun ls hl => ?_)
            refine lv_goto (tgt := 7) hx hb dX7_goodSet_64 (by decide) ?_
            exact ih w2 w3 (w4 + 1) _ _ _ h hG hS (lv_sub hl [2, 3, 4, 5, 0] rfl)
          · have h := ite_n h q7
            refine lv_iload hx hb dX7_goodSet_55 (lv_at hl 5 rfl) ?_
            refine lv_istore_n (lv' := [(2, .int w4), (5, .int r5), (0, .ref (gad z a)), (1, .int u1), (3, .int w3), (4, .int w4)]) hx hb dX7_goodSet_57 rfl hl (by decide) rfl (fun ls hl => ?_)
            refine lv_iload hx hb dX7_goodSet_58 (lv_at hl 1 rfl) ?_
            refine lv_istore_n (lv' := [(3, .int r5), (2, .int w4), (5, .int r5), (0, .ref (gad z a)), (1, .int u1), (4, .int w4)]) hx hb dX7_goodSet_60 rfl hl (by decide) rfl (fun ls hl => ?_)
            refine lv_iinc (v := (w4 + 1)) (lv' := [(4, .int (w4 + 1)), (3, .int r5), (2, .int w4), (5, .int r5), (0, .ref (gad z a)), (1, .int u1)]) hx hb dX7_goodSet_61 hl (k := 5) rfl rfl (by decide) rfl (fun ls hl => ?_)
            refine lv_goto (tgt := 7) hx hb dX7_goodSet_64 (by decide) ?_
            exact ih w4 r5 (w4 + 1) _ _ _ h hG hS (lv_sub hl [4, 5, 2, 1, 0] rfl)
set_option maxRecDepth 100000 in
set_option maxHeartbeats 4000000 in
theorem ct_X7_goodSet (l : Launch) (z : gZ) {N : Nat} {M : Mem} {a : Nat} {v1 : Int32} {o : Int32} (k_a : kd a = 7) (n_a : a + 59 ≤ gn z) (h : fX7_goodSet N M a v1 = some o) : CtI l z yX7_goodSet cX7_goodSet 6 (some .int) { frames := 3, cells := 0, slots := 0, locals := 73 } [.ref (gad z a), .int v1] M o M := by
  refine Ct_of rfl (Nat.le_of_ble_eq_true rfl) ?_
  intro p e s m below meth c ls X hr hlk hG hS hl
  have X : gX p m c _ _ s _ RX7 z := X
  have hl : lv_has ls 6 [(0, .ref (gad z a)), (1, .int v1)] := hl
  have hx := X.1
  have hb := X.2.1
  unfold fX7_goodSet at h
  refine lv_iconst (v := (-1)) hx hb dX7_goodSet_0 (by decide) ?_
  refine lv_istore_n (lv' := [(2, .int (-1)), (0, .ref (gad z a)), (1, .int v1)]) hx hb dX7_goodSet_1 rfl hl (by decide) rfl (fun ls hl => ?_)
  refine lv_iconst (v := 0) hx hb dX7_goodSet_2 (by decide) ?_
  refine lv_istore_n (lv' := [(3, .int 0), (2, .int (-1)), (0, .ref (gad z a)), (1, .int v1)]) hx hb dX7_goodSet_3 rfl hl (by decide) rfl (fun ls hl => ?_)
  refine lv_iconst (v := 0) hx hb dX7_goodSet_4 (by decide) ?_
  refine lv_istore (lv' := [(4, .int 0), (3, .int 0), (2, .int (-1)), (0, .ref (gad z a)), (1, .int v1)]) hx hb dX7_goodSet_5 hl (by decide) rfl (fun ls hl => ?_)
  refine wX7_goodSet_7 X hr hlk k_a n_a _ _ _ _ _ _ _ h hG hS (lv_sub hl [3, 4, 2, 1, 0] rfl)
set_option maxRecDepth 100000 in
set_option maxHeartbeats 4000000 in
theorem ct_X7_good (l : Launch) (z : gZ) {N : Nat} {M : Mem} {a : Nat} {v1 : Int32} {o : Int32 × Mem} (k_a : kd a = 7) (n_a : a + 59 ≤ gn z) (h : fX7_good N M a v1 = some o) : CtI l z yX7_good cX7_good 2 (some .int) { frames := 4, cells := 0, slots := 0, locals := 98 } [.ref (gad z a), .int v1] M o.1 o.2 := by
  refine Ct_of rfl (Nat.le_of_ble_eq_true rfl) ?_
  intro p e s m below meth c ls X hr hlk hG hS hl
  have X : gX p m c _ _ s _ RX7 z := X
  have hl : lv_has ls 2 [(0, .ref (gad z a)), (1, .int v1)] := hl
  have hx := X.1
  have hb := X.2.1
  unfold fX7_good at h
  refine lv_aload_n hx hb dX7_good_0 rfl (lv_at hl 0 rfl) ?_
  refine lv_iload_n hx hb dX7_good_1 rfl (lv_at hl 1 rfl) ?_
  obtain ⟨r1, hcr1, h⟩ := bd_y h
  refine g_cVI (a := a) (ci := 7) (T := TX7) (N := 37) (av := [.int v1]) (rest := []) X hG hS (ct_X7_isStreet l z k_a n_a hcr1) mt_X7_isStreet ml_X7_92 rfl ⟨rfl, rfl, Nat.le_of_ble_eq_true rfl, Nat.le_of_ble_eq_true rfl⟩ ⟨Nat.le_refl 0, Nat.le_refl 0⟩ (nx_0 n_a) k_a (by decide) rfl hl.1 (Nat.le_of_ble_eq_true rfl) rfl dX7_good_2 (fun H locs hG hS => ?_)
  refine lv_if_eq (tgt := 16) hx hb dX7_good_5 (by decide) (fun q2 => ?_) (fun q2 => ?_)
  · have h := ite_y h q2
    refine lv_aload_n hx hb dX7_good_16 rfl (lv_at hl 0 rfl) ?_
    refine lv_bipush (v := (-2)) hx hb dX7_good_17 (by decide) ?_
    obtain ⟨r3, hcr3, h⟩ := bd_y h
    refine g_cVI (a := a) (ci := 7) (T := TX7) (N := 37) (av := [.int (-2)]) (rest := []) X hG hS (ct_X7_refuse l z k_a n_a hcr3) mt_X7_refuse ml_X7_106 rfl ⟨rfl, rfl, Nat.le_of_ble_eq_true rfl, Nat.le_of_ble_eq_true rfl⟩ ⟨Nat.le_refl 0, Nat.le_refl 0⟩ (nx_0 n_a) k_a (by decide) rfl hl.1 (Nat.le_of_ble_eq_true rfl) rfl dX7_good_19 (fun H locs hG hS => ?_)
    obtain rfl := Option.some.inj h
    exact g_iret X hr hlk hG hS dX7_good_22
  · have h := ite_n h q2
    refine lv_aload_n hx hb dX7_good_8 rfl (lv_at hl 0 rfl) ?_
    refine lv_iload_n hx hb dX7_good_9 rfl (lv_at hl 1 rfl) ?_
    obtain ⟨r4, hcr4, h⟩ := bd_y h
    refine g_cVI (a := a) (ci := 7) (T := TX7) (N := 37) (av := [.int v1]) (rest := []) X hG hS (ct_X7_goodSet l z k_a n_a hcr4) mt_X7_goodSet ml_X7_274 rfl ⟨rfl, rfl, Nat.le_of_ble_eq_true rfl, Nat.le_of_ble_eq_true rfl⟩ ⟨Nat.le_refl 0, Nat.le_refl 0⟩ (nx_0 n_a) k_a (by decide) rfl hl.1 (Nat.le_of_ble_eq_true rfl) rfl dX7_good_10 (fun H locs hG hS => ?_)
    refine lv_goto (tgt := 22) hx hb dX7_good_13 (by decide) ?_
    obtain rfl := Option.some.inj h
    exact g_iret X hr hlk hG hS dX7_good_22
set_option maxRecDepth 100000 in
set_option maxHeartbeats 4000000 in
theorem ct_X7_below (l : Launch) (z : gZ) {N : Nat} {M : Mem} {a : Nat} {v1 : Int32} {v2 : Int32} {o : Int32} (k_a : kd a = 7) (n_a : a + 59 ≤ gn z) (h : fX7_below N M a v1 v2 = some o) : CtI l z yX7_below cX7_below 4 (some .int) { frames := 6, cells := 0, slots := 0, locals := 144 } [.ref (gad z a), .int v1, .int v2] M o M := by
  refine Ct_of rfl (Nat.le_of_ble_eq_true rfl) ?_
  intro p e s m below meth c ls X hr hlk hG hS hl
  have X : gX p m c _ _ s _ RX7 z := X
  have hl : lv_has ls 4 [(0, .ref (gad z a)), (1, .int v1), (2, .int v2)] := hl
  have hx := X.1
  have hb := X.2.1
  unfold fX7_below at h
  refine lv_aload_n hx hb dX7_below_0 rfl (lv_at hl 0 rfl) ?_
  refine lv_iload_n hx hb dX7_below_1 rfl (lv_at hl 1 rfl) ?_
  refine lv_iload_n hx hb dX7_below_2 rfl (lv_at hl 2 rfl) ?_
  obtain ⟨r1, hcr1, h⟩ := bd_y h
  refine g_cVI (a := a) (ci := 7) (T := TX7) (N := 37) (av := [.int v1, .int v2]) (rest := []) X hG hS (ct_X7_seek l z k_a n_a hcr1) mt_X7_seek ml_X7_268 rfl ⟨rfl, rfl, Nat.le_of_ble_eq_true rfl, Nat.le_of_ble_eq_true rfl⟩ ⟨Nat.le_refl 0, Nat.le_refl 0⟩ (nx_0 n_a) k_a (by decide) rfl hl.1 (Nat.le_of_ble_eq_true rfl) rfl dX7_below_3 (fun H locs hG hS => ?_)
  refine lv_istore_n (lv' := [(3, .int r1), (0, .ref (gad z a)), (1, .int v1), (2, .int v2)]) hx hb dX7_below_6 rfl hl (by decide) rfl (fun ls hl => ?_)
  refine lv_iload_n hx hb dX7_below_7 rfl (lv_at hl 0 rfl) ?_
  refine lv_iconst (v := (-1)) hx hb dX7_below_8 (by decide) ?_
  refine lv_icmp_ne (tgt := 16) hx hb dX7_below_9 (by decide) (fun q2 => ?_) (fun q2 => ?_)
  · have h := ite_n h q2
    refine lv_aload_n hx hb dX7_below_16 rfl (lv_at hl 1 rfl) ?_
    refine lv_iload_n hx hb dX7_below_17 rfl (lv_at hl 2 rfl) ?_
    refine lv_aload_n hx hb dX7_below_18 rfl (lv_at hl 1 rfl) ?_
    refine lv_iload_n hx hb dX7_below_19 rfl (lv_at hl 2 rfl) ?_
    obtain ⟨r3, hcr3, h⟩ := bd_y h
    refine g_cVI (a := a) (ci := 7) (T := TX7) (N := 37) (av := [.int v1]) (rest := [.int v1, .ref (gad z a)]) X hG hS (ct_X7_goodSet l z k_a n_a hcr3) mt_X7_goodSet ml_X7_274 rfl ⟨rfl, rfl, Nat.le_of_ble_eq_true rfl, Nat.le_of_ble_eq_true rfl⟩ ⟨Nat.le_refl 0, Nat.le_refl 0⟩ (nx_0 n_a) k_a (by decide) rfl hl.1 (Nat.le_of_ble_eq_true rfl) rfl dX7_below_20 (fun H locs hG hS => ?_)
    obtain ⟨r4, hcr4, h⟩ := bd_y h
    refine g_cVI (a := a) (ci := 7) (T := TX7) (N := 37) (av := [.int v1, .int r3]) (rest := []) X hG hS (ct_X7_goodOf l z k_a n_a hcr4) mt_X7_goodOf ml_X7_250 rfl ⟨rfl, rfl, Nat.le_of_ble_eq_true rfl, Nat.le_of_ble_eq_true rfl⟩ ⟨Nat.le_refl 0, Nat.le_refl 0⟩ (nx_0 n_a) k_a (by decide) rfl hl.1 (Nat.le_of_ble_eq_true rfl) rfl dX7_below_23 (fun H locs hG hS => ?_)
    refine lv_aload_n hx hb dX7_below_26 rfl (lv_at hl 1 rfl) ?_
    refine lv_iload_n hx hb dX7_below_27 rfl (lv_at hl 2 rfl) ?_
    refine lv_iload_n hx hb dX7_below_28 rfl (lv_at hl 0 rfl) ?_
    obtain ⟨r5, hcr5, h⟩ := bd_y h
    refine g_cVI (a := a) (ci := 7) (T := TX7) (N := 37) (av := [.int v1, .int r1]) (rest := [.int r4]) X hG hS (ct_X7_goodOf l z k_a n_a hcr5) mt_X7_goodOf ml_X7_250 rfl ⟨rfl, rfl, Nat.le_of_ble_eq_true rfl, Nat.le_of_ble_eq_true rfl⟩ ⟨Nat.le_refl 0, Nat.le_refl 0⟩ (nx_0 n_a) k_a (by decide) rfl hl.1 (Nat.le_of_ble_eq_true rfl) rfl dX7_below_29 (fun H locs hG hS => ?_)
    refine lv_isub hx hb dX7_below_32 ?_
    obtain rfl := Option.some.inj h
    exact g_iret X hr hlk hG hS dX7_below_33
  · have h := ite_y h q2
    refine lv_iconst (v := (-1)) hx hb dX7_below_12 (by decide) ?_
    refine lv_goto (tgt := 33) hx hb dX7_below_13 (by decide) ?_
    obtain rfl := Option.some.inj h
    exact g_iret X hr hlk hG hS dX7_below_33
set_option maxRecDepth 100000 in
set_option maxHeartbeats 4000000 in
theorem ct_X7_lost (l : Launch) (z : gZ) {N : Nat} {M : Mem} {a : Nat} {v1 : Int32} {o : Int32 × Mem} (k_a : kd a = 7) (n_a : a + 59 ≤ gn z) (h : fX7_lost N M a v1 = some o) : CtI l z yX7_lost cX7_lost 2 (some .int) { frames := 7, cells := 0, slots := 0, locals := 167 } [.ref (gad z a), .int v1] M o.1 o.2 := by
  refine Ct_of rfl (Nat.le_of_ble_eq_true rfl) ?_
  intro p e s m below meth c ls X hr hlk hG hS hl
  have X : gX p m c _ _ s _ RX7 z := X
  have hl : lv_has ls 2 [(0, .ref (gad z a)), (1, .int v1)] := hl
  have hx := X.1
  have hb := X.2.1
  unfold fX7_lost at h
  refine lv_aload_n hx hb dX7_lost_0 rfl (lv_at hl 0 rfl) ?_
  refine lv_iload_n hx hb dX7_lost_1 rfl (lv_at hl 1 rfl) ?_
  obtain ⟨r1, hcr1, h⟩ := bd_y h
  refine g_cVI (a := a) (ci := 7) (T := TX7) (N := 37) (av := [.int v1]) (rest := []) X hG hS (ct_X7_isStreet l z k_a n_a hcr1) mt_X7_isStreet ml_X7_92 rfl ⟨rfl, rfl, Nat.le_of_ble_eq_true rfl, Nat.le_of_ble_eq_true rfl⟩ ⟨Nat.le_refl 0, Nat.le_refl 0⟩ (nx_0 n_a) k_a (by decide) rfl hl.1 (Nat.le_of_ble_eq_true rfl) rfl dX7_lost_2 (fun H locs hG hS => ?_)
  refine lv_if_eq (tgt := 17) hx hb dX7_lost_5 (by decide) (fun q2 => ?_) (fun q2 => ?_)
  · have h := ite_y h q2
    refine lv_aload_n hx hb dX7_lost_17 rfl (lv_at hl 0 rfl) ?_
    refine lv_bipush (v := (-2)) hx hb dX7_lost_18 (by decide) ?_
    obtain ⟨r3, hcr3, h⟩ := bd_y h
    refine g_cVI (a := a) (ci := 7) (T := TX7) (N := 37) (av := [.int (-2)]) (rest := []) X hG hS (ct_X7_refuse l z k_a n_a hcr3) mt_X7_refuse ml_X7_106 rfl ⟨rfl, rfl, Nat.le_of_ble_eq_true rfl, Nat.le_of_ble_eq_true rfl⟩ ⟨Nat.le_refl 0, Nat.le_refl 0⟩ (nx_0 n_a) k_a (by decide) rfl hl.1 (Nat.le_of_ble_eq_true rfl) rfl dX7_lost_20 (fun H locs hG hS => ?_)
    obtain rfl := Option.some.inj h
    exact g_iret X hr hlk hG hS dX7_lost_23
  · have h := ite_n h q2
    refine lv_aload_n hx hb dX7_lost_8 rfl (lv_at hl 0 rfl) ?_
    refine lv_iload_n hx hb dX7_lost_9 rfl (lv_at hl 1 rfl) ?_
    refine lv_iconst (v := 3) hx hb dX7_lost_10 (by decide) ?_
    obtain ⟨r4, hcr4, h⟩ := bd_y h
    refine g_cVI (a := a) (ci := 7) (T := TX7) (N := 37) (av := [.int v1, .int 3]) (rest := []) X hG hS (ct_X7_below l z k_a n_a hcr4) mt_X7_below ml_X7_277 rfl ⟨rfl, rfl, Nat.le_of_ble_eq_true rfl, Nat.le_of_ble_eq_true rfl⟩ ⟨Nat.le_refl 0, Nat.le_refl 0⟩ (nx_0 n_a) k_a (by decide) rfl hl.1 (Nat.le_of_ble_eq_true rfl) rfl dX7_lost_11 (fun H locs hG hS => ?_)
    refine lv_goto (tgt := 23) hx hb dX7_lost_14 (by decide) ?_
    obtain rfl := Option.some.inj h
    exact g_iret X hr hlk hG hS dX7_lost_23
set_option maxRecDepth 100000 in
set_option maxHeartbeats 4000000 in
theorem ct_X7_beside (l : Launch) (z : gZ) {N : Nat} {M : Mem} {a : Nat} {v1 : Int32} {o : Int32 × Mem} (k_a : kd a = 7) (n_a : a + 59 ≤ gn z) (h : fX7_beside N M a v1 = some o) : CtI l z yX7_beside cX7_beside 2 (some .int) { frames := 7, cells := 0, slots := 0, locals := 167 } [.ref (gad z a), .int v1] M o.1 o.2 := by
  refine Ct_of rfl (Nat.le_of_ble_eq_true rfl) ?_
  intro p e s m below meth c ls X hr hlk hG hS hl
  have X : gX p m c _ _ s _ RX7 z := X
  have hl : lv_has ls 2 [(0, .ref (gad z a)), (1, .int v1)] := hl
  have hx := X.1
  have hb := X.2.1
  unfold fX7_beside at h
  refine lv_aload_n hx hb dX7_beside_0 rfl (lv_at hl 0 rfl) ?_
  refine lv_iload_n hx hb dX7_beside_1 rfl (lv_at hl 1 rfl) ?_
  obtain ⟨r1, hcr1, h⟩ := bd_y h
  refine g_cVI (a := a) (ci := 7) (T := TX7) (N := 37) (av := [.int v1]) (rest := []) X hG hS (ct_X7_isStreet l z k_a n_a hcr1) mt_X7_isStreet ml_X7_92 rfl ⟨rfl, rfl, Nat.le_of_ble_eq_true rfl, Nat.le_of_ble_eq_true rfl⟩ ⟨Nat.le_refl 0, Nat.le_refl 0⟩ (nx_0 n_a) k_a (by decide) rfl hl.1 (Nat.le_of_ble_eq_true rfl) rfl dX7_beside_2 (fun H locs hG hS => ?_)
  refine lv_if_eq (tgt := 17) hx hb dX7_beside_5 (by decide) (fun q2 => ?_) (fun q2 => ?_)
  · have h := ite_y h q2
    refine lv_aload_n hx hb dX7_beside_17 rfl (lv_at hl 0 rfl) ?_
    refine lv_bipush (v := (-2)) hx hb dX7_beside_18 (by decide) ?_
    obtain ⟨r3, hcr3, h⟩ := bd_y h
    refine g_cVI (a := a) (ci := 7) (T := TX7) (N := 37) (av := [.int (-2)]) (rest := []) X hG hS (ct_X7_refuse l z k_a n_a hcr3) mt_X7_refuse ml_X7_106 rfl ⟨rfl, rfl, Nat.le_of_ble_eq_true rfl, Nat.le_of_ble_eq_true rfl⟩ ⟨Nat.le_refl 0, Nat.le_refl 0⟩ (nx_0 n_a) k_a (by decide) rfl hl.1 (Nat.le_of_ble_eq_true rfl) rfl dX7_beside_20 (fun H locs hG hS => ?_)
    obtain rfl := Option.some.inj h
    exact g_iret X hr hlk hG hS dX7_beside_23
  · have h := ite_n h q2
    refine lv_aload_n hx hb dX7_beside_8 rfl (lv_at hl 0 rfl) ?_
    refine lv_iload_n hx hb dX7_beside_9 rfl (lv_at hl 1 rfl) ?_
    refine lv_iconst (v := 4) hx hb dX7_beside_10 (by decide) ?_
    obtain ⟨r4, hcr4, h⟩ := bd_y h
    refine g_cVI (a := a) (ci := 7) (T := TX7) (N := 37) (av := [.int v1, .int 4]) (rest := []) X hG hS (ct_X7_below l z k_a n_a hcr4) mt_X7_below ml_X7_277 rfl ⟨rfl, rfl, Nat.le_of_ble_eq_true rfl, Nat.le_of_ble_eq_true rfl⟩ ⟨Nat.le_refl 0, Nat.le_refl 0⟩ (nx_0 n_a) k_a (by decide) rfl hl.1 (Nat.le_of_ble_eq_true rfl) rfl dX7_beside_11 (fun H locs hG hS => ?_)
    refine lv_goto (tgt := 23) hx hb dX7_beside_14 (by decide) ?_
    obtain rfl := Option.some.inj h
    exact g_iret X hr hlk hG hS dX7_beside_23
set_option maxRecDepth 100000 in
set_option maxHeartbeats 4000000 in
theorem wX7_inTurn_38 {N : Nat} {p : Program} {l : Launch} {e : Env} {s : State} {m : MethodId} {args : Array Value} {below : List Frame} {meth : Method} {c : Code} {z : gZ} {M : Mem} {a : Nat} {u1 : Int32} {u4 : Int32} {o : Mem} (X : gX p m c cX7_inTurn 8 s args RX7 z) (hr : meth.sig.returnType = none) (hlk : meth.locks = false) (k_a : kd a = 7) (n_a : a + 59 ≤ gn z)  {K76 : Int32 → Int32 → Option Mem} (hK76 : ∀ (w3 : Int32) (w6 : Int32) (H : Heap) (locs : List Loc) (ls : Array Slot), K76 w3 w6 = some o → gW z M H → va_S (gA z) s.heap H locs → lv_has ls 8 [(0, .ref (gad z a)), (1, .int u1), (3, .int w3), (4, .int u4), (6, .int w6)] → W p l e { frames := 3, cells := 0, slots := 0, locals := 72 } s m args below meth c H locs 0 0 (MQ below (va_Qv (fun (_ : Unit) => True) (fun _ t => gW z o t.heap) (gA z)) args s 0 0 (gA z)) (F0 m 76 ls [])) : ∀ (n : Nat) (w3 : Int32) (w6 : Int32) (w7 : Int32) (H : Heap) (locs : List Loc) (ls : Array Slot), fX7_inTurn_38 N M a u1 u4 K76 n w3 w6 w7 = some o → gW z M H → va_S (gA z) s.heap H locs → lv_has ls 8 [(0, .ref (gad z a)), (1, .int u1), (3, .int w3), (4, .int u4), (6, .int w6), (7, .int w7)] → W p l e { frames := 3, cells := 0, slots := 0, locals := 72 } s m args below meth c H locs 0 0 (MQ below (va_Qv (fun (_ : Unit) => True) (fun _ t => gW z o t.heap) (gA z)) args s 0 0 (gA z)) (F0 m 38 ls []) := by
  have hx := X.1
  have hb := X.2.1
  intro n
  induction n with
  | zero => intro w3 w6 w7 H locs ls h; cases h
  | succ n ih =>
    intro w3 w6 w7 H locs ls h hG hS hl
    rw [fX7_inTurn_38] at h
    refine lv_iload hx hb dX7_inTurn_38 (lv_at hl 5 rfl) ?_
    refine lv_aload_n hx hb dX7_inTurn_40 rfl (lv_at hl 0 rfl) ?_
    refine gf_X7_11 X hG (nx_0 n_a) k_a fl_X7_40 dX7_inTurn_41 ?_
    refine lv_iload_n hx hb dX7_inTurn_44 rfl (lv_at hl 1 rfl) ?_
    obtain ⟨i1, h⟩ := gd_y h
    refine g_iald X hG (nx_a (a := a) (k := 18) (n := 59) n_a (Nat.le_of_ble_eq_true rfl)) (kx_7_18 k_a) (by decide) i1 dX7_inTurn_45 ?_
    refine lv_icmp_ge (tgt := 76) hx hb dX7_inTurn_46 (by decide) (fun q2 => ?_) (fun q2 => ?_)
    · have h := ite_y h q2
      exact hK76 w3 w6 _ _ _ h hG hS (lv_sub hl [0, 1, 2, 3, 4] rfl)
    · have h := ite_n h q2
      refine lv_aload_n hx hb dX7_inTurn_49 rfl (lv_at hl 0 rfl) ?_
      refine lv_iload_n hx hb dX7_inTurn_50 rfl (lv_at hl 1 rfl) ?_
      refine lv_iload hx hb dX7_inTurn_51 (lv_at hl 5 rfl) ?_
      refine lv_iload_n hx hb dX7_inTurn_53 rfl (lv_at hl 2 rfl) ?_
      obtain ⟨r3, hcr3, h⟩ := bd_y h
      refine g_cVI (a := a) (ci := 7) (T := TX7) (N := 37) (av := [.int u1, .int w7, .int w3]) (rest := []) X hG hS (ct_X7_would l z k_a n_a hcr3) mt_X7_would ml_X7_245 rfl ⟨rfl, rfl, Nat.le_of_ble_eq_true rfl, Nat.le_of_ble_eq_true rfl⟩ ⟨Nat.le_refl 0, Nat.le_refl 0⟩ (nx_0 n_a) k_a (by decide) rfl hl.1 (Nat.le_of_ble_eq_true rfl) rfl dX7_inTurn_54 (fun H locs hG hS => ?_)
      refine lv_if_eq (tgt := 70) hx hb dX7_inTurn_57 (by decide) (fun q4 => ?_) (fun q4 => ?_)
      · have h := ite_y h q4
        refine lv_iinc (v := (w7 + 1)) (lv' := [(7, .int (w7 + 1)), (0, .ref (gad z a)), (1, .int u1), (3, .int w3), (4, .int u4), (6, .int w6)]) hx hb dX7_inTurn_70 hl (k := 5) rfl rfl (by decide) rfl (fun ls hl => ?_)
        refine lv_goto (tgt := 38) hx hb dX7_inTurn_73 (by decide) ?_
        exact ih w3 w6 (w7 + 1) _ _ _ h hG hS (lv_sub hl [1, 2, 3, 4, 5, 0] rfl)
      · have h := ite_n h q4
        refine lv_iload_n hx hb dX7_inTurn_60 rfl (lv_at hl 2 rfl) ?_
        refine lv_iconst (v := 1) hx hb dX7_inTurn_61 (by decide) ?_
        refine lv_iload hx hb dX7_inTurn_62 (lv_at hl 5 rfl) ?_
        refine lv_ishl hx hb dX7_inTurn_64 ?_
        refine lv_ixor hx hb dX7_inTurn_65 ?_
        refine lv_topi (fun x5 ex5 => ?_)
        have h := nm_y h x5 ex5
        refine lv_istore_n (lv' := [(3, .int x5), (0, .ref (gad z a)), (1, .int u1), (4, .int u4), (6, .int w6), (7, .int w7)]) hx hb dX7_inTurn_66 rfl hl (by decide) rfl (fun ls hl => ?_)
        refine lv_iinc (v := (w6 + 1)) (lv' := [(6, .int (w6 + 1)), (3, .int x5), (0, .ref (gad z a)), (1, .int u1), (4, .int u4), (7, .int w7)]) hx hb dX7_inTurn_67 hl (k := 4) rfl rfl (by decide) rfl (fun ls hl => ?_)
        refine lv_iinc (v := (w7 + 1)) (lv' := [(7, .int (w7 + 1)), (6, .int (w6 + 1)), (3, .int x5), (0, .ref (gad z a)), (1, .int u1), (4, .int u4)]) hx hb dX7_inTurn_70 hl (k := 5) rfl rfl (by decide) rfl (fun ls hl => ?_)
        refine lv_goto (tgt := 38) hx hb dX7_inTurn_73 (by decide) ?_
        exact ih x5 (w6 + 1) (w7 + 1) _ _ _ h hG hS (lv_sub hl [3, 4, 2, 5, 1, 0] rfl)
set_option maxRecDepth 100000 in
set_option maxHeartbeats 4000000 in
theorem wX7_inTurn_104 {N : Nat} {p : Program} {l : Launch} {e : Env} {s : State} {m : MethodId} {args : Array Value} {below : List Frame} {meth : Method} {c : Code} {z : gZ} {M : Mem} {a : Nat} {u1 : Int32} {u3 : Int32} {u4 : Int32} {o : Mem} (X : gX p m c cX7_inTurn 8 s args RX7 z) (hr : meth.sig.returnType = none) (hlk : meth.locks = false) (k_a : kd a = 7) (n_a : a + 59 ≤ gn z)  {K138 : Unit → Option Mem} (hK138 : ∀ (uu : Unit) (H : Heap) (locs : List Loc) (ls : Array Slot), K138 uu = some o → gW z M H → va_S (gA z) s.heap H locs → lv_has ls 8 [(0, .ref (gad z a)), (1, .int u1), (3, .int u3), (4, .int u4)] → W p l e { frames := 3, cells := 0, slots := 0, locals := 72 } s m args below meth c H locs 0 0 (MQ below (va_Qv (fun (_ : Unit) => True) (fun _ t => gW z o t.heap) (gA z)) args s 0 0 (gA z)) (F0 m 138 ls [])) : ∀ (n : Nat) (w7 : Int32) (H : Heap) (locs : List Loc) (ls : Array Slot), fX7_inTurn_104 N M a u1 u3 u4 K138 n w7 = some o → gW z M H → va_S (gA z) s.heap H locs → lv_has ls 8 [(0, .ref (gad z a)), (1, .int u1), (3, .int u3), (4, .int u4), (7, .int w7)] → W p l e { frames := 3, cells := 0, slots := 0, locals := 72 } s m args below meth c H locs 0 0 (MQ below (va_Qv (fun (_ : Unit) => True) (fun _ t => gW z o t.heap) (gA z)) args s 0 0 (gA z)) (F0 m 104 ls []) := by
  have hx := X.1
  have hb := X.2.1
  intro n
  induction n with
  | zero => intro w7 H locs ls h; cases h
  | succ n ih =>
    intro w7 H locs ls h hG hS hl
    rw [fX7_inTurn_104] at h
    refine lv_iload hx hb dX7_inTurn_104 (lv_at hl 4 rfl) ?_
    refine lv_iload hx hb dX7_inTurn_106 (lv_at hl 3 rfl) ?_
    refine lv_icmp_ge (tgt := 138) hx hb dX7_inTurn_108 (by decide) (fun q1 => ?_) (fun q1 => ?_)
    · have h := ite_y h q1
      exact hK138 () _ _ _ h hG hS (lv_sub hl [0, 1, 2, 3] rfl)
    · have h := ite_n h q1
      refine lv_aload_n hx hb dX7_inTurn_111 rfl (lv_at hl 0 rfl) ?_
      refine gf_X7_33 X hG (nx_0 n_a) k_a fl_X7_82 dX7_inTurn_112 ?_
      refine lv_iload hx hb dX7_inTurn_115 (lv_at hl 4 rfl) ?_
      obtain ⟨i2, h⟩ := gd_y h
      refine g_iald X hG (nx_a (a := a) (k := 58) (n := 59) n_a (Nat.le_of_ble_eq_true rfl)) (kx_7_58 k_a) (by decide) i2 dX7_inTurn_117 ?_
      refine lv_iload_n hx hb dX7_inTurn_118 rfl (lv_at hl 2 rfl) ?_
      refine lv_icmp_ne (tgt := 132) hx hb dX7_inTurn_119 (by decide) (fun q3 => ?_) (fun q3 => ?_)
      · have h := ite_n h q3
        refine lv_iinc (v := (w7 + 1)) (lv' := [(7, .int (w7 + 1)), (0, .ref (gad z a)), (1, .int u1), (3, .int u3), (4, .int u4)]) hx hb dX7_inTurn_132 hl (k := 4) rfl rfl (by decide) rfl (fun ls hl => ?_)
        refine lv_goto (tgt := 104) hx hb dX7_inTurn_135 (by decide) ?_
        exact ih (w7 + 1) _ _ _ h hG hS (lv_sub hl [1, 2, 3, 4, 0] rfl)
      · have h := ite_y h q3
        refine lv_aload_n hx hb dX7_inTurn_122 rfl (lv_at hl 0 rfl) ?_
        refine lv_iload hx hb dX7_inTurn_123 (lv_at hl 3 rfl) ?_
        refine lv_iload hx hb dX7_inTurn_125 (lv_at hl 4 rfl) ?_
        refine lv_isub hx hb dX7_inTurn_127 ?_
        refine pf_X7_36 X hG hS (nx_0 n_a) k_a fl_X7_283 dX7_inTurn_128 (fun H locs hG hS => ?_)
        obtain ⟨M4, eM4⟩ : ∃ y, y = sI M a 36 (u4 - w7) := ⟨_, rfl⟩
        rw [← eM4] at hG
        have h := nm_y h M4 eM4
        obtain rfl := Option.some.inj h
        exact g_vret X hr hlk hG hS dX7_inTurn_131
set_option maxRecDepth 100000 in
set_option maxHeartbeats 4000000 in
theorem wX7_inTurn_29 {N : Nat} {p : Program} {l : Launch} {e : Env} {s : State} {m : MethodId} {args : Array Value} {below : List Frame} {meth : Method} {c : Code} {z : gZ} {a : Nat} {u1 : Int32} {o : Mem} (X : gX p m c cX7_inTurn 8 s args RX7 z) (hr : meth.sig.returnType = none) (hlk : meth.locks = false) (k_a : kd a = 7) (n_a : a + 59 ≤ gn z)  : ∀ (n : Nat) (Mw : Mem) (w3 : Int32) (w4 : Int32) (H : Heap) (locs : List Loc) (ls : Array Slot), fX7_inTurn_29 N a u1  n Mw w3 w4 = some o → gW z Mw H → va_S (gA z) s.heap H locs → lv_has ls 8 [(0, .ref (gad z a)), (1, .int u1), (3, .int w3), (4, .int w4)] → W p l e { frames := 3, cells := 0, slots := 0, locals := 72 } s m args below meth c H locs 0 0 (MQ below (va_Qv (fun (_ : Unit) => True) (fun _ t => gW z o t.heap) (gA z)) args s 0 0 (gA z)) (F0 m 29 ls []) := by
  have hx := X.1
  have hb := X.2.1
  intro n
  induction n with
  | zero => intro Mw w3 w4 H locs ls h; cases h
  | succ n ih =>
    intro Mw w3 w4 H locs ls h hG hS hl
    rw [fX7_inTurn_29] at h
    refine lv_iload_n hx hb dX7_inTurn_29 rfl (lv_at hl 2 rfl) ?_
    refine lv_istore (lv' := [(5, .int w3), (0, .ref (gad z a)), (1, .int u1), (3, .int w3), (4, .int w4)]) hx hb dX7_inTurn_30 hl (by decide) rfl (fun ls hl => ?_)
    refine lv_iconst (v := 0) hx hb dX7_inTurn_32 (by decide) ?_
    refine lv_istore (lv' := [(6, .int 0), (5, .int w3), (0, .ref (gad z a)), (1, .int u1), (3, .int w3), (4, .int w4)]) hx hb dX7_inTurn_33 hl (by decide) rfl (fun ls hl => ?_)
    refine lv_iconst (v := 0) hx hb dX7_inTurn_35 (by decide) ?_
    refine lv_istore (lv' := [(7, .int 0), (6, .int 0), (5, .int w3), (0, .ref (gad z a)), (1, .int u1), (3, .int w3), (4, .int w4)]) hx hb dX7_inTurn_36 hl (by decide) rfl (fun ls hl => ?_)
    refine wX7_inTurn_38 X hr hlk k_a n_a ?_ _ _ _ _ _ _ _ h hG hS (lv_sub hl [3, 4, 5, 6, 1, 0] rfl)
    · intro y38_3 y38_6 H locs ls h hG hS hl
      refine lv_aload_n hx hb dX7_inTurn_76 rfl (lv_at hl 0 rfl) ?_
      refine lv_dup hx hb dX7_inTurn_77 rfl ?_
      refine gf_X7_35 X hG (nx_0 n_a) k_a fl_X7_280 dX7_inTurn_78 ?_
      refine lv_iload hx hb dX7_inTurn_81 (lv_at hl 4 rfl) ?_
      refine lv_iadd hx hb dX7_inTurn_83 ?_
      refine pf_X7_35 X hG hS (nx_0 n_a) k_a fl_X7_280 dX7_inTurn_84 (fun H locs hG hS => ?_)
      obtain ⟨M6, eM6⟩ : ∃ y, y = sI Mw a 35 ((Mw.1 a 35) + y38_6) := ⟨_, rfl⟩
      rw [← eM6] at hG
      have h := nm_y h M6 eM6
      refine lv_aload_n hx hb dX7_inTurn_87 rfl (lv_at hl 0 rfl) ?_
      refine lv_iload_n hx hb dX7_inTurn_88 rfl (lv_at hl 2 rfl) ?_
      refine pf_X7_34 X hG hS (nx_0 n_a) k_a fl_X7_286 dX7_inTurn_89 (fun H locs hG hS => ?_)
      obtain ⟨M7, eM7⟩ : ∃ y, y = sI M6 a 34 y38_3 := ⟨_, rfl⟩
      rw [← eM7] at hG
      have h := nm_y h M7 eM7
      refine lv_iload hx hb dX7_inTurn_92 (lv_at hl 4 rfl) ?_
      refine lv_if_ne (tgt := 98) hx hb dX7_inTurn_94 (by decide) (fun q8 => ?_) (fun q8 => ?_)
      · have h := ite_n h q8
        refine lv_iinc (v := (w4 + 1)) (lv' := [(4, .int (w4 + 1)), (0, .ref (gad z a)), (1, .int u1), (3, .int y38_3), (6, .int y38_6)]) hx hb dX7_inTurn_98 hl (k := 3) rfl rfl (by decide) rfl (fun ls hl => ?_)
        refine lv_iconst (v := 0) hx hb dX7_inTurn_101 (by decide) ?_
        refine lv_istore (lv' := [(7, .int 0), (4, .int (w4 + 1)), (0, .ref (gad z a)), (1, .int u1), (3, .int y38_3), (6, .int y38_6)]) hx hb dX7_inTurn_102 hl (by decide) rfl (fun ls hl => ?_)
        refine wX7_inTurn_104 X hr hlk k_a n_a ?_ _ _ _ _ _ h hG hS (lv_sub hl [2, 3, 4, 1, 0] rfl)
        · intro uu H locs ls h hG hS hl
          refine lv_aload_n hx hb dX7_inTurn_138 rfl (lv_at hl 0 rfl) ?_
          refine gf_X7_33 X hG (nx_0 n_a) k_a fl_X7_82 dX7_inTurn_139 ?_
          refine lv_iload hx hb dX7_inTurn_142 (lv_at hl 3 rfl) ?_
          refine lv_iload_n hx hb dX7_inTurn_144 rfl (lv_at hl 2 rfl) ?_
          obtain ⟨i9, h⟩ := gd_y h
          refine g_iast X hG hS (nx_a (a := a) (k := 58) (n := 59) n_a (Nat.le_of_ble_eq_true rfl)) (kx_7_58 k_a) (by decide) i9 dX7_inTurn_145 (fun H locs hG hS => ?_)
          obtain ⟨M10, eM10⟩ : ∃ y, y = sI M7 (a + 58) ((w4 + 1) : Int32).toNatClampNeg y38_3 := ⟨_, rfl⟩
          rw [← eM10] at hG
          have h := nm_y h M10 eM10
          refine lv_goto (tgt := 29) hx hb dX7_inTurn_146 (by decide) ?_
          exact ih M10 y38_3 (w4 + 1) _ _ _ h hG hS (lv_sub hl [0, 1, 2, 3] rfl)
      · have h := ite_y h q8
        obtain rfl := Option.some.inj h
        exact g_vret X hr hlk hG hS dX7_inTurn_97
set_option maxRecDepth 100000 in
set_option maxHeartbeats 4000000 in
theorem ct_X7_inTurn (l : Launch) (z : gZ) {N : Nat} {M : Mem} {a : Nat} {v1 : Int32} {v2 : Int32} {o : Mem} (k_a : kd a = 7) (n_a : a + 59 ≤ gn z) (h : fX7_inTurn N M a v1 v2 = some o) : CtV l z yX7_inTurn cX7_inTurn 8 none { frames := 3, cells := 0, slots := 0, locals := 72 } [.ref (gad z a), .int v1, .int v2] M o := by
  refine Ct_of rfl (Nat.le_of_ble_eq_true rfl) ?_
  intro p e s m below meth c ls X hr hlk hG hS hl
  have X : gX p m c _ _ s _ RX7 z := X
  have hl : lv_has ls 8 [(0, .ref (gad z a)), (1, .int v1), (2, .int v2)] := hl
  have hx := X.1
  have hb := X.2.1
  unfold fX7_inTurn at h
  refine lv_iload_n hx hb dX7_inTurn_0 rfl (lv_at hl 2 rfl) ?_
  refine lv_aload_n hx hb dX7_inTurn_1 rfl (lv_at hl 0 rfl) ?_
  refine gf_X7_13 X hG (nx_0 n_a) k_a fl_X7_46 dX7_inTurn_2 ?_
  refine lv_iload_n hx hb dX7_inTurn_5 rfl (lv_at hl 1 rfl) ?_
  obtain ⟨i1, h⟩ := gd_y h
  refine g_iald X hG (nx_a (a := a) (k := 20) (n := 59) n_a (Nat.le_of_ble_eq_true rfl)) (kx_7_20 k_a) (by decide) i1 dX7_inTurn_6 ?_
  refine lv_ior hx hb dX7_inTurn_7 ?_
  refine lv_topi (fun x2 ex2 => ?_)
  have h := nm_y h x2 ex2
  refine lv_istore_n (lv' := [(3, .int x2), (0, .ref (gad z a)), (1, .int v1), (2, .int v2)]) hx hb dX7_inTurn_8 rfl hl (by decide) rfl (fun ls hl => ?_)
  refine lv_iconst (v := 0) hx hb dX7_inTurn_9 (by decide) ?_
  refine lv_istore (lv' := [(4, .int 0), (3, .int x2), (0, .ref (gad z a)), (1, .int v1), (2, .int v2)]) hx hb dX7_inTurn_10 hl (by decide) rfl (fun ls hl => ?_)
  refine lv_aload_n hx hb dX7_inTurn_12 rfl (lv_at hl 2 rfl) ?_
  refine gf_X7_33 X hG (nx_0 n_a) k_a fl_X7_82 dX7_inTurn_13 ?_
  refine lv_iconst (v := 0) hx hb dX7_inTurn_16 (by decide) ?_
  refine lv_iload_n hx hb dX7_inTurn_17 rfl (lv_at hl 1 rfl) ?_
  refine g_iast X hG hS (nx_a (a := a) (k := 58) (n := 59) n_a (Nat.le_of_ble_eq_true rfl)) (kx_7_58 k_a) (by decide) (vin_lit (i := 0) (n := 4097) (by decide)) dX7_inTurn_18 (fun H locs hG hS => ?_)
  obtain ⟨M3, eM3⟩ : ∃ y, y = sI M (a + 58) (0 : Int32).toNatClampNeg x2 := ⟨_, rfl⟩
  rw [← eM3] at hG
  have h := nm_y h M3 eM3
  refine lv_aload_n hx hb dX7_inTurn_19 rfl (lv_at hl 2 rfl) ?_
  refine lv_iconst (v := 0) hx hb dX7_inTurn_20 (by decide) ?_
  refine pf_X7_35 X hG hS (nx_0 n_a) k_a fl_X7_280 dX7_inTurn_21 (fun H locs hG hS => ?_)
  obtain ⟨M4, eM4⟩ : ∃ y, y = sI M3 a 35 0 := ⟨_, rfl⟩
  rw [← eM4] at hG
  have h := nm_y h M4 eM4
  refine lv_aload_n hx hb dX7_inTurn_24 rfl (lv_at hl 2 rfl) ?_
  refine lv_iconst (v := 0) hx hb dX7_inTurn_25 (by decide) ?_
  refine pf_X7_36 X hG hS (nx_0 n_a) k_a fl_X7_283 dX7_inTurn_26 (fun H locs hG hS => ?_)
  obtain ⟨M5, eM5⟩ : ∃ y, y = sI M4 a 36 0 := ⟨_, rfl⟩
  rw [← eM5] at hG
  have h := nm_y h M5 eM5
  refine wX7_inTurn_29 X hr hlk k_a n_a _ _ _ _ _ _ _ h hG hS (lv_sub hl [2, 3, 1, 0] rfl)
set_option maxRecDepth 100000 in
set_option maxHeartbeats 4000000 in
theorem ct_X7_go (l : Launch) (z : gZ) {N : Nat} {M : Mem} {a : Nat} {v1 : Int32} {v2 : Int32} {o : Int32 × Mem} (k_a : kd a = 7) (n_a : a + 59 ≤ gn z) (h : fX7_go N M a v1 v2 = some o) : CtI l z yX7_go cX7_go 3 (some .int) { frames := 4, cells := 0, slots := 0, locals := 99 } [.ref (gad z a), .int v1, .int v2] M o.1 o.2 := by
  refine Ct_of rfl (Nat.le_of_ble_eq_true rfl) ?_
  intro p e s m below meth c ls X hr hlk hG hS hl
  have X : gX p m c _ _ s _ RX7 z := X
  have hl : lv_has ls 3 [(0, .ref (gad z a)), (1, .int v1), (2, .int v2)] := hl
  have hx := X.1
  have hb := X.2.1
  unfold fX7_go at h
  refine lv_aload_n hx hb dX7_go_0 rfl (lv_at hl 0 rfl) ?_
  refine lv_iload_n hx hb dX7_go_1 rfl (lv_at hl 1 rfl) ?_
  refine lv_iload_n hx hb dX7_go_2 rfl (lv_at hl 2 rfl) ?_
  refine lv_i2l hx hb dX7_go_3 rfl ?_
  obtain ⟨r1, hcr1, h⟩ := bd_y h
  refine g_cVI (a := a) (ci := 7) (T := TX7) (N := 37) (av := [.int v1, .long ((v2 : Int32).toInt64)]) (rest := []) X hG hS (ct_X7_isSet l z k_a n_a hcr1) mt_X7_isSet ml_X7_237 rfl ⟨rfl, rfl, Nat.le_of_ble_eq_true rfl, Nat.le_of_ble_eq_true rfl⟩ ⟨Nat.le_refl 0, Nat.le_refl 0⟩ (nx_0 n_a) k_a (by decide) rfl hl.1 (Nat.le_of_ble_eq_true rfl) rfl dX7_go_4 (fun H locs hG hS => ?_)
  refine lv_if_ne (tgt := 17) hx hb dX7_go_7 (by decide) (fun q2 => ?_) (fun q2 => ?_)
  · have h := ite_n h q2
    refine lv_aload_n hx hb dX7_go_17 rfl (lv_at hl 0 rfl) ?_
    refine lv_iload_n hx hb dX7_go_18 rfl (lv_at hl 1 rfl) ?_
    refine lv_iload_n hx hb dX7_go_19 rfl (lv_at hl 2 rfl) ?_
    obtain ⟨r3, hcr3, h⟩ := bd_y h
    refine g_cVV (a := a) (ci := 7) (T := TX7) (N := 37) (av := [.int v1, .int v2]) (rest := []) X hG hS (ct_X7_inTurn l z k_a n_a hcr3) mt_X7_inTurn ml_X7_289 rfl ⟨rfl, rfl, Nat.le_of_ble_eq_true rfl, Nat.le_of_ble_eq_true rfl⟩ ⟨Nat.le_refl 0, Nat.le_refl 0⟩ (nx_0 n_a) k_a (by decide) rfl hl.1 (Nat.le_of_ble_eq_true rfl) rfl dX7_go_20 (fun H locs hG hS => ?_)
    refine lv_aload_n hx hb dX7_go_23 rfl (lv_at hl 0 rfl) ?_
    refine gf_X7_36 X hG (nx_0 n_a) k_a fl_X7_283 dX7_go_24 ?_
    refine lv_if_le (tgt := 39) hx hb dX7_go_27 (by decide) (fun q4 => ?_) (fun q4 => ?_)
    · have h := ite_y h q4
      refine lv_aload_n hx hb dX7_go_39 rfl (lv_at hl 0 rfl) ?_
      refine gf_X7_34 X hG (nx_0 n_a) k_a fl_X7_286 dX7_go_40 ?_
      obtain rfl := Option.some.inj h
      exact g_iret X hr hlk hG hS dX7_go_43
    · have h := ite_n h q4
      refine lv_aload_n hx hb dX7_go_30 rfl (lv_at hl 0 rfl) ?_
      refine lv_bipush (v := (-5)) hx hb dX7_go_31 (by decide) ?_
      obtain ⟨r5, hcr5, h⟩ := bd_y h
      refine g_cVI (a := a) (ci := 7) (T := TX7) (N := 37) (av := [.int (-5)]) (rest := []) X hG hS (ct_X7_refuse l z k_a n_a hcr5) mt_X7_refuse ml_X7_106 rfl ⟨rfl, rfl, Nat.le_of_ble_eq_true rfl, Nat.le_of_ble_eq_true rfl⟩ ⟨Nat.le_refl 0, Nat.le_refl 0⟩ (nx_0 n_a) k_a (by decide) rfl hl.1 (Nat.le_of_ble_eq_true rfl) rfl dX7_go_33 (fun H locs hG hS => ?_)
      refine lv_goto (tgt := 43) hx hb dX7_go_36 (by decide) ?_
      obtain rfl := Option.some.inj h
      exact g_iret X hr hlk hG hS dX7_go_43
  · have h := ite_y h q2
    refine lv_aload_n hx hb dX7_go_10 rfl (lv_at hl 0 rfl) ?_
    refine lv_bipush (v := (-2)) hx hb dX7_go_11 (by decide) ?_
    obtain ⟨r6, hcr6, h⟩ := bd_y h
    refine g_cVI (a := a) (ci := 7) (T := TX7) (N := 37) (av := [.int (-2)]) (rest := []) X hG hS (ct_X7_refuse l z k_a n_a hcr6) mt_X7_refuse ml_X7_106 rfl ⟨rfl, rfl, Nat.le_of_ble_eq_true rfl, Nat.le_of_ble_eq_true rfl⟩ ⟨Nat.le_refl 0, Nat.le_refl 0⟩ (nx_0 n_a) k_a (by decide) rfl hl.1 (Nat.le_of_ble_eq_true rfl) rfl dX7_go_13 (fun H locs hG hS => ?_)
    obtain rfl := Option.some.inj h
    exact g_iret X hr hlk hG hS dX7_go_16
set_option maxRecDepth 100000 in
set_option maxHeartbeats 4000000 in
theorem ct_X7_turns (l : Launch) (z : gZ) {N : Nat} {M : Mem} {a : Nat} {v1 : Int32} {v2 : Int32} {o : Int32 × Mem} (k_a : kd a = 7) (n_a : a + 59 ≤ gn z) (h : fX7_turns N M a v1 v2 = some o) : CtI l z yX7_turns cX7_turns 3 (some .int) { frames := 4, cells := 0, slots := 0, locals := 99 } [.ref (gad z a), .int v1, .int v2] M o.1 o.2 := by
  refine Ct_of rfl (Nat.le_of_ble_eq_true rfl) ?_
  intro p e s m below meth c ls X hr hlk hG hS hl
  have X : gX p m c _ _ s _ RX7 z := X
  have hl : lv_has ls 3 [(0, .ref (gad z a)), (1, .int v1), (2, .int v2)] := hl
  have hx := X.1
  have hb := X.2.1
  unfold fX7_turns at h
  refine lv_aload_n hx hb dX7_turns_0 rfl (lv_at hl 0 rfl) ?_
  refine lv_iload_n hx hb dX7_turns_1 rfl (lv_at hl 1 rfl) ?_
  refine lv_iload_n hx hb dX7_turns_2 rfl (lv_at hl 2 rfl) ?_
  refine lv_i2l hx hb dX7_turns_3 rfl ?_
  obtain ⟨r1, hcr1, h⟩ := bd_y h
  refine g_cVI (a := a) (ci := 7) (T := TX7) (N := 37) (av := [.int v1, .long ((v2 : Int32).toInt64)]) (rest := []) X hG hS (ct_X7_isSet l z k_a n_a hcr1) mt_X7_isSet ml_X7_237 rfl ⟨rfl, rfl, Nat.le_of_ble_eq_true rfl, Nat.le_of_ble_eq_true rfl⟩ ⟨Nat.le_refl 0, Nat.le_refl 0⟩ (nx_0 n_a) k_a (by decide) rfl hl.1 (Nat.le_of_ble_eq_true rfl) rfl dX7_turns_4 (fun H locs hG hS => ?_)
  refine lv_if_ne (tgt := 17) hx hb dX7_turns_7 (by decide) (fun q2 => ?_) (fun q2 => ?_)
  · have h := ite_n h q2
    refine lv_aload_n hx hb dX7_turns_17 rfl (lv_at hl 0 rfl) ?_
    refine lv_iload_n hx hb dX7_turns_18 rfl (lv_at hl 1 rfl) ?_
    refine lv_iload_n hx hb dX7_turns_19 rfl (lv_at hl 2 rfl) ?_
    obtain ⟨r3, hcr3, h⟩ := bd_y h
    refine g_cVV (a := a) (ci := 7) (T := TX7) (N := 37) (av := [.int v1, .int v2]) (rest := []) X hG hS (ct_X7_inTurn l z k_a n_a hcr3) mt_X7_inTurn ml_X7_289 rfl ⟨rfl, rfl, Nat.le_of_ble_eq_true rfl, Nat.le_of_ble_eq_true rfl⟩ ⟨Nat.le_refl 0, Nat.le_refl 0⟩ (nx_0 n_a) k_a (by decide) rfl hl.1 (Nat.le_of_ble_eq_true rfl) rfl dX7_turns_20 (fun H locs hG hS => ?_)
    refine lv_aload_n hx hb dX7_turns_23 rfl (lv_at hl 0 rfl) ?_
    refine gf_X7_35 X hG (nx_0 n_a) k_a fl_X7_280 dX7_turns_24 ?_
    obtain rfl := Option.some.inj h
    exact g_iret X hr hlk hG hS dX7_turns_27
  · have h := ite_y h q2
    refine lv_aload_n hx hb dX7_turns_10 rfl (lv_at hl 0 rfl) ?_
    refine lv_bipush (v := (-2)) hx hb dX7_turns_11 (by decide) ?_
    obtain ⟨r4, hcr4, h⟩ := bd_y h
    refine g_cVI (a := a) (ci := 7) (T := TX7) (N := 37) (av := [.int (-2)]) (rest := []) X hG hS (ct_X7_refuse l z k_a n_a hcr4) mt_X7_refuse ml_X7_106 rfl ⟨rfl, rfl, Nat.le_of_ble_eq_true rfl, Nat.le_of_ble_eq_true rfl⟩ ⟨Nat.le_refl 0, Nat.le_refl 0⟩ (nx_0 n_a) k_a (by decide) rfl hl.1 (Nat.le_of_ble_eq_true rfl) rfl dX7_turns_13 (fun H locs hG hS => ?_)
    obtain rfl := Option.some.inj h
    exact g_iret X hr hlk hG hS dX7_turns_16
set_option maxRecDepth 100000 in
set_option maxHeartbeats 4000000 in
theorem ct_X7_ring (l : Launch) (z : gZ) {N : Nat} {M : Mem} {a : Nat} {v1 : Int32} {v2 : Int32} {o : Int32 × Mem} (k_a : kd a = 7) (n_a : a + 59 ≤ gn z) (h : fX7_ring N M a v1 v2 = some o) : CtI l z yX7_ring cX7_ring 3 (some .int) { frames := 4, cells := 0, slots := 0, locals := 99 } [.ref (gad z a), .int v1, .int v2] M o.1 o.2 := by
  refine Ct_of rfl (Nat.le_of_ble_eq_true rfl) ?_
  intro p e s m below meth c ls X hr hlk hG hS hl
  have X : gX p m c _ _ s _ RX7 z := X
  have hl : lv_has ls 3 [(0, .ref (gad z a)), (1, .int v1), (2, .int v2)] := hl
  have hx := X.1
  have hb := X.2.1
  unfold fX7_ring at h
  refine lv_aload_n hx hb dX7_ring_0 rfl (lv_at hl 0 rfl) ?_
  refine lv_iload_n hx hb dX7_ring_1 rfl (lv_at hl 1 rfl) ?_
  refine lv_iload_n hx hb dX7_ring_2 rfl (lv_at hl 2 rfl) ?_
  refine lv_i2l hx hb dX7_ring_3 rfl ?_
  obtain ⟨r1, hcr1, h⟩ := bd_y h
  refine g_cVI (a := a) (ci := 7) (T := TX7) (N := 37) (av := [.int v1, .long ((v2 : Int32).toInt64)]) (rest := []) X hG hS (ct_X7_isSet l z k_a n_a hcr1) mt_X7_isSet ml_X7_237 rfl ⟨rfl, rfl, Nat.le_of_ble_eq_true rfl, Nat.le_of_ble_eq_true rfl⟩ ⟨Nat.le_refl 0, Nat.le_refl 0⟩ (nx_0 n_a) k_a (by decide) rfl hl.1 (Nat.le_of_ble_eq_true rfl) rfl dX7_ring_4 (fun H locs hG hS => ?_)
  refine lv_if_ne (tgt := 17) hx hb dX7_ring_7 (by decide) (fun q2 => ?_) (fun q2 => ?_)
  · have h := ite_n h q2
    refine lv_aload_n hx hb dX7_ring_17 rfl (lv_at hl 0 rfl) ?_
    refine lv_iload_n hx hb dX7_ring_18 rfl (lv_at hl 1 rfl) ?_
    refine lv_iload_n hx hb dX7_ring_19 rfl (lv_at hl 2 rfl) ?_
    obtain ⟨r3, hcr3, h⟩ := bd_y h
    refine g_cVV (a := a) (ci := 7) (T := TX7) (N := 37) (av := [.int v1, .int v2]) (rest := []) X hG hS (ct_X7_inTurn l z k_a n_a hcr3) mt_X7_inTurn ml_X7_289 rfl ⟨rfl, rfl, Nat.le_of_ble_eq_true rfl, Nat.le_of_ble_eq_true rfl⟩ ⟨Nat.le_refl 0, Nat.le_refl 0⟩ (nx_0 n_a) k_a (by decide) rfl hl.1 (Nat.le_of_ble_eq_true rfl) rfl dX7_ring_20 (fun H locs hG hS => ?_)
    refine lv_aload_n hx hb dX7_ring_23 rfl (lv_at hl 0 rfl) ?_
    refine gf_X7_36 X hG (nx_0 n_a) k_a fl_X7_283 dX7_ring_24 ?_
    obtain rfl := Option.some.inj h
    exact g_iret X hr hlk hG hS dX7_ring_27
  · have h := ite_y h q2
    refine lv_aload_n hx hb dX7_ring_10 rfl (lv_at hl 0 rfl) ?_
    refine lv_bipush (v := (-2)) hx hb dX7_ring_11 (by decide) ?_
    obtain ⟨r4, hcr4, h⟩ := bd_y h
    refine g_cVI (a := a) (ci := 7) (T := TX7) (N := 37) (av := [.int (-2)]) (rest := []) X hG hS (ct_X7_refuse l z k_a n_a hcr4) mt_X7_refuse ml_X7_106 rfl ⟨rfl, rfl, Nat.le_of_ble_eq_true rfl, Nat.le_of_ble_eq_true rfl⟩ ⟨Nat.le_refl 0, Nat.le_refl 0⟩ (nx_0 n_a) k_a (by decide) rfl hl.1 (Nat.le_of_ble_eq_true rfl) rfl dX7_ring_13 (fun H locs hG hS => ?_)
    obtain rfl := Option.some.inj h
    exact g_iret X hr hlk hG hS dX7_ring_16
set_option maxRecDepth 100000 in
set_option maxHeartbeats 4000000 in
theorem wX7_power_5 {N : Nat} {p : Program} {l : Launch} {e : Env} {s : State} {m : MethodId} {args : Array Value} {below : List Frame} {meth : Method} {c : Code} {z : gZ} {M : Mem} {u0 : Int64} {u2 : Int32} {o : Int64} (X : gX p m c cX7_power 6 s args RX7 z) (hr : meth.sig.returnType = (some .long)) (hlk : meth.locks = false)   : ∀ (n : Nat) (w3 : Int64) (w5 : Int32) (H : Heap) (locs : List Loc) (ls : Array Slot), fX7_power_5 N M u0 u2  n w3 w5 = some o → gW z M H → va_S (gA z) s.heap H locs → lv_has ls 6 [(0, .long u0), (2, .int u2), (3, .long w3), (5, .int w5)] → W p l e { frames := 0, cells := 0, slots := 0, locals := 0 } s m args below meth c H locs 0 0 (MQ below (va_Ql (fun r' (_ : Unit) => r' = o) (fun _ t => gW z M t.heap) (gA z)) args s 0 0 (gA z)) (F0 m 5 ls []) := by
  have hx := X.1
  have hb := X.2.1
  intro n
  induction n with
  | zero => intro w3 w5 H locs ls h; cases h
  | succ n ih =>
    intro w3 w5 H locs ls h hG hS hl
    rw [fX7_power_5] at h
    refine lv_iload hx hb dX7_power_5 (lv_at hl 3 rfl) ?_
    refine lv_iload_n hx hb dX7_power_7 rfl (lv_at hl 1 rfl) ?_
    refine lv_icmp_ge (tgt := 21) hx hb dX7_power_8 (by decide) (fun q1 => ?_) (fun q1 => ?_)
    · have h := ite_y h q1
      refine lv_lload_n hx hb dX7_power_21 rfl (lv_at hl 2 rfl) ?_
      obtain rfl := Option.some.inj h
      exact g_lret X hr hlk hG hS dX7_power_22
    · have h := ite_n h q1
      refine lv_lload_n hx hb dX7_power_11 rfl (lv_at hl 2 rfl) ?_
      refine lv_lload_n hx hb dX7_power_12 rfl (lv_at hl 0 rfl) ?_
      refine lv_lmul hx hb dX7_power_13 ?_
      refine lv_topl (fun x2 ex2 => ?_)
      have h := nm_y h x2 ex2
      refine lv_lstore_n (lv' := [(3, .long x2), (0, .long u0), (2, .int u2), (5, .int w5)]) hx hb dX7_power_14 rfl hl (by decide) rfl (fun ls hl => ?_)
      refine lv_iinc (v := (w5 + 1)) (lv' := [(5, .int (w5 + 1)), (3, .long x2), (0, .long u0), (2, .int u2)]) hx hb dX7_power_15 hl (k := 3) rfl rfl (by decide) rfl (fun ls hl => ?_)
      refine lv_goto (tgt := 5) hx hb dX7_power_18 (by decide) ?_
      exact ih x2 (w5 + 1) _ _ _ h hG hS (lv_sub hl [2, 3, 1, 0] rfl)
set_option maxRecDepth 100000 in
set_option maxHeartbeats 4000000 in
theorem ct_X7_power (l : Launch) (z : gZ) {N : Nat} {M : Mem} {v0 : Int64} {v2 : Int32} {o : Int64}  (h : fX7_power N M v0 v2 = some o) : CtL l z yX7_power cX7_power 6 (some .long) { frames := 0, cells := 0, slots := 0, locals := 0 } [.long v0, .int v2] M o M := by
  refine Ct_of rfl (Nat.le_of_ble_eq_true rfl) ?_
  intro p e s m below meth c ls X hr hlk hG hS hl
  have X : gX p m c _ _ s _ RX7 z := X
  have hl : lv_has ls 6 [(0, .long v0), (2, .int v2)] := hl
  have hx := X.1
  have hb := X.2.1
  unfold fX7_power at h
  refine lv_lconst (v := 1) hx hb dX7_power_0 (by decide) ?_
  refine lv_lstore_n (lv' := [(3, .long 1), (0, .long v0), (2, .int v2)]) hx hb dX7_power_1 rfl hl (by decide) rfl (fun ls hl => ?_)
  refine lv_iconst (v := 0) hx hb dX7_power_2 (by decide) ?_
  refine lv_istore (lv' := [(5, .int 0), (3, .long 1), (0, .long v0), (2, .int v2)]) hx hb dX7_power_3 hl (by decide) rfl (fun ls hl => ?_)
  refine wX7_power_5 X hr hlk  _ _ _ _ _ _ h hG hS (lv_sub hl [2, 3, 1, 0] rfl)
set_option maxRecDepth 100000 in
set_option maxHeartbeats 4000000 in
theorem ct_X7_areChances (l : Launch) (z : gZ) {N : Nat} {M : Mem} {v0 : Int32} {v1 : Int32} {v2 : Int32} {o : Int32}  (h : fX7_areChances N M v0 v1 v2 = some o) : CtI l z yX7_areChances cX7_areChances 3 (some .boolean) { frames := 1, cells := 0, slots := 0, locals := 25 } [.int v0, .int v1, .int v2] M o M := by
  refine Ct_of rfl (Nat.le_of_ble_eq_true rfl) ?_
  intro p e s m below meth c ls X hr hlk hG hS hl
  have X : gX p m c _ _ s _ RX7 z := X
  have hl : lv_has ls 3 [(0, .int v0), (1, .int v1), (2, .int v2)] := hl
  have hx := X.1
  have hb := X.2.1
  unfold fX7_areChances at h
  refine lv_iload_n hx hb dX7_areChances_0 rfl (lv_at hl 0 rfl) ?_
  refine lv_i2l hx hb dX7_areChances_1 rfl ?_
  refine lv_lconst (v := 1) hx hb dX7_areChances_2 (by decide) ?_
  refine lv_ldc2 (v := 99) hx hb X.2.2.2.1 (X.2.2.2.2.1 _ cn_X7_233) dX7_areChances_3 ?_
  obtain ⟨r1, hcr1, h⟩ := bd_y h
  refine g_cSI (av := [.long ((v0 : Int32).toInt64), .long 1, .long 99]) (rest := []) X hG hS (ct_X7_in l z  hcr1) mt_X7_in ml_X7_88 rfl ⟨rfl, rfl, Nat.le_of_ble_eq_true rfl, Nat.le_of_ble_eq_true rfl⟩ ⟨Nat.le_refl 0, Nat.le_refl 0⟩ hl.1 (Nat.le_of_ble_eq_true rfl) rfl dX7_areChances_6 (fun H locs hG hS => ?_)
  refine lv_if_eq (tgt := 40) hx hb dX7_areChances_9 (by decide) (fun q2 => ?_) (fun q2 => ?_)
  · have h := ite_y h q2
    refine lv_iconst (v := 0) hx hb dX7_areChances_40 (by decide) ?_
    obtain rfl := Option.some.inj h
    exact g_zret (zn (Or.inl rfl)) X hr hlk hG hS dX7_areChances_41
  · have h := ite_n h q2
    refine lv_iload_n hx hb dX7_areChances_12 rfl (lv_at hl 1 rfl) ?_
    refine lv_i2l hx hb dX7_areChances_13 rfl ?_
    refine lv_lconst (v := 1) hx hb dX7_areChances_14 (by decide) ?_
    refine lv_ldc2 (v := 99) hx hb X.2.2.2.1 (X.2.2.2.2.1 _ cn_X7_233) dX7_areChances_15 ?_
    obtain ⟨r3, hcr3, h⟩ := bd_y h
    refine g_cSI (av := [.long ((v1 : Int32).toInt64), .long 1, .long 99]) (rest := []) X hG hS (ct_X7_in l z  hcr3) mt_X7_in ml_X7_88 rfl ⟨rfl, rfl, Nat.le_of_ble_eq_true rfl, Nat.le_of_ble_eq_true rfl⟩ ⟨Nat.le_refl 0, Nat.le_refl 0⟩ hl.1 (Nat.le_of_ble_eq_true rfl) rfl dX7_areChances_18 (fun H locs hG hS => ?_)
    refine lv_if_eq (tgt := 40) hx hb dX7_areChances_21 (by decide) (fun q4 => ?_) (fun q4 => ?_)
    · have h := ite_y h q4
      refine lv_iconst (v := 0) hx hb dX7_areChances_40 (by decide) ?_
      obtain rfl := Option.some.inj h
      exact g_zret (zn (Or.inl rfl)) X hr hlk hG hS dX7_areChances_41
    · have h := ite_n h q4
      refine lv_iload_n hx hb dX7_areChances_24 rfl (lv_at hl 2 rfl) ?_
      refine lv_i2l hx hb dX7_areChances_25 rfl ?_
      refine lv_lconst (v := 1) hx hb dX7_areChances_26 (by decide) ?_
      refine lv_ldc2 (v := 5) hx hb X.2.2.2.1 (X.2.2.2.2.1 _ cn_X7_119) dX7_areChances_27 ?_
      obtain ⟨r5, hcr5, h⟩ := bd_y h
      refine g_cSI (av := [.long ((v2 : Int32).toInt64), .long 1, .long 5]) (rest := []) X hG hS (ct_X7_in l z  hcr5) mt_X7_in ml_X7_88 rfl ⟨rfl, rfl, Nat.le_of_ble_eq_true rfl, Nat.le_of_ble_eq_true rfl⟩ ⟨Nat.le_refl 0, Nat.le_refl 0⟩ hl.1 (Nat.le_of_ble_eq_true rfl) rfl dX7_areChances_30 (fun H locs hG hS => ?_)
      refine lv_if_eq (tgt := 40) hx hb dX7_areChances_33 (by decide) (fun q6 => ?_) (fun q6 => ?_)
      · have h := ite_y h q6
        refine lv_iconst (v := 0) hx hb dX7_areChances_40 (by decide) ?_
        obtain rfl := Option.some.inj h
        exact g_zret (zn (Or.inl rfl)) X hr hlk hG hS dX7_areChances_41
      · have h := ite_n h q6
        refine lv_iconst (v := 1) hx hb dX7_areChances_36 (by decide) ?_
        refine lv_goto (tgt := 41) hx hb dX7_areChances_37 (by decide) ?_
        obtain rfl := Option.some.inj h
        exact g_zret (zn (Or.inr rfl)) X hr hlk hG hS dX7_areChances_41
set_option maxRecDepth 100000 in
set_option maxHeartbeats 4000000 in
theorem wX7_lotOf_4 {N : Nat} {p : Program} {l : Launch} {e : Env} {s : State} {m : MethodId} {args : Array Value} {below : List Frame} {meth : Method} {c : Code} {z : gZ} {M : Mem} {u0 : Int32} {u1 : Int32} {u2 : Int32} {o : Int32} (X : gX p m c cX7_lotOf 4 s args RX7 z) (hr : meth.sig.returnType = (some .int)) (hlk : meth.locks = false)   : ∀ (n : Nat) (w3 : Int32) (H : Heap) (locs : List Loc) (ls : Array Slot), fX7_lotOf_4 N M u0 u1 u2  n w3 = some o → gW z M H → va_S (gA z) s.heap H locs → lv_has ls 4 [(0, .int u0), (1, .int u1), (2, .int u2), (3, .int w3)] → W p l e { frames := 1, cells := 0, slots := 0, locals := 25 } s m args below meth c H locs 0 0 (MQ below (va_Qi (fun r' (_ : Unit) => r' = o) (fun _ t => gW z M t.heap) (gA z)) args s 0 0 (gA z)) (F0 m 4 ls []) := by
  have hx := X.1
  have hb := X.2.1
  intro n
  induction n with
  | zero => intro w3 H locs ls h; cases h
  | succ n ih =>
    intro w3 H locs ls h hG hS hl
    rw [fX7_lotOf_4] at h
    refine lv_iload_n hx hb dX7_lotOf_4 rfl (lv_at hl 3 rfl) ?_
    refine lv_if_le (tgt := 43) hx hb dX7_lotOf_5 (by decide) (fun q1 => ?_) (fun q1 => ?_)
    · have h := ite_y h q1
      refine lv_iconst (v := 0) hx hb dX7_lotOf_43 (by decide) ?_
      obtain rfl := Option.some.inj h
      exact g_iret X hr hlk hG hS dX7_lotOf_44
    · have h := ite_n h q1
      refine lv_iload_n hx hb dX7_lotOf_8 rfl (lv_at hl 1 rfl) ?_
      refine lv_i2l hx hb dX7_lotOf_9 rfl ?_
      refine lv_sipush (v := 1000) hx hb dX7_lotOf_10 (by decide) ?_
      refine lv_iload_n hx hb dX7_lotOf_13 rfl (lv_at hl 3 rfl) ?_
      refine lv_isub hx hb dX7_lotOf_14 ?_
      refine lv_i2l hx hb dX7_lotOf_15 rfl ?_
      refine lv_iload_n hx hb dX7_lotOf_16 rfl (lv_at hl 2 rfl) ?_
      obtain ⟨r2, hcr2, h⟩ := bd_y h
      refine g_cSL (av := [.long (((1000 - w3) : Int32).toInt64), .int u2]) (rest := [.long ((u1 : Int32).toInt64)]) X hG hS (ct_X7_power l z  hcr2) mt_X7_power ml_X7_292 rfl ⟨rfl, rfl, Nat.le_of_ble_eq_true rfl, Nat.le_of_ble_eq_true rfl⟩ ⟨Nat.le_refl 0, Nat.le_refl 0⟩ hl.1 (Nat.le_of_ble_eq_true rfl) rfl dX7_lotOf_17 (fun H locs hG hS => ?_)
      refine lv_lmul hx hb dX7_lotOf_20 ?_
      refine lv_iload_n hx hb dX7_lotOf_21 rfl (lv_at hl 0 rfl) ?_
      refine lv_i2l hx hb dX7_lotOf_22 rfl ?_
      refine lv_ldc2 (v := 1000) hx hb X.2.2.2.1 (X.2.2.2.2.1 _ cn_X7_113) dX7_lotOf_23 ?_
      refine lv_iload_n hx hb dX7_lotOf_26 rfl (lv_at hl 2 rfl) ?_
      obtain ⟨r3, hcr3, h⟩ := bd_y h
      refine g_cSL (av := [.long 1000, .int u2]) (rest := [.long ((u0 : Int32).toInt64), .long (((u1 : Int32).toInt64) * r2)]) X hG hS (ct_X7_power l z  hcr3) mt_X7_power ml_X7_292 rfl ⟨rfl, rfl, Nat.le_of_ble_eq_true rfl, Nat.le_of_ble_eq_true rfl⟩ ⟨Nat.le_refl 0, Nat.le_refl 0⟩ hl.1 (Nat.le_of_ble_eq_true rfl) rfl dX7_lotOf_27 (fun H locs hG hS => ?_)
      refine lv_lmul hx hb dX7_lotOf_30 ?_
      refine W.lcmp hx hb dX7_lotOf_31 ?_
      refine lv_if_lt (tgt := 37) hx hb dX7_lotOf_32 (by decide) (fun q4 => ?_) (fun q4 => ?_)
      · have h := ite_y h q4
        refine lv_iinc (v := (w3 + (-1))) (lv' := [(3, .int (w3 + (-1))), (0, .int u0), (1, .int u1), (2, .int u2)]) hx hb dX7_lotOf_37 hl (k := 3) rfl rfl (by decide) rfl (fun ls hl => ?_)
        refine lv_goto (tgt := 4) hx hb dX7_lotOf_40 (by decide) ?_
        exact ih (w3 + (-1)) _ _ _ h hG hS (lv_sub hl [1, 2, 3, 0] rfl)
      · have h := ite_n h q4
        refine lv_iload_n hx hb dX7_lotOf_35 rfl (lv_at hl 3 rfl) ?_
        obtain rfl := Option.some.inj h
        exact g_iret X hr hlk hG hS dX7_lotOf_36
set_option maxRecDepth 100000 in
set_option maxHeartbeats 4000000 in
theorem ct_X7_lotOf (l : Launch) (z : gZ) {N : Nat} {M : Mem} {v0 : Int32} {v1 : Int32} {v2 : Int32} {o : Int32}  (h : fX7_lotOf N M v0 v1 v2 = some o) : CtI l z yX7_lotOf cX7_lotOf 4 (some .int) { frames := 1, cells := 0, slots := 0, locals := 25 } [.int v0, .int v1, .int v2] M o M := by
  refine Ct_of rfl (Nat.le_of_ble_eq_true rfl) ?_
  intro p e s m below meth c ls X hr hlk hG hS hl
  have X : gX p m c _ _ s _ RX7 z := X
  have hl : lv_has ls 4 [(0, .int v0), (1, .int v1), (2, .int v2)] := hl
  have hx := X.1
  have hb := X.2.1
  unfold fX7_lotOf at h
  refine lv_sipush (v := 1000) hx hb dX7_lotOf_0 (by decide) ?_
  refine lv_istore_n (lv' := [(3, .int 1000), (0, .int v0), (1, .int v1), (2, .int v2)]) hx hb dX7_lotOf_3 rfl hl (by decide) rfl (fun ls hl => ?_)
  refine wX7_lotOf_4 X hr hlk  _ _ _ _ _ h hG hS (lv_sub hl [1, 2, 3, 0] rfl)
set_option maxRecDepth 100000 in
set_option maxHeartbeats 4000000 in
theorem ct_X7_lot (l : Launch) (z : gZ) {N : Nat} {M : Mem} {a : Nat} {v1 : Int32} {v2 : Int32} {v3 : Int32} {o : Int32 × Mem} (k_a : kd a = 7) (n_a : a + 59 ≤ gn z) (h : fX7_lot N M a v1 v2 v3 = some o) : CtI l z yX7_lot cX7_lot 4 (some .int) { frames := 2, cells := 0, slots := 0, locals := 48 } [.ref (gad z a), .int v1, .int v2, .int v3] M o.1 o.2 := by
  refine Ct_of rfl (Nat.le_of_ble_eq_true rfl) ?_
  intro p e s m below meth c ls X hr hlk hG hS hl
  have X : gX p m c _ _ s _ RX7 z := X
  have hl : lv_has ls 4 [(0, .ref (gad z a)), (1, .int v1), (2, .int v2), (3, .int v3)] := hl
  have hx := X.1
  have hb := X.2.1
  unfold fX7_lot at h
  refine lv_iload_n hx hb dX7_lot_0 rfl (lv_at hl 1 rfl) ?_
  refine lv_iload_n hx hb dX7_lot_1 rfl (lv_at hl 2 rfl) ?_
  refine lv_iload_n hx hb dX7_lot_2 rfl (lv_at hl 3 rfl) ?_
  obtain ⟨r1, hcr1, h⟩ := bd_y h
  refine g_cSI (av := [.int v1, .int v2, .int v3]) (rest := []) X hG hS (ct_X7_areChances l z  hcr1) mt_X7_areChances ml_X7_296 rfl ⟨rfl, rfl, Nat.le_of_ble_eq_true rfl, Nat.le_of_ble_eq_true rfl⟩ ⟨Nat.le_refl 0, Nat.le_refl 0⟩ hl.1 (Nat.le_of_ble_eq_true rfl) rfl dX7_lot_3 (fun H locs hG hS => ?_)
  refine lv_if_eq (tgt := 18) hx hb dX7_lot_6 (by decide) (fun q2 => ?_) (fun q2 => ?_)
  · have h := ite_y h q2
    refine lv_aload_n hx hb dX7_lot_18 rfl (lv_at hl 0 rfl) ?_
    refine lv_bipush (v := (-2)) hx hb dX7_lot_19 (by decide) ?_
    obtain ⟨r3, hcr3, h⟩ := bd_y h
    refine g_cVI (a := a) (ci := 7) (T := TX7) (N := 37) (av := [.int (-2)]) (rest := []) X hG hS (ct_X7_refuse l z k_a n_a hcr3) mt_X7_refuse ml_X7_106 rfl ⟨rfl, rfl, Nat.le_of_ble_eq_true rfl, Nat.le_of_ble_eq_true rfl⟩ ⟨Nat.le_refl 0, Nat.le_refl 0⟩ (nx_0 n_a) k_a (by decide) rfl hl.1 (Nat.le_of_ble_eq_true rfl) rfl dX7_lot_21 (fun H locs hG hS => ?_)
    obtain rfl := Option.some.inj h
    exact g_iret X hr hlk hG hS dX7_lot_24
  · have h := ite_n h q2
    refine lv_iload_n hx hb dX7_lot_9 rfl (lv_at hl 1 rfl) ?_
    refine lv_iload_n hx hb dX7_lot_10 rfl (lv_at hl 2 rfl) ?_
    refine lv_iload_n hx hb dX7_lot_11 rfl (lv_at hl 3 rfl) ?_
    obtain ⟨r4, hcr4, h⟩ := bd_y h
    refine g_cSI (av := [.int v1, .int v2, .int v3]) (rest := []) X hG hS (ct_X7_lotOf l z  hcr4) mt_X7_lotOf ml_X7_299 rfl ⟨rfl, rfl, Nat.le_of_ble_eq_true rfl, Nat.le_of_ble_eq_true rfl⟩ ⟨Nat.le_refl 0, Nat.le_refl 0⟩ hl.1 (Nat.le_of_ble_eq_true rfl) rfl dX7_lot_12 (fun H locs hG hS => ?_)
    refine lv_goto (tgt := 24) hx hb dX7_lot_15 (by decide) ?_
    obtain rfl := Option.some.inj h
    exact g_iret X hr hlk hG hS dX7_lot_24
set_option maxRecDepth 100000 in
set_option maxHeartbeats 4000000 in
theorem ct_X7_nobody (l : Launch) (z : gZ) {N : Nat} {M : Mem} {a : Nat} {v1 : Int32} {v2 : Int32} {v3 : Int32} {o : Int32 × Mem} (k_a : kd a = 7) (n_a : a + 59 ≤ gn z) (h : fX7_nobody N M a v1 v2 v3 = some o) : CtI l z yX7_nobody cX7_nobody 4 (some .int) { frames := 2, cells := 0, slots := 0, locals := 48 } [.ref (gad z a), .int v1, .int v2, .int v3] M o.1 o.2 := by
  refine Ct_of rfl (Nat.le_of_ble_eq_true rfl) ?_
  intro p e s m below meth c ls X hr hlk hG hS hl
  have X : gX p m c _ _ s _ RX7 z := X
  have hl : lv_has ls 4 [(0, .ref (gad z a)), (1, .int v1), (2, .int v2), (3, .int v3)] := hl
  have hx := X.1
  have hb := X.2.1
  unfold fX7_nobody at h
  refine lv_iload_n hx hb dX7_nobody_0 rfl (lv_at hl 1 rfl) ?_
  refine lv_iload_n hx hb dX7_nobody_1 rfl (lv_at hl 2 rfl) ?_
  refine lv_iload_n hx hb dX7_nobody_2 rfl (lv_at hl 3 rfl) ?_
  obtain ⟨r1, hcr1, h⟩ := bd_y h
  refine g_cSI (av := [.int v1, .int v2, .int v3]) (rest := []) X hG hS (ct_X7_areChances l z  hcr1) mt_X7_areChances ml_X7_296 rfl ⟨rfl, rfl, Nat.le_of_ble_eq_true rfl, Nat.le_of_ble_eq_true rfl⟩ ⟨Nat.le_refl 0, Nat.le_refl 0⟩ hl.1 (Nat.le_of_ble_eq_true rfl) rfl dX7_nobody_3 (fun H locs hG hS => ?_)
  refine lv_if_ne (tgt := 16) hx hb dX7_nobody_6 (by decide) (fun q2 => ?_) (fun q2 => ?_)
  · have h := ite_n h q2
    refine lv_sipush (v := 1000) hx hb dX7_nobody_16 (by decide) ?_
    refine lv_iload_n hx hb dX7_nobody_19 rfl (lv_at hl 1 rfl) ?_
    refine lv_iload_n hx hb dX7_nobody_20 rfl (lv_at hl 2 rfl) ?_
    refine lv_iload_n hx hb dX7_nobody_21 rfl (lv_at hl 3 rfl) ?_
    obtain ⟨r3, hcr3, h⟩ := bd_y h
    refine g_cSI (av := [.int v1, .int v2, .int v3]) (rest := [.int 1000]) X hG hS (ct_X7_lotOf l z  hcr3) mt_X7_lotOf ml_X7_299 rfl ⟨rfl, rfl, Nat.le_of_ble_eq_true rfl, Nat.le_of_ble_eq_true rfl⟩ ⟨Nat.le_refl 0, Nat.le_refl 0⟩ hl.1 (Nat.le_of_ble_eq_true rfl) rfl dX7_nobody_22 (fun H locs hG hS => ?_)
    refine lv_isub hx hb dX7_nobody_25 ?_
    refine lv_i2l hx hb dX7_nobody_26 rfl ?_
    refine lv_iload_n hx hb dX7_nobody_27 rfl (lv_at hl 3 rfl) ?_
    refine lv_iconst (v := 1) hx hb dX7_nobody_28 (by decide) ?_
    refine lv_iadd hx hb dX7_nobody_29 ?_
    obtain ⟨r4, hcr4, h⟩ := bd_y h
    refine g_cSL (av := [.long (((1000 - r3) : Int32).toInt64), .int (v3 + 1)]) (rest := []) X hG hS (ct_X7_power l z  hcr4) mt_X7_power ml_X7_292 rfl ⟨rfl, rfl, Nat.le_of_ble_eq_true rfl, Nat.le_of_ble_eq_true rfl⟩ ⟨Nat.le_refl 0, Nat.le_refl 0⟩ hl.1 (Nat.le_of_ble_eq_true rfl) rfl dX7_nobody_30 (fun H locs hG hS => ?_)
    refine lv_ldc2 (v := 1000) hx hb X.2.2.2.1 (X.2.2.2.2.1 _ cn_X7_113) dX7_nobody_33 ?_
    refine lv_iload_n hx hb dX7_nobody_36 rfl (lv_at hl 3 rfl) ?_
    refine lv_iconst (v := 1) hx hb dX7_nobody_37 (by decide) ?_
    refine lv_isub hx hb dX7_nobody_38 ?_
    obtain ⟨r5, hcr5, h⟩ := bd_y h
    refine g_cSL (av := [.long 1000, .int (v3 - 1)]) (rest := [.long r4]) X hG hS (ct_X7_power l z  hcr5) mt_X7_power ml_X7_292 rfl ⟨rfl, rfl, Nat.le_of_ble_eq_true rfl, Nat.le_of_ble_eq_true rfl⟩ ⟨Nat.le_refl 0, Nat.le_refl 0⟩ hl.1 (Nat.le_of_ble_eq_true rfl) rfl dX7_nobody_39 (fun H locs hG hS => ?_)
    obtain ⟨q6, h⟩ := gc_y h
    refine lv_ldiv hx hb dX7_nobody_42 q6 ?_
    refine lv_l2i hx hb dX7_nobody_43 rfl ?_
    obtain rfl := Option.some.inj h
    exact g_iret X hr hlk hG hS dX7_nobody_44
  · have h := ite_y h q2
    refine lv_aload_n hx hb dX7_nobody_9 rfl (lv_at hl 0 rfl) ?_
    refine lv_bipush (v := (-2)) hx hb dX7_nobody_10 (by decide) ?_
    obtain ⟨r7, hcr7, h⟩ := bd_y h
    refine g_cVI (a := a) (ci := 7) (T := TX7) (N := 37) (av := [.int (-2)]) (rest := []) X hG hS (ct_X7_refuse l z k_a n_a hcr7) mt_X7_refuse ml_X7_106 rfl ⟨rfl, rfl, Nat.le_of_ble_eq_true rfl, Nat.le_of_ble_eq_true rfl⟩ ⟨Nat.le_refl 0, Nat.le_refl 0⟩ (nx_0 n_a) k_a (by decide) rfl hl.1 (Nat.le_of_ble_eq_true rfl) rfl dX7_nobody_12 (fun H locs hG hS => ?_)
    obtain rfl := Option.some.inj h
    exact g_iret X hr hlk hG hS dX7_nobody_15
set_option maxRecDepth 100000 in
set_option maxHeartbeats 4000000 in
theorem ct_X7_know (l : Launch) (z : gZ) {N : Nat} {M : Mem} {a : Nat} {v1 : Int32} {v2 : Int32} {o : Int32 × Mem} (k_a : kd a = 7) (n_a : a + 59 ≤ gn z) (h : fX7_know N M a v1 v2 = some o) : CtI l z yX7_know cX7_know 4 (some .int) { frames := 1, cells := 0, slots := 0, locals := 25 } [.ref (gad z a), .int v1, .int v2] M o.1 o.2 := by
  refine Ct_of rfl (Nat.le_of_ble_eq_true rfl) ?_
  intro p e s m below meth c ls X hr hlk hG hS hl
  have X : gX p m c _ _ s _ RX7 z := X
  have hl : lv_has ls 4 [(0, .ref (gad z a)), (1, .int v1), (2, .int v2)] := hl
  have hx := X.1
  have hb := X.2.1
  unfold fX7_know at h
  refine lv_iload_n hx hb dX7_know_0 rfl (lv_at hl 1 rfl) ?_
  refine lv_i2l hx hb dX7_know_1 rfl ?_
  refine lv_lconst (v := 0) hx hb dX7_know_2 (by decide) ?_
  refine lv_ldc2 (v := 5) hx hb X.2.2.2.1 (X.2.2.2.2.1 _ cn_X7_119) dX7_know_3 ?_
  obtain ⟨r1, hcr1, h⟩ := bd_y h
  refine g_cSI (av := [.long ((v1 : Int32).toInt64), .long 0, .long 5]) (rest := []) X hG hS (ct_X7_in l z  hcr1) mt_X7_in ml_X7_88 rfl ⟨rfl, rfl, Nat.le_of_ble_eq_true rfl, Nat.le_of_ble_eq_true rfl⟩ ⟨Nat.le_refl 0, Nat.le_refl 0⟩ hl.1 (Nat.le_of_ble_eq_true rfl) rfl dX7_know_6 (fun H locs hG hS => ?_)
  refine lv_if_eq (tgt := 24) hx hb dX7_know_9 (by decide) (fun q2 => ?_) (fun q2 => ?_)
  · have h := ite_y h q2
    refine lv_aload_n hx hb dX7_know_24 rfl (lv_at hl 0 rfl) ?_
    refine lv_bipush (v := (-2)) hx hb dX7_know_25 (by decide) ?_
    obtain ⟨r3, hcr3, h⟩ := bd_y h
    refine g_cVI (a := a) (ci := 7) (T := TX7) (N := 37) (av := [.int (-2)]) (rest := []) X hG hS (ct_X7_refuse l z k_a n_a hcr3) mt_X7_refuse ml_X7_106 rfl ⟨rfl, rfl, Nat.le_of_ble_eq_true rfl, Nat.le_of_ble_eq_true rfl⟩ ⟨Nat.le_refl 0, Nat.le_refl 0⟩ (nx_0 n_a) k_a (by decide) rfl hl.1 (Nat.le_of_ble_eq_true rfl) rfl dX7_know_27 (fun H locs hG hS => ?_)
    obtain rfl := Option.some.inj h
    exact g_iret X hr hlk hG hS dX7_know_30
  · have h := ite_n h q2
    refine lv_iload_n hx hb dX7_know_12 rfl (lv_at hl 2 rfl) ?_
    refine lv_i2l hx hb dX7_know_13 rfl ?_
    refine lv_lconst (v := 0) hx hb dX7_know_14 (by decide) ?_
    refine lv_ldc2 (v := 20) hx hb X.2.2.2.1 (X.2.2.2.2.1 _ cn_X7_302) dX7_know_15 ?_
    obtain ⟨r4, hcr4, h⟩ := bd_y h
    refine g_cSI (av := [.long ((v2 : Int32).toInt64), .long 0, .long 20]) (rest := []) X hG hS (ct_X7_in l z  hcr4) mt_X7_in ml_X7_88 rfl ⟨rfl, rfl, Nat.le_of_ble_eq_true rfl, Nat.le_of_ble_eq_true rfl⟩ ⟨Nat.le_refl 0, Nat.le_refl 0⟩ hl.1 (Nat.le_of_ble_eq_true rfl) rfl dX7_know_18 (fun H locs hG hS => ?_)
    refine lv_if_ne (tgt := 31) hx hb dX7_know_21 (by decide) (fun q5 => ?_) (fun q5 => ?_)
    · have h := ite_n h q5
      refine lv_aload_n hx hb dX7_know_31 rfl (lv_at hl 0 rfl) ?_
      refine gf_X7_20 X hG (nx_0 n_a) k_a fl_X7_69 dX7_know_32 ?_
      refine lv_iload_n hx hb dX7_know_35 rfl (lv_at hl 1 rfl) ?_
      obtain ⟨i6, h⟩ := gd_y h
      refine g_iald X hG (nx_a (a := a) (k := 57) (n := 59) n_a (Nat.le_of_ble_eq_true rfl)) (kx_7_57 k_a) (by decide) i6 dX7_know_36 ?_
      refine lv_topi (fun x7 ex7 => ?_)
      have h := nm_y h x7 ex7
      refine lv_istore_n (lv' := [(3, .int x7), (0, .ref (gad z a)), (1, .int v1), (2, .int v2)]) hx hb dX7_know_37 rfl hl (by decide) rfl (fun ls hl => ?_)
      refine lv_aload_n hx hb dX7_know_38 rfl (lv_at hl 1 rfl) ?_
      refine gf_X7_20 X hG (nx_0 n_a) k_a fl_X7_69 dX7_know_39 ?_
      refine lv_iload_n hx hb dX7_know_42 rfl (lv_at hl 2 rfl) ?_
      refine lv_iload_n hx hb dX7_know_43 rfl (lv_at hl 3 rfl) ?_
      refine g_iast X hG hS (nx_a (a := a) (k := 57) (n := 59) n_a (Nat.le_of_ble_eq_true rfl)) (kx_7_57 k_a) (by decide) i6 dX7_know_44 (fun H locs hG hS => ?_)
      obtain ⟨M8, eM8⟩ : ∃ y, y = sI M (a + 57) (v1 : Int32).toNatClampNeg v2 := ⟨_, rfl⟩
      rw [← eM8] at hG
      have h := nm_y h M8 eM8
      refine lv_iload_n hx hb dX7_know_45 rfl (lv_at hl 0 rfl) ?_
      obtain rfl := Option.some.inj h
      exact g_iret X hr hlk hG hS dX7_know_46
    · have h := ite_y h q5
      refine lv_aload_n hx hb dX7_know_24 rfl (lv_at hl 0 rfl) ?_
      refine lv_bipush (v := (-2)) hx hb dX7_know_25 (by decide) ?_
      obtain ⟨r9, hcr9, h⟩ := bd_y h
      refine g_cVI (a := a) (ci := 7) (T := TX7) (N := 37) (av := [.int (-2)]) (rest := []) X hG hS (ct_X7_refuse l z k_a n_a hcr9) mt_X7_refuse ml_X7_106 rfl ⟨rfl, rfl, Nat.le_of_ble_eq_true rfl, Nat.le_of_ble_eq_true rfl⟩ ⟨Nat.le_refl 0, Nat.le_refl 0⟩ (nx_0 n_a) k_a (by decide) rfl hl.1 (Nat.le_of_ble_eq_true rfl) rfl dX7_know_27 (fun H locs hG hS => ?_)
      obtain rfl := Option.some.inj h
      exact g_iret X hr hlk hG hS dX7_know_30
set_option maxRecDepth 100000 in
set_option maxHeartbeats 4000000 in
theorem wX7_bar_107 {N : Nat} {p : Program} {l : Launch} {e : Env} {s : State} {m : MethodId} {args : Array Value} {below : List Frame} {meth : Method} {c : Code} {z : gZ} {M : Mem} {a : Nat} {u1 : Int32} {u2 : Int32} {u3 : Int64} {u5 : Int64} {u7 : Int32} {o : Int32 × Mem} (X : gX p m c cX7_bar 11 s args RX7 z) (hr : meth.sig.returnType = (some .int)) (hlk : meth.locks = false) (k_a : kd a = 7) (n_a : a + 59 ≤ gn z)  {K188 : Int32 → Option (Int32 × Mem)} (hK188 : ∀ (w8 : Int32) (H : Heap) (locs : List Loc) (ls : Array Slot), K188 w8 = some o → gW z M H → va_S (gA z) s.heap H locs → lv_has ls 11 [(0, .ref (gad z a)), (1, .int u1), (2, .int u2), (3, .long u3), (5, .long u5), (7, .int u7), (8, .int w8)] → W p l e { frames := 1, cells := 0, slots := 0, locals := 25 } s m args below meth c H locs 0 0 (MQ below (va_Qi (fun r' (_ : Unit) => r' = o.1) (fun _ t => gW z o.2 t.heap) (gA z)) args s 0 0 (gA z)) (F0 m 188 ls [])) : ∀ (n : Nat) (w8 : Int32) (w9 : Int32) (H : Heap) (locs : List Loc) (ls : Array Slot), fX7_bar_107 N M a u1 u2 u3 u5 u7 K188 n w8 w9 = some o → gW z M H → va_S (gA z) s.heap H locs → lv_has ls 11 [(0, .ref (gad z a)), (1, .int u1), (2, .int u2), (3, .long u3), (5, .long u5), (7, .int u7), (8, .int w8), (9, .int w9)] → W p l e { frames := 1, cells := 0, slots := 0, locals := 25 } s m args below meth c H locs 0 0 (MQ below (va_Qi (fun r' (_ : Unit) => r' = o.1) (fun _ t => gW z o.2 t.heap) (gA z)) args s 0 0 (gA z)) (F0 m 107 ls []) := by
  have hx := X.1
  have hb := X.2.1
  intro n
  induction n with
  | zero => intro w8 w9 H locs ls h; cases h
  | succ n ih =>
    intro w8 w9 H locs ls h hG hS hl
    rw [fX7_bar_107] at h
    refine lv_iload hx hb dX7_bar_107 (lv_at hl 7 rfl) ?_
    refine lv_iconst (v := 5) hx hb dX7_bar_109 (by decide) ?_
    refine lv_icmp_gt (tgt := 188) hx hb dX7_bar_110 (by decide) (fun q1 => ?_) (fun q1 => ?_)
    · have h := ite_y h q1
      exact hK188 w8 _ _ _ h hG hS (lv_sub hl [0, 1, 2, 3, 4, 5, 6] rfl)
    · have h := ite_n h q1
      refine lv_iload_n hx hb dX7_bar_113 rfl (lv_at hl 2 rfl) ?_
      refine lv_i2l hx hb dX7_bar_114 rfl ?_
      refine lv_lload_n hx hb dX7_bar_115 rfl (lv_at hl 3 rfl) ?_
      refine lv_lload hx hb dX7_bar_116 (lv_at hl 4 rfl) ?_
      refine lv_lsub hx hb dX7_bar_118 ?_
      refine lv_iload hx hb dX7_bar_119 (lv_at hl 7 rfl) ?_
      obtain ⟨r2, hcr2, h⟩ := bd_y h
      refine g_cSL (av := [.long (u3 - u5), .int w9]) (rest := [.long ((u2 : Int32).toInt64)]) X hG hS (ct_X7_power l z  hcr2) mt_X7_power ml_X7_292 rfl ⟨rfl, rfl, Nat.le_of_ble_eq_true rfl, Nat.le_of_ble_eq_true rfl⟩ ⟨Nat.le_refl 0, Nat.le_refl 0⟩ hl.1 (Nat.le_of_ble_eq_true rfl) rfl dX7_bar_121 (fun H locs hG hS => ?_)
      refine lv_lmul hx hb dX7_bar_124 ?_
      refine lv_iload_n hx hb dX7_bar_125 rfl (lv_at hl 1 rfl) ?_
      refine lv_i2l hx hb dX7_bar_126 rfl ?_
      refine lv_lload_n hx hb dX7_bar_127 rfl (lv_at hl 3 rfl) ?_
      refine lv_iload hx hb dX7_bar_128 (lv_at hl 7 rfl) ?_
      obtain ⟨r3, hcr3, h⟩ := bd_y h
      refine g_cSL (av := [.long u3, .int w9]) (rest := [.long ((u1 : Int32).toInt64), .long (((u2 : Int32).toInt64) * r2)]) X hG hS (ct_X7_power l z  hcr3) mt_X7_power ml_X7_292 rfl ⟨rfl, rfl, Nat.le_of_ble_eq_true rfl, Nat.le_of_ble_eq_true rfl⟩ ⟨Nat.le_refl 0, Nat.le_refl 0⟩ hl.1 (Nat.le_of_ble_eq_true rfl) rfl dX7_bar_130 (fun H locs hG hS => ?_)
      refine lv_lmul hx hb dX7_bar_133 ?_
      refine W.lcmp hx hb dX7_bar_134 ?_
      refine lv_if_lt (tgt := 142) hx hb dX7_bar_135 (by decide) (fun q4 => ?_) (fun q4 => ?_)
      · have h := ite_y h q4
        refine lv_iconst (v := 0) hx hb dX7_bar_142 (by decide) ?_
        refine lv_istore (lv' := [(10, .int 0), (0, .ref (gad z a)), (1, .int u1), (2, .int u2), (3, .long u3), (5, .long u5), (7, .int u7), (8, .int w8), (9, .int w9)]) hx hb dX7_bar_143 hl (by decide) rfl (fun ls hl => ?_)
        refine lv_iload hx hb dX7_bar_145 (lv_at hl 7 rfl) ?_
        refine lv_aload_n hx hb dX7_bar_147 rfl (lv_at hl 1 rfl) ?_
        refine gf_X7_20 X hG (nx_0 n_a) k_a fl_X7_69 dX7_bar_148 ?_
        refine lv_iload hx hb dX7_bar_151 (lv_at hl 8 rfl) ?_
        obtain ⟨i5, h⟩ := gd_y h
        refine g_iald X hG (nx_a (a := a) (k := 57) (n := 59) n_a (Nat.le_of_ble_eq_true rfl)) (kx_7_57 k_a) (by decide) i5 dX7_bar_153 ?_
        refine lv_if_eq (tgt := 174) hx hb dX7_bar_154 (by decide) (fun q6 => ?_) (fun q6 => ?_)
        · have h := ite_y h q6
          refine lv_iconst (v := 1) hx hb dX7_bar_174 (by decide) ?_
          refine lv_goto (tgt := 179) hx hb dX7_bar_175 (by decide) ?_
          refine lv_iand hx hb dX7_bar_179 ?_
          refine lv_topi (fun x7 ex7 => ?_)
          have h := nm_y h x7 ex7
          refine lv_istore (lv' := [(8, .int x7), (10, .int 0), (0, .ref (gad z a)), (1, .int u1), (2, .int u2), (3, .long u3), (5, .long u5), (7, .int u7), (9, .int w9)]) hx hb dX7_bar_180 hl (by decide) rfl (fun ls hl => ?_)
          refine lv_iinc (v := (w9 + 1)) (lv' := [(9, .int (w9 + 1)), (8, .int x7), (10, .int 0), (0, .ref (gad z a)), (1, .int u1), (2, .int u2), (3, .long u3), (5, .long u5), (7, .int u7)]) hx hb dX7_bar_182 hl (k := 8) rfl rfl (by decide) rfl (fun ls hl => ?_)
          refine lv_goto (tgt := 107) hx hb dX7_bar_185 (by decide) ?_
          exact ih x7 (w9 + 1) _ _ _ h hG hS (lv_sub hl [3, 4, 5, 6, 7, 8, 1, 0] rfl)
        · have h := ite_n h q6
          refine lv_iload hx hb dX7_bar_157 (lv_at hl 0 rfl) ?_
          refine lv_iload hx hb dX7_bar_159 (lv_at hl 8 rfl) ?_
          refine lv_iload hx hb dX7_bar_161 (lv_at hl 6 rfl) ?_
          refine lv_icmp_gt (tgt := 170) hx hb dX7_bar_163 (by decide) (fun q8 => ?_) (fun q8 => ?_)
          · have h := ite_y h q8
            refine lv_iconst (v := 0) hx hb dX7_bar_170 (by decide) ?_
            refine lv_icmp_ne (tgt := 178) hx hb dX7_bar_171 (by decide) (fun q9 => ?_) (fun q9 => ?_)
            · have h := ite_n h q9
              refine lv_iconst (v := 0) hx hb dX7_bar_178 (by decide) ?_
              refine lv_iand hx hb dX7_bar_179 ?_
              refine lv_topi (fun x10 ex10 => ?_)
              have h := nm_y h x10 ex10
              refine lv_istore (lv' := [(8, .int x10), (10, .int 0), (0, .ref (gad z a)), (1, .int u1), (2, .int u2), (3, .long u3), (5, .long u5), (7, .int u7), (9, .int w9)]) hx hb dX7_bar_180 hl (by decide) rfl (fun ls hl => ?_)
              refine lv_iinc (v := (w9 + 1)) (lv' := [(9, .int (w9 + 1)), (8, .int x10), (10, .int 0), (0, .ref (gad z a)), (1, .int u1), (2, .int u2), (3, .long u3), (5, .long u5), (7, .int u7)]) hx hb dX7_bar_182 hl (k := 8) rfl rfl (by decide) rfl (fun ls hl => ?_)
              refine lv_goto (tgt := 107) hx hb dX7_bar_185 (by decide) ?_
              exact ih x10 (w9 + 1) _ _ _ h hG hS (lv_sub hl [3, 4, 5, 6, 7, 8, 1, 0] rfl)
            · have h := ite_y h q9
              refine lv_iconst (v := 1) hx hb dX7_bar_174 (by decide) ?_
              refine lv_goto (tgt := 179) hx hb dX7_bar_175 (by decide) ?_
              refine lv_iand hx hb dX7_bar_179 ?_
              refine lv_topi (fun x11 ex11 => ?_)
              have h := nm_y h x11 ex11
              refine lv_istore (lv' := [(8, .int x11), (10, .int 0), (0, .ref (gad z a)), (1, .int u1), (2, .int u2), (3, .long u3), (5, .long u5), (7, .int u7), (9, .int w9)]) hx hb dX7_bar_180 hl (by decide) rfl (fun ls hl => ?_)
              refine lv_iinc (v := (w9 + 1)) (lv' := [(9, .int (w9 + 1)), (8, .int x11), (10, .int 0), (0, .ref (gad z a)), (1, .int u1), (2, .int u2), (3, .long u3), (5, .long u5), (7, .int u7)]) hx hb dX7_bar_182 hl (k := 8) rfl rfl (by decide) rfl (fun ls hl => ?_)
              refine lv_goto (tgt := 107) hx hb dX7_bar_185 (by decide) ?_
              exact ih x11 (w9 + 1) _ _ _ h hG hS (lv_sub hl [3, 4, 5, 6, 7, 8, 1, 0] rfl)
          · have h := ite_n h q8
            refine lv_iconst (v := 1) hx hb dX7_bar_166 (by decide) ?_
            refine lv_goto (tgt := 171) hx hb dX7_bar_167 (by decide) ?_
            refine lv_icmp_ne (tgt := 178) hx hb dX7_bar_171 (by decide) (fun q12 => ?_) (fun q12 => ?_)
            · have h := ite_n h q12
              refine lv_iconst (v := 0) hx hb dX7_bar_178 (by decide) ?_
              refine lv_iand hx hb dX7_bar_179 ?_
              refine lv_topi (fun x13 ex13 => ?_)
              have h := nm_y h x13 ex13
              refine lv_istore (lv' := [(8, .int x13), (10, .int 0), (0, .ref (gad z a)), (1, .int u1), (2, .int u2), (3, .long u3), (5, .long u5), (7, .int u7), (9, .int w9)]) hx hb dX7_bar_180 hl (by decide) rfl (fun ls hl => ?_)
              refine lv_iinc (v := (w9 + 1)) (lv' := [(9, .int (w9 + 1)), (8, .int x13), (10, .int 0), (0, .ref (gad z a)), (1, .int u1), (2, .int u2), (3, .long u3), (5, .long u5), (7, .int u7)]) hx hb dX7_bar_182 hl (k := 8) rfl rfl (by decide) rfl (fun ls hl => ?_)
              refine lv_goto (tgt := 107) hx hb dX7_bar_185 (by decide) ?_
              exact ih x13 (w9 + 1) _ _ _ h hG hS (lv_sub hl [3, 4, 5, 6, 7, 8, 1, 0] rfl)
            · have h := ite_y h q12
              refine lv_iconst (v := 1) hx hb dX7_bar_174 (by decide) ?_
              refine lv_goto (tgt := 179) hx hb dX7_bar_175 (by decide) ?_
              refine lv_iand hx hb dX7_bar_179 ?_
              refine lv_topi (fun x14 ex14 => ?_)
              have h := nm_y h x14 ex14
              refine lv_istore (lv' := [(8, .int x14), (10, .int 0), (0, .ref (gad z a)), (1, .int u1), (2, .int u2), (3, .long u3), (5, .long u5), (7, .int u7), (9, .int w9)]) hx hb dX7_bar_180 hl (by decide) rfl (fun ls hl => ?_)
              refine lv_iinc (v := (w9 + 1)) (lv' := [(9, .int (w9 + 1)), (8, .int x14), (10, .int 0), (0, .ref (gad z a)), (1, .int u1), (2, .int u2), (3, .long u3), (5, .long u5), (7, .int u7)]) hx hb dX7_bar_182 hl (k := 8) rfl rfl (by decide) rfl (fun ls hl => ?_)
              refine lv_goto (tgt := 107) hx hb dX7_bar_185 (by decide) ?_
              exact ih x14 (w9 + 1) _ _ _ h hG hS (lv_sub hl [3, 4, 5, 6, 7, 8, 1, 0] rfl)
      · have h := ite_n h q4
        refine lv_iconst (v := 1) hx hb dX7_bar_138 (by decide) ?_
        refine lv_goto (tgt := 143) hx hb dX7_bar_139 (by decide) ?_
        refine lv_istore (lv' := [(10, .int 1), (0, .ref (gad z a)), (1, .int u1), (2, .int u2), (3, .long u3), (5, .long u5), (7, .int u7), (8, .int w8), (9, .int w9)]) hx hb dX7_bar_143 hl (by decide) rfl (fun ls hl => ?_)
        refine lv_iload hx hb dX7_bar_145 (lv_at hl 7 rfl) ?_
        refine lv_aload_n hx hb dX7_bar_147 rfl (lv_at hl 1 rfl) ?_
        refine gf_X7_20 X hG (nx_0 n_a) k_a fl_X7_69 dX7_bar_148 ?_
        refine lv_iload hx hb dX7_bar_151 (lv_at hl 8 rfl) ?_
        obtain ⟨i15, h⟩ := gd_y h
        refine g_iald X hG (nx_a (a := a) (k := 57) (n := 59) n_a (Nat.le_of_ble_eq_true rfl)) (kx_7_57 k_a) (by decide) i15 dX7_bar_153 ?_
        refine lv_if_eq (tgt := 174) hx hb dX7_bar_154 (by decide) (fun q16 => ?_) (fun q16 => ?_)
        · have h := ite_y h q16
          refine lv_iconst (v := 1) hx hb dX7_bar_174 (by decide) ?_
          refine lv_goto (tgt := 179) hx hb dX7_bar_175 (by decide) ?_
          refine lv_iand hx hb dX7_bar_179 ?_
          refine lv_topi (fun x17 ex17 => ?_)
          have h := nm_y h x17 ex17
          refine lv_istore (lv' := [(8, .int x17), (10, .int 1), (0, .ref (gad z a)), (1, .int u1), (2, .int u2), (3, .long u3), (5, .long u5), (7, .int u7), (9, .int w9)]) hx hb dX7_bar_180 hl (by decide) rfl (fun ls hl => ?_)
          refine lv_iinc (v := (w9 + 1)) (lv' := [(9, .int (w9 + 1)), (8, .int x17), (10, .int 1), (0, .ref (gad z a)), (1, .int u1), (2, .int u2), (3, .long u3), (5, .long u5), (7, .int u7)]) hx hb dX7_bar_182 hl (k := 8) rfl rfl (by decide) rfl (fun ls hl => ?_)
          refine lv_goto (tgt := 107) hx hb dX7_bar_185 (by decide) ?_
          exact ih x17 (w9 + 1) _ _ _ h hG hS (lv_sub hl [3, 4, 5, 6, 7, 8, 1, 0] rfl)
        · have h := ite_n h q16
          refine lv_iload hx hb dX7_bar_157 (lv_at hl 0 rfl) ?_
          refine lv_iload hx hb dX7_bar_159 (lv_at hl 8 rfl) ?_
          refine lv_iload hx hb dX7_bar_161 (lv_at hl 6 rfl) ?_
          refine lv_icmp_gt (tgt := 170) hx hb dX7_bar_163 (by decide) (fun q18 => ?_) (fun q18 => ?_)
          · have h := ite_y h q18
            refine lv_iconst (v := 0) hx hb dX7_bar_170 (by decide) ?_
            refine lv_icmp_ne (tgt := 178) hx hb dX7_bar_171 (by decide) (fun q19 => ?_) (fun q19 => ?_)
            · have h := ite_n h q19
              refine lv_iconst (v := 0) hx hb dX7_bar_178 (by decide) ?_
              refine lv_iand hx hb dX7_bar_179 ?_
              refine lv_topi (fun x20 ex20 => ?_)
              have h := nm_y h x20 ex20
              refine lv_istore (lv' := [(8, .int x20), (10, .int 1), (0, .ref (gad z a)), (1, .int u1), (2, .int u2), (3, .long u3), (5, .long u5), (7, .int u7), (9, .int w9)]) hx hb dX7_bar_180 hl (by decide) rfl (fun ls hl => ?_)
              refine lv_iinc (v := (w9 + 1)) (lv' := [(9, .int (w9 + 1)), (8, .int x20), (10, .int 1), (0, .ref (gad z a)), (1, .int u1), (2, .int u2), (3, .long u3), (5, .long u5), (7, .int u7)]) hx hb dX7_bar_182 hl (k := 8) rfl rfl (by decide) rfl (fun ls hl => ?_)
              refine lv_goto (tgt := 107) hx hb dX7_bar_185 (by decide) ?_
              exact ih x20 (w9 + 1) _ _ _ h hG hS (lv_sub hl [3, 4, 5, 6, 7, 8, 1, 0] rfl)
            · have h := ite_y h q19
              refine lv_iconst (v := 1) hx hb dX7_bar_174 (by decide) ?_
              refine lv_goto (tgt := 179) hx hb dX7_bar_175 (by decide) ?_
              refine lv_iand hx hb dX7_bar_179 ?_
              refine lv_topi (fun x21 ex21 => ?_)
              have h := nm_y h x21 ex21
              refine lv_istore (lv' := [(8, .int x21), (10, .int 1), (0, .ref (gad z a)), (1, .int u1), (2, .int u2), (3, .long u3), (5, .long u5), (7, .int u7), (9, .int w9)]) hx hb dX7_bar_180 hl (by decide) rfl (fun ls hl => ?_)
              refine lv_iinc (v := (w9 + 1)) (lv' := [(9, .int (w9 + 1)), (8, .int x21), (10, .int 1), (0, .ref (gad z a)), (1, .int u1), (2, .int u2), (3, .long u3), (5, .long u5), (7, .int u7)]) hx hb dX7_bar_182 hl (k := 8) rfl rfl (by decide) rfl (fun ls hl => ?_)
              refine lv_goto (tgt := 107) hx hb dX7_bar_185 (by decide) ?_
              exact ih x21 (w9 + 1) _ _ _ h hG hS (lv_sub hl [3, 4, 5, 6, 7, 8, 1, 0] rfl)
          · have h := ite_n h q18
            refine lv_iconst (v := 1) hx hb dX7_bar_166 (by decide) ?_
            refine lv_goto (tgt := 171) hx hb dX7_bar_167 (by decide) ?_
            refine lv_icmp_ne (tgt := 178) hx hb dX7_bar_171 (by decide) (fun q22 => ?_) (fun q22 => ?_)
            · have h := ite_n h q22
              refine lv_iconst (v := 0) hx hb dX7_bar_178 (by decide) ?_
              refine lv_iand hx hb dX7_bar_179 ?_
              refine lv_topi (fun x23 ex23 => ?_)
              have h := nm_y h x23 ex23
              refine lv_istore (lv' := [(8, .int x23), (10, .int 1), (0, .ref (gad z a)), (1, .int u1), (2, .int u2), (3, .long u3), (5, .long u5), (7, .int u7), (9, .int w9)]) hx hb dX7_bar_180 hl (by decide) rfl (fun ls hl => ?_)
              refine lv_iinc (v := (w9 + 1)) (lv' := [(9, .int (w9 + 1)), (8, .int x23), (10, .int 1), (0, .ref (gad z a)), (1, .int u1), (2, .int u2), (3, .long u3), (5, .long u5), (7, .int u7)]) hx hb dX7_bar_182 hl (k := 8) rfl rfl (by decide) rfl (fun ls hl => ?_)
              refine lv_goto (tgt := 107) hx hb dX7_bar_185 (by decide) ?_
              exact ih x23 (w9 + 1) _ _ _ h hG hS (lv_sub hl [3, 4, 5, 6, 7, 8, 1, 0] rfl)
            · have h := ite_y h q22
              refine lv_iconst (v := 1) hx hb dX7_bar_174 (by decide) ?_
              refine lv_goto (tgt := 179) hx hb dX7_bar_175 (by decide) ?_
              refine lv_iand hx hb dX7_bar_179 ?_
              refine lv_topi (fun x24 ex24 => ?_)
              have h := nm_y h x24 ex24
              refine lv_istore (lv' := [(8, .int x24), (10, .int 1), (0, .ref (gad z a)), (1, .int u1), (2, .int u2), (3, .long u3), (5, .long u5), (7, .int u7), (9, .int w9)]) hx hb dX7_bar_180 hl (by decide) rfl (fun ls hl => ?_)
              refine lv_iinc (v := (w9 + 1)) (lv' := [(9, .int (w9 + 1)), (8, .int x24), (10, .int 1), (0, .ref (gad z a)), (1, .int u1), (2, .int u2), (3, .long u3), (5, .long u5), (7, .int u7)]) hx hb dX7_bar_182 hl (k := 8) rfl rfl (by decide) rfl (fun ls hl => ?_)
              refine lv_goto (tgt := 107) hx hb dX7_bar_185 (by decide) ?_
              exact ih x24 (w9 + 1) _ _ _ h hG hS (lv_sub hl [3, 4, 5, 6, 7, 8, 1, 0] rfl)
set_option maxRecDepth 100000 in
set_option maxHeartbeats 4000000 in
theorem wX7_bar_69 {N : Nat} {p : Program} {l : Launch} {e : Env} {s : State} {m : MethodId} {args : Array Value} {below : List Frame} {meth : Method} {c : Code} {z : gZ} {M : Mem} {a : Nat} {u1 : Int32} {u2 : Int32} {u3 : Int64} {o : Int32 × Mem} (X : gX p m c cX7_bar 11 s args RX7 z) (hr : meth.sig.returnType = (some .int)) (hlk : meth.locks = false) (k_a : kd a = 7) (n_a : a + 59 ≤ gn z)  : ∀ (n : Nat) (w5 : Int64) (w7 : Int32) (H : Heap) (locs : List Loc) (ls : Array Slot), fX7_bar_69 N M a u1 u2 u3  n w5 w7 = some o → gW z M H → va_S (gA z) s.heap H locs → lv_has ls 11 [(0, .ref (gad z a)), (1, .int u1), (2, .int u2), (3, .long u3), (5, .long w5), (7, .int w7)] → W p l e { frames := 1, cells := 0, slots := 0, locals := 25 } s m args below meth c H locs 0 0 (MQ below (va_Qi (fun r' (_ : Unit) => r' = o.1) (fun _ t => gW z o.2 t.heap) (gA z)) args s 0 0 (gA z)) (F0 m 69 ls []) := by
  have hx := X.1
  have hb := X.2.1
  intro n
  induction n with
  | zero => intro w5 w7 H locs ls h; cases h
  | succ n ih =>
    intro w5 w7 H locs ls h hG hS hl
    rw [fX7_bar_69] at h
    refine lv_iload hx hb dX7_bar_69 (lv_at hl 5 rfl) ?_
    refine lv_iconst (v := 5) hx hb dX7_bar_71 (by decide) ?_
    refine lv_icmp_gt (tgt := 204) hx hb dX7_bar_72 (by decide) (fun q1 => ?_) (fun q1 => ?_)
    · have h := ite_y h q1
      refine lv_iconst (v := (-1)) hx hb dX7_bar_204 (by decide) ?_
      obtain rfl := Option.some.inj h
      exact g_iret X hr hlk hG hS dX7_bar_205
    · have h := ite_n h q1
      refine lv_lload hx hb dX7_bar_75 (lv_at hl 4 rfl) ?_
      refine lv_iload hx hb dX7_bar_77 (lv_at hl 5 rfl) ?_
      refine lv_if_ge (tgt := 86) hx hb dX7_bar_79 (by decide) (fun q2 => ?_) (fun q2 => ?_)
      · have h := ite_y h q2
        refine lv_iload hx hb dX7_bar_86 (lv_at hl 5 rfl) ?_
        refine lv_i2l hx hb dX7_bar_88 rfl ?_
        refine lv_aload_n hx hb dX7_bar_89 rfl (lv_at hl 0 rfl) ?_
        refine gf_X7_20 X hG (nx_0 n_a) k_a fl_X7_69 dX7_bar_90 ?_
        refine lv_iload hx hb dX7_bar_93 (lv_at hl 5 rfl) ?_
        obtain ⟨i3, h⟩ := gd_y h
        refine g_iald X hG (nx_a (a := a) (k := 57) (n := 59) n_a (Nat.le_of_ble_eq_true rfl)) (kx_7_57 k_a) (by decide) i3 dX7_bar_95 ?_
        refine lv_i2l hx hb dX7_bar_96 rfl ?_
        refine lv_lmul hx hb dX7_bar_97 ?_
        refine lv_ladd hx hb dX7_bar_98 ?_
        refine lv_topl (fun x4 ex4 => ?_)
        have h := nm_y h x4 ex4
        refine lv_lstore (lv' := [(5, .long x4), (0, .ref (gad z a)), (1, .int u1), (2, .int u2), (3, .long u3), (7, .int w7)]) hx hb dX7_bar_99 hl (by decide) rfl (fun ls hl => ?_)
        refine lv_iconst (v := 1) hx hb dX7_bar_101 (by decide) ?_
        refine lv_istore (lv' := [(8, .int 1), (5, .long x4), (0, .ref (gad z a)), (1, .int u1), (2, .int u2), (3, .long u3), (7, .int w7)]) hx hb dX7_bar_102 hl (by decide) rfl (fun ls hl => ?_)
        refine lv_iconst (v := 0) hx hb dX7_bar_104 (by decide) ?_
        refine lv_istore (lv' := [(9, .int 0), (8, .int 1), (5, .long x4), (0, .ref (gad z a)), (1, .int u1), (2, .int u2), (3, .long u3), (7, .int w7)]) hx hb dX7_bar_105 hl (by decide) rfl (fun ls hl => ?_)
        refine wX7_bar_107 X hr hlk k_a n_a ?_ _ _ _ _ _ _ h hG hS (lv_sub hl [3, 4, 5, 6, 2, 7, 1, 0] rfl)
        · intro y107_8 H locs ls h hG hS hl
          refine lv_iload hx hb dX7_bar_188 (lv_at hl 6 rfl) ?_
          refine lv_if_eq (tgt := 198) hx hb dX7_bar_190 (by decide) (fun q25 => ?_) (fun q25 => ?_)
          · have h := ite_y h q25
            refine lv_iinc (v := (w7 + 1)) (lv' := [(7, .int (w7 + 1)), (0, .ref (gad z a)), (1, .int u1), (2, .int u2), (3, .long u3), (5, .long x4), (8, .int y107_8)]) hx hb dX7_bar_198 hl (k := 5) rfl rfl (by decide) rfl (fun ls hl => ?_)
            refine lv_goto (tgt := 69) hx hb dX7_bar_201 (by decide) ?_
            exact ih x4 (w7 + 1) _ _ _ h hG hS (lv_sub hl [1, 2, 3, 4, 5, 0] rfl)
          · have h := ite_n h q25
            refine lv_iload hx hb dX7_bar_193 (lv_at hl 5 rfl) ?_
            refine lv_iconst (v := 1) hx hb dX7_bar_195 (by decide) ?_
            refine lv_iadd hx hb dX7_bar_196 ?_
            obtain rfl := Option.some.inj h
            exact g_iret X hr hlk hG hS dX7_bar_197
      · have h := ite_n h q2
        refine lv_lconst (v := 0) hx hb dX7_bar_82 (by decide) ?_
        refine lv_goto (tgt := 98) hx hb dX7_bar_83 (by decide) ?_
        refine lv_ladd hx hb dX7_bar_98 ?_
        refine lv_topl (fun x26 ex26 => ?_)
        have h := nm_y h x26 ex26
        refine lv_lstore (lv' := [(5, .long x26), (0, .ref (gad z a)), (1, .int u1), (2, .int u2), (3, .long u3), (7, .int w7)]) hx hb dX7_bar_99 hl (by decide) rfl (fun ls hl => ?_)
        refine lv_iconst (v := 1) hx hb dX7_bar_101 (by decide) ?_
        refine lv_istore (lv' := [(8, .int 1), (5, .long x26), (0, .ref (gad z a)), (1, .int u1), (2, .int u2), (3, .long u3), (7, .int w7)]) hx hb dX7_bar_102 hl (by decide) rfl (fun ls hl => ?_)
        refine lv_iconst (v := 0) hx hb dX7_bar_104 (by decide) ?_
        refine lv_istore (lv' := [(9, .int 0), (8, .int 1), (5, .long x26), (0, .ref (gad z a)), (1, .int u1), (2, .int u2), (3, .long u3), (7, .int w7)]) hx hb dX7_bar_105 hl (by decide) rfl (fun ls hl => ?_)
        refine wX7_bar_107 X hr hlk k_a n_a ?_ _ _ _ _ _ _ h hG hS (lv_sub hl [3, 4, 5, 6, 2, 7, 1, 0] rfl)
        · intro y107_8 H locs ls h hG hS hl
          refine lv_iload hx hb dX7_bar_188 (lv_at hl 6 rfl) ?_
          refine lv_if_eq (tgt := 198) hx hb dX7_bar_190 (by decide) (fun q27 => ?_) (fun q27 => ?_)
          · have h := ite_y h q27
            refine lv_iinc (v := (w7 + 1)) (lv' := [(7, .int (w7 + 1)), (0, .ref (gad z a)), (1, .int u1), (2, .int u2), (3, .long u3), (5, .long x26), (8, .int y107_8)]) hx hb dX7_bar_198 hl (k := 5) rfl rfl (by decide) rfl (fun ls hl => ?_)
            refine lv_goto (tgt := 69) hx hb dX7_bar_201 (by decide) ?_
            exact ih x26 (w7 + 1) _ _ _ h hG hS (lv_sub hl [1, 2, 3, 4, 5, 0] rfl)
          · have h := ite_n h q27
            refine lv_iload hx hb dX7_bar_193 (lv_at hl 5 rfl) ?_
            refine lv_iconst (v := 1) hx hb dX7_bar_195 (by decide) ?_
            refine lv_iadd hx hb dX7_bar_196 ?_
            obtain rfl := Option.some.inj h
            exact g_iret X hr hlk hG hS dX7_bar_197
set_option maxRecDepth 100000 in
set_option maxHeartbeats 4000000 in
theorem wX7_bar_36 {N : Nat} {p : Program} {l : Launch} {e : Env} {s : State} {m : MethodId} {args : Array Value} {below : List Frame} {meth : Method} {c : Code} {z : gZ} {M : Mem} {a : Nat} {u1 : Int32} {u2 : Int32} {o : Int32 × Mem} (X : gX p m c cX7_bar 11 s args RX7 z) (hr : meth.sig.returnType = (some .int)) (hlk : meth.locks = false) (k_a : kd a = 7) (n_a : a + 59 ≤ gn z)  : ∀ (n : Nat) (w3 : Int64) (w5 : Int32) (H : Heap) (locs : List Loc) (ls : Array Slot), fX7_bar_36 N M a u1 u2  n w3 w5 = some o → gW z M H → va_S (gA z) s.heap H locs → lv_has ls 11 [(0, .ref (gad z a)), (1, .int u1), (2, .int u2), (3, .long w3), (5, .int w5)] → W p l e { frames := 1, cells := 0, slots := 0, locals := 25 } s m args below meth c H locs 0 0 (MQ below (va_Qi (fun r' (_ : Unit) => r' = o.1) (fun _ t => gW z o.2 t.heap) (gA z)) args s 0 0 (gA z)) (F0 m 36 ls []) := by
  have hx := X.1
  have hb := X.2.1
  intro n
  induction n with
  | zero => intro w3 w5 H locs ls h; cases h
  | succ n ih =>
    intro w3 w5 H locs ls h hG hS hl
    rw [fX7_bar_36] at h
    refine lv_iload hx hb dX7_bar_36 (lv_at hl 4 rfl) ?_
    refine lv_iconst (v := 5) hx hb dX7_bar_38 (by decide) ?_
    refine lv_icmp_gt (tgt := 63) hx hb dX7_bar_39 (by decide) (fun q1 => ?_) (fun q1 => ?_)
    · have h := ite_y h q1
      refine lv_lconst (v := 0) hx hb dX7_bar_63 (by decide) ?_
      refine lv_lstore (lv' := [(5, .long 0), (0, .ref (gad z a)), (1, .int u1), (2, .int u2), (3, .long w3)]) hx hb dX7_bar_64 hl (by decide) rfl (fun ls hl => ?_)
      refine lv_iconst (v := (-1)) hx hb dX7_bar_66 (by decide) ?_
      refine lv_istore (lv' := [(7, .int (-1)), (5, .long 0), (0, .ref (gad z a)), (1, .int u1), (2, .int u2), (3, .long w3)]) hx hb dX7_bar_67 hl (by decide) rfl (fun ls hl => ?_)
      refine wX7_bar_69 X hr hlk k_a n_a _ _ _ _ _ _ h hG hS (lv_sub hl [2, 3, 4, 5, 1, 0] rfl)
    · have h := ite_n h q1
      refine lv_lload_n hx hb dX7_bar_42 rfl (lv_at hl 3 rfl) ?_
      refine lv_iload hx hb dX7_bar_43 (lv_at hl 4 rfl) ?_
      refine lv_i2l hx hb dX7_bar_45 rfl ?_
      refine lv_aload_n hx hb dX7_bar_46 rfl (lv_at hl 0 rfl) ?_
      refine gf_X7_20 X hG (nx_0 n_a) k_a fl_X7_69 dX7_bar_47 ?_
      refine lv_iload hx hb dX7_bar_50 (lv_at hl 4 rfl) ?_
      obtain ⟨i28, h⟩ := gd_y h
      refine g_iald X hG (nx_a (a := a) (k := 57) (n := 59) n_a (Nat.le_of_ble_eq_true rfl)) (kx_7_57 k_a) (by decide) i28 dX7_bar_52 ?_
      refine lv_i2l hx hb dX7_bar_53 rfl ?_
      refine lv_lmul hx hb dX7_bar_54 ?_
      refine lv_ladd hx hb dX7_bar_55 ?_
      refine lv_topl (fun x29 ex29 => ?_)
      have h := nm_y h x29 ex29
      refine lv_lstore_n (lv' := [(3, .long x29), (0, .ref (gad z a)), (1, .int u1), (2, .int u2), (5, .int w5)]) hx hb dX7_bar_56 rfl hl (by decide) rfl (fun ls hl => ?_)
      refine lv_iinc (v := (w5 + 1)) (lv' := [(5, .int (w5 + 1)), (3, .long x29), (0, .ref (gad z a)), (1, .int u1), (2, .int u2)]) hx hb dX7_bar_57 hl (k := 4) rfl rfl (by decide) rfl (fun ls hl => ?_)
      refine lv_goto (tgt := 36) hx hb dX7_bar_60 (by decide) ?_
      exact ih x29 (w5 + 1) _ _ _ h hG hS (lv_sub hl [2, 3, 4, 1, 0] rfl)
set_option maxRecDepth 100000 in
set_option maxHeartbeats 4000000 in
theorem ct_X7_bar (l : Launch) (z : gZ) {N : Nat} {M : Mem} {a : Nat} {v1 : Int32} {v2 : Int32} {o : Int32 × Mem} (k_a : kd a = 7) (n_a : a + 59 ≤ gn z) (h : fX7_bar N M a v1 v2 = some o) : CtI l z yX7_bar cX7_bar 11 (some .int) { frames := 1, cells := 0, slots := 0, locals := 25 } [.ref (gad z a), .int v1, .int v2] M o.1 o.2 := by
  refine Ct_of rfl (Nat.le_of_ble_eq_true rfl) ?_
  intro p e s m below meth c ls X hr hlk hG hS hl
  have X : gX p m c _ _ s _ RX7 z := X
  have hl : lv_has ls 11 [(0, .ref (gad z a)), (1, .int v1), (2, .int v2)] := hl
  have hx := X.1
  have hb := X.2.1
  unfold fX7_bar at h
  refine lv_iload_n hx hb dX7_bar_0 rfl (lv_at hl 1 rfl) ?_
  refine lv_i2l hx hb dX7_bar_1 rfl ?_
  refine lv_lconst (v := 1) hx hb dX7_bar_2 (by decide) ?_
  refine lv_ldc2 (v := 99) hx hb X.2.2.2.1 (X.2.2.2.2.1 _ cn_X7_233) dX7_bar_3 ?_
  obtain ⟨r1, hcr1, h⟩ := bd_y h
  refine g_cSI (av := [.long ((v1 : Int32).toInt64), .long 1, .long 99]) (rest := []) X hG hS (ct_X7_in l z  hcr1) mt_X7_in ml_X7_88 rfl ⟨rfl, rfl, Nat.le_of_ble_eq_true rfl, Nat.le_of_ble_eq_true rfl⟩ ⟨Nat.le_refl 0, Nat.le_refl 0⟩ hl.1 (Nat.le_of_ble_eq_true rfl) rfl dX7_bar_6 (fun H locs hG hS => ?_)
  refine lv_if_eq (tgt := 24) hx hb dX7_bar_9 (by decide) (fun q2 => ?_) (fun q2 => ?_)
  · have h := ite_y h q2
    refine lv_aload_n hx hb dX7_bar_24 rfl (lv_at hl 0 rfl) ?_
    refine lv_bipush (v := (-2)) hx hb dX7_bar_25 (by decide) ?_
    obtain ⟨r3, hcr3, h⟩ := bd_y h
    refine g_cVI (a := a) (ci := 7) (T := TX7) (N := 37) (av := [.int (-2)]) (rest := []) X hG hS (ct_X7_refuse l z k_a n_a hcr3) mt_X7_refuse ml_X7_106 rfl ⟨rfl, rfl, Nat.le_of_ble_eq_true rfl, Nat.le_of_ble_eq_true rfl⟩ ⟨Nat.le_refl 0, Nat.le_refl 0⟩ (nx_0 n_a) k_a (by decide) rfl hl.1 (Nat.le_of_ble_eq_true rfl) rfl dX7_bar_27 (fun H locs hG hS => ?_)
    obtain rfl := Option.some.inj h
    exact g_iret X hr hlk hG hS dX7_bar_30
  · have h := ite_n h q2
    refine lv_iload_n hx hb dX7_bar_12 rfl (lv_at hl 2 rfl) ?_
    refine lv_i2l hx hb dX7_bar_13 rfl ?_
    refine lv_lconst (v := 1) hx hb dX7_bar_14 (by decide) ?_
    refine lv_ldc2 (v := 99) hx hb X.2.2.2.1 (X.2.2.2.2.1 _ cn_X7_233) dX7_bar_15 ?_
    obtain ⟨r4, hcr4, h⟩ := bd_y h
    refine g_cSI (av := [.long ((v2 : Int32).toInt64), .long 1, .long 99]) (rest := []) X hG hS (ct_X7_in l z  hcr4) mt_X7_in ml_X7_88 rfl ⟨rfl, rfl, Nat.le_of_ble_eq_true rfl, Nat.le_of_ble_eq_true rfl⟩ ⟨Nat.le_refl 0, Nat.le_refl 0⟩ hl.1 (Nat.le_of_ble_eq_true rfl) rfl dX7_bar_18 (fun H locs hG hS => ?_)
    refine lv_if_ne (tgt := 31) hx hb dX7_bar_21 (by decide) (fun q5 => ?_) (fun q5 => ?_)
    · have h := ite_n h q5
      refine lv_lconst (v := 0) hx hb dX7_bar_31 (by decide) ?_
      refine lv_lstore_n (lv' := [(3, .long 0), (0, .ref (gad z a)), (1, .int v1), (2, .int v2)]) hx hb dX7_bar_32 rfl hl (by decide) rfl (fun ls hl => ?_)
      refine lv_iconst (v := 0) hx hb dX7_bar_33 (by decide) ?_
      refine lv_istore (lv' := [(5, .int 0), (3, .long 0), (0, .ref (gad z a)), (1, .int v1), (2, .int v2)]) hx hb dX7_bar_34 hl (by decide) rfl (fun ls hl => ?_)
      refine wX7_bar_36 X hr hlk k_a n_a _ _ _ _ _ _ h hG hS (lv_sub hl [2, 3, 4, 1, 0] rfl)
    · have h := ite_y h q5
      refine lv_aload_n hx hb dX7_bar_24 rfl (lv_at hl 0 rfl) ?_
      refine lv_bipush (v := (-2)) hx hb dX7_bar_25 (by decide) ?_
      obtain ⟨r30, hcr30, h⟩ := bd_y h
      refine g_cVI (a := a) (ci := 7) (T := TX7) (N := 37) (av := [.int (-2)]) (rest := []) X hG hS (ct_X7_refuse l z k_a n_a hcr30) mt_X7_refuse ml_X7_106 rfl ⟨rfl, rfl, Nat.le_of_ble_eq_true rfl, Nat.le_of_ble_eq_true rfl⟩ ⟨Nat.le_refl 0, Nat.le_refl 0⟩ (nx_0 n_a) k_a (by decide) rfl hl.1 (Nat.le_of_ble_eq_true rfl) rfl dX7_bar_27 (fun H locs hG hS => ?_)
      obtain rfl := Option.some.inj h
      exact g_iret X hr hlk hG hS dX7_bar_30
set_option maxRecDepth 100000 in
set_option maxHeartbeats 4000000 in
theorem wX7_cuts_34 {N : Nat} {p : Program} {l : Launch} {e : Env} {s : State} {m : MethodId} {args : Array Value} {below : List Frame} {meth : Method} {c : Code} {z : gZ} {a : Nat} {u1 : Int32} {u2 : Int32} {u3 : Int32} {o : Int32 × Mem} (X : gX p m c cX7_cuts 9 s args RX7 z) (hr : meth.sig.returnType = (some .int)) (hlk : meth.locks = false) (k_a : kd a = 7) (n_a : a + 59 ≤ gn z)  {K153 : Mem → Option (Int32 × Mem)} (hK153 : ∀ (Mw : Mem) (H : Heap) (locs : List Loc) (ls : Array Slot), K153 Mw = some o → gW z Mw H → va_S (gA z) s.heap H locs → lv_has ls 9 [(0, .ref (gad z a)), (1, .int u1), (2, .int u2), (3, .int u3)] → W p l e { frames := 4, cells := 0, slots := 0, locals := 93 } s m args below meth c H locs 0 0 (MQ below (va_Qi (fun r' (_ : Unit) => r' = o.1) (fun _ t => gW z o.2 t.heap) (gA z)) args s 0 0 (gA z)) (F0 m 153 ls [])) : ∀ (n : Nat) (Mw : Mem) (w4 : Int32) (H : Heap) (locs : List Loc) (ls : Array Slot), fX7_cuts_34 N a u1 u2 u3 K153 n Mw w4 = some o → gW z Mw H → va_S (gA z) s.heap H locs → lv_has ls 9 [(0, .ref (gad z a)), (1, .int u1), (2, .int u2), (3, .int u3), (4, .int w4)] → W p l e { frames := 4, cells := 0, slots := 0, locals := 93 } s m args below meth c H locs 0 0 (MQ below (va_Qi (fun r' (_ : Unit) => r' = o.1) (fun _ t => gW z o.2 t.heap) (gA z)) args s 0 0 (gA z)) (F0 m 34 ls []) := by
  have hx := X.1
  have hb := X.2.1
  intro n
  induction n with
  | zero => intro Mw w4 H locs ls h; cases h
  | succ n ih =>
    intro Mw w4 H locs ls h hG hS hl
    rw [fX7_cuts_34] at h
    refine lv_iload hx hb dX7_cuts_34 (lv_at hl 4 rfl) ?_
    refine lv_aload_n hx hb dX7_cuts_36 rfl (lv_at hl 0 rfl) ?_
    refine gf_X7_11 X hG (nx_0 n_a) k_a fl_X7_40 dX7_cuts_37 ?_
    refine lv_iload_n hx hb dX7_cuts_40 rfl (lv_at hl 1 rfl) ?_
    obtain ⟨i1, h⟩ := gd_y h
    refine g_iald X hG (nx_a (a := a) (k := 18) (n := 59) n_a (Nat.le_of_ble_eq_true rfl)) (kx_7_18 k_a) (by decide) i1 dX7_cuts_41 ?_
    refine lv_icmp_ge (tgt := 153) hx hb dX7_cuts_42 (by decide) (fun q2 => ?_) (fun q2 => ?_)
    · have h := ite_y h q2
      exact hK153 Mw  _ _ _ h hG hS (lv_sub hl [0, 1, 2, 3] rfl)
    · have h := ite_n h q2
      refine lv_aload_n hx hb dX7_cuts_45 rfl (lv_at hl 0 rfl) ?_
      refine gf_X7_16 X hG (nx_0 n_a) k_a fl_X7_57 dX7_cuts_46 ?_
      refine lv_iload_n hx hb dX7_cuts_49 rfl (lv_at hl 1 rfl) ?_
      refine g_aldII X hG (nx_a (a := a) (k := 33) (n := 59) n_a (Nat.le_of_ble_eq_true rfl)) (kx_7_33 k_a) (by decide) i1 dX7_cuts_50 ?_
      refine lv_iload_n hx hb dX7_cuts_51 rfl (lv_at hl 3 rfl) ?_
      obtain ⟨i3, h⟩ := gd_y h
      refine g_iald X hG (nE n_a i1 (Nat.le_of_ble_eq_true rfl)) (ke_7_33 k_a i1) (by decide) i3 dX7_cuts_52 ?_
      refine lv_iload hx hb dX7_cuts_53 (lv_at hl 4 rfl) ?_
      refine lv_ishr hx hb dX7_cuts_55 ?_
      refine lv_iconst (v := 1) hx hb dX7_cuts_56 (by decide) ?_
      refine lv_iand hx hb dX7_cuts_57 ?_
      refine lv_if_eq (tgt := 147) hx hb dX7_cuts_58 (by decide) (fun q4 => ?_) (fun q4 => ?_)
      · have h := ite_y h q4
        refine lv_iinc (v := (w4 + 1)) (lv' := [(4, .int (w4 + 1)), (0, .ref (gad z a)), (1, .int u1), (2, .int u2), (3, .int u3)]) hx hb dX7_cuts_147 hl (k := 4) rfl rfl (by decide) rfl (fun ls hl => ?_)
        refine lv_goto (tgt := 34) hx hb dX7_cuts_150 (by decide) ?_
        exact ih Mw (w4 + 1) _ _ _ h hG hS (lv_sub hl [1, 2, 3, 4, 0] rfl)
      · have h := ite_n h q4
        refine lv_aload_n hx hb dX7_cuts_61 rfl (lv_at hl 0 rfl) ?_
        refine lv_iload_n hx hb dX7_cuts_62 rfl (lv_at hl 1 rfl) ?_
        refine lv_iload_n hx hb dX7_cuts_63 rfl (lv_at hl 3 rfl) ?_
        refine lv_iload_n hx hb dX7_cuts_64 rfl (lv_at hl 2 rfl) ?_
        obtain ⟨r5, hcr5, h⟩ := bd_y h
        refine g_cVI (a := a) (ci := 7) (T := TX7) (N := 37) (av := [.int u1, .int u3, .int u2]) (rest := []) X hG hS (ct_X7_gainOf l z k_a n_a hcr5) mt_X7_gainOf ml_X7_241 rfl ⟨rfl, rfl, Nat.le_of_ble_eq_true rfl, Nat.le_of_ble_eq_true rfl⟩ ⟨Nat.le_refl 0, Nat.le_refl 0⟩ (nx_0 n_a) k_a (by decide) rfl hl.1 (Nat.le_of_ble_eq_true rfl) rfl dX7_cuts_65 (fun H locs hG hS => ?_)
        refine lv_istore (lv' := [(5, .int r5), (0, .ref (gad z a)), (1, .int u1), (2, .int u2), (3, .int u3), (4, .int w4)]) hx hb dX7_cuts_68 hl (by decide) rfl (fun ls hl => ?_)
        refine lv_aload_n hx hb dX7_cuts_70 rfl (lv_at hl 1 rfl) ?_
        refine lv_iload_n hx hb dX7_cuts_71 rfl (lv_at hl 2 rfl) ?_
        refine lv_iload hx hb dX7_cuts_72 (lv_at hl 5 rfl) ?_
        refine lv_iload_n hx hb dX7_cuts_74 rfl (lv_at hl 3 rfl) ?_
        obtain ⟨r6, hcr6, h⟩ := bd_y h
        refine g_cVI (a := a) (ci := 7) (T := TX7) (N := 37) (av := [.int u1, .int w4, .int u2]) (rest := []) X hG hS (ct_X7_gainOf l z k_a n_a hcr6) mt_X7_gainOf ml_X7_241 rfl ⟨rfl, rfl, Nat.le_of_ble_eq_true rfl, Nat.le_of_ble_eq_true rfl⟩ ⟨Nat.le_refl 0, Nat.le_refl 0⟩ (nx_0 n_a) k_a (by decide) rfl hl.1 (Nat.le_of_ble_eq_true rfl) rfl dX7_cuts_75 (fun H locs hG hS => ?_)
        refine lv_istore (lv' := [(6, .int r6), (5, .int r5), (0, .ref (gad z a)), (1, .int u1), (2, .int u2), (3, .int u3), (4, .int w4)]) hx hb dX7_cuts_78 hl (by decide) rfl (fun ls hl => ?_)
        refine lv_aload_n hx hb dX7_cuts_80 rfl (lv_at hl 2 rfl) ?_
        refine lv_iload_n hx hb dX7_cuts_81 rfl (lv_at hl 3 rfl) ?_
        refine lv_iload_n hx hb dX7_cuts_82 rfl (lv_at hl 5 rfl) ?_
        refine lv_iload hx hb dX7_cuts_83 (lv_at hl 6 rfl) ?_
        refine lv_iconst (v := (-1)) hx hb dX7_cuts_85 (by decide) ?_
        obtain ⟨r7, hcr7, h⟩ := bd_y h
        refine g_cVI (a := a) (ci := 7) (T := TX7) (N := 37) (av := [.int u1, .int u3, .int w4, .int (-1)]) (rest := []) X hG hS (ct_X7_tie l z k_a n_a hcr7) mt_X7_tie ml_X7_304 rfl ⟨rfl, rfl, Nat.le_of_ble_eq_true rfl, Nat.le_of_ble_eq_true rfl⟩ ⟨Nat.le_refl 0, Nat.le_refl 0⟩ (nx_0 n_a) k_a (by decide) rfl hl.1 (Nat.le_of_ble_eq_true rfl) rfl dX7_cuts_86 (fun H locs hG hS => ?_)
        refine lv_istore (lv' := [(7, .int r7.1), (6, .int r6), (5, .int r5), (0, .ref (gad z a)), (1, .int u1), (2, .int u2), (3, .int u3), (4, .int w4)]) hx hb dX7_cuts_89 hl (by decide) rfl (fun ls hl => ?_)
        refine lv_aload_n hx hb dX7_cuts_91 rfl (lv_at hl 3 rfl) ?_
        refine lv_iload_n hx hb dX7_cuts_92 rfl (lv_at hl 4 rfl) ?_
        refine lv_iload_n hx hb dX7_cuts_93 rfl (lv_at hl 6 rfl) ?_
        refine lv_iload_n hx hb dX7_cuts_94 rfl (lv_at hl 5 rfl) ?_
        obtain ⟨r8, hcr8, h⟩ := bd_y h
        refine g_cVI (a := a) (ci := 7) (T := TX7) (N := 37) (av := [.int u1, .int u3, .int u2]) (rest := []) X hG hS (ct_X7_gainOf l z k_a n_a hcr8) mt_X7_gainOf ml_X7_241 rfl ⟨rfl, rfl, Nat.le_of_ble_eq_true rfl, Nat.le_of_ble_eq_true rfl⟩ ⟨Nat.le_refl 0, Nat.le_refl 0⟩ (nx_0 n_a) k_a (by decide) rfl hl.1 (Nat.le_of_ble_eq_true rfl) rfl dX7_cuts_95 (fun H locs hG hS => ?_)
        refine lv_iload hx hb dX7_cuts_98 (lv_at hl 2 rfl) ?_
        refine lv_icmp_gt (tgt := 116) hx hb dX7_cuts_100 (by decide) (fun q9 => ?_) (fun q9 => ?_)
        · have h := ite_y h q9
          refine lv_iconst (v := 1) hx hb dX7_cuts_116 (by decide) ?_
          refine lv_goto (tgt := 121) hx hb dX7_cuts_117 (by decide) ?_
          refine lv_istore (lv' := [(8, .int 1), (7, .int r7.1), (6, .int r6), (5, .int r5), (0, .ref (gad z a)), (1, .int u1), (2, .int u2), (3, .int u3), (4, .int w4)]) hx hb dX7_cuts_121 hl (by decide) rfl (fun ls hl => ?_)
          refine lv_aload_n hx hb dX7_cuts_123 rfl (lv_at hl 4 rfl) ?_
          refine lv_iload_n hx hb dX7_cuts_124 rfl (lv_at hl 5 rfl) ?_
          refine lv_iload_n hx hb dX7_cuts_125 rfl (lv_at hl 7 rfl) ?_
          refine lv_iload hx hb dX7_cuts_126 (lv_at hl 8 rfl) ?_
          refine lv_iload hx hb dX7_cuts_128 (lv_at hl 1 rfl) ?_
          obtain ⟨r10, hcr10, h⟩ := bd_y h
          refine g_cVI (a := a) (ci := 7) (T := TX7) (N := 37) (av := [.int u1, .int u3, .int w4, .int r7.1]) (rest := []) X hG hS (ct_X7_tie l z k_a n_a hcr10) mt_X7_tie ml_X7_304 rfl ⟨rfl, rfl, Nat.le_of_ble_eq_true rfl, Nat.le_of_ble_eq_true rfl⟩ ⟨Nat.le_refl 0, Nat.le_refl 0⟩ (nx_0 n_a) k_a (by decide) rfl hl.1 (Nat.le_of_ble_eq_true rfl) rfl dX7_cuts_130 (fun H locs hG hS => ?_)
          refine lv_pop hx hb dX7_cuts_133 rfl ?_
          refine lv_iload hx hb dX7_cuts_134 (lv_at hl 0 rfl) ?_
          refine lv_if_eq (tgt := 147) hx hb dX7_cuts_136 (by decide) (fun q11 => ?_) (fun q11 => ?_)
          · have h := ite_y h q11
            refine lv_iinc (v := (w4 + 1)) (lv' := [(4, .int (w4 + 1)), (8, .int 1), (7, .int r7.1), (6, .int r6), (5, .int r5), (0, .ref (gad z a)), (1, .int u1), (2, .int u2), (3, .int u3)]) hx hb dX7_cuts_147 hl (k := 8) rfl rfl (by decide) rfl (fun ls hl => ?_)
            refine lv_goto (tgt := 34) hx hb dX7_cuts_150 (by decide) ?_
            exact ih r10.2 (w4 + 1) _ _ _ h hG hS (lv_sub hl [5, 6, 7, 8, 0] rfl)
          · have h := ite_n h q11
            refine lv_bipush (v := 100) hx hb dX7_cuts_139 (by decide) ?_
            refine lv_iload_n hx hb dX7_cuts_141 rfl (lv_at hl 7 rfl) ?_
            refine lv_imul hx hb dX7_cuts_142 ?_
            refine lv_iload hx hb dX7_cuts_143 (lv_at hl 8 rfl) ?_
            refine lv_iadd hx hb dX7_cuts_145 ?_
            obtain rfl := Option.some.inj h
            exact g_iret X hr hlk hG hS dX7_cuts_146
        · have h := ite_n h q9
          refine lv_aload_n hx hb dX7_cuts_103 rfl (lv_at hl 3 rfl) ?_
          refine lv_iload_n hx hb dX7_cuts_104 rfl (lv_at hl 4 rfl) ?_
          refine lv_iload hx hb dX7_cuts_105 (lv_at hl 7 rfl) ?_
          refine lv_iload_n hx hb dX7_cuts_107 rfl (lv_at hl 5 rfl) ?_
          obtain ⟨r12, hcr12, h⟩ := bd_y h
          refine g_cVI (a := a) (ci := 7) (T := TX7) (N := 37) (av := [.int u1, .int w4, .int u2]) (rest := []) X hG hS (ct_X7_gainOf l z k_a n_a hcr12) mt_X7_gainOf ml_X7_241 rfl ⟨rfl, rfl, Nat.le_of_ble_eq_true rfl, Nat.le_of_ble_eq_true rfl⟩ ⟨Nat.le_refl 0, Nat.le_refl 0⟩ (nx_0 n_a) k_a (by decide) rfl hl.1 (Nat.le_of_ble_eq_true rfl) rfl dX7_cuts_108 (fun H locs hG hS => ?_)
          refine lv_iload hx hb dX7_cuts_111 (lv_at hl 1 rfl) ?_
          refine lv_icmp_le (tgt := 120) hx hb dX7_cuts_113 (by decide) (fun q13 => ?_) (fun q13 => ?_)
          · have h := ite_y h q13
            refine lv_iconst (v := 0) hx hb dX7_cuts_120 (by decide) ?_
            refine lv_istore (lv' := [(8, .int 0), (7, .int r7.1), (6, .int r6), (5, .int r5), (0, .ref (gad z a)), (1, .int u1), (2, .int u2), (3, .int u3), (4, .int w4)]) hx hb dX7_cuts_121 hl (by decide) rfl (fun ls hl => ?_)
            refine lv_aload_n hx hb dX7_cuts_123 rfl (lv_at hl 4 rfl) ?_
            refine lv_iload_n hx hb dX7_cuts_124 rfl (lv_at hl 5 rfl) ?_
            refine lv_iload_n hx hb dX7_cuts_125 rfl (lv_at hl 7 rfl) ?_
            refine lv_iload hx hb dX7_cuts_126 (lv_at hl 8 rfl) ?_
            refine lv_iload hx hb dX7_cuts_128 (lv_at hl 1 rfl) ?_
            obtain ⟨r14, hcr14, h⟩ := bd_y h
            refine g_cVI (a := a) (ci := 7) (T := TX7) (N := 37) (av := [.int u1, .int u3, .int w4, .int r7.1]) (rest := []) X hG hS (ct_X7_tie l z k_a n_a hcr14) mt_X7_tie ml_X7_304 rfl ⟨rfl, rfl, Nat.le_of_ble_eq_true rfl, Nat.le_of_ble_eq_true rfl⟩ ⟨Nat.le_refl 0, Nat.le_refl 0⟩ (nx_0 n_a) k_a (by decide) rfl hl.1 (Nat.le_of_ble_eq_true rfl) rfl dX7_cuts_130 (fun H locs hG hS => ?_)
            refine lv_pop hx hb dX7_cuts_133 rfl ?_
            refine lv_iload hx hb dX7_cuts_134 (lv_at hl 0 rfl) ?_
            refine lv_if_eq (tgt := 147) hx hb dX7_cuts_136 (by decide) (fun q15 => ?_) (fun q15 => ?_)
            · have h := ite_y h q15
              refine lv_iinc (v := (w4 + 1)) (lv' := [(4, .int (w4 + 1)), (8, .int 0), (7, .int r7.1), (6, .int r6), (5, .int r5), (0, .ref (gad z a)), (1, .int u1), (2, .int u2), (3, .int u3)]) hx hb dX7_cuts_147 hl (k := 8) rfl rfl (by decide) rfl (fun ls hl => ?_)
              refine lv_goto (tgt := 34) hx hb dX7_cuts_150 (by decide) ?_
              exact ih r14.2 (w4 + 1) _ _ _ h hG hS (lv_sub hl [5, 6, 7, 8, 0] rfl)
            · have h := ite_n h q15
              refine lv_bipush (v := 100) hx hb dX7_cuts_139 (by decide) ?_
              refine lv_iload_n hx hb dX7_cuts_141 rfl (lv_at hl 7 rfl) ?_
              refine lv_imul hx hb dX7_cuts_142 ?_
              refine lv_iload hx hb dX7_cuts_143 (lv_at hl 8 rfl) ?_
              refine lv_iadd hx hb dX7_cuts_145 ?_
              obtain rfl := Option.some.inj h
              exact g_iret X hr hlk hG hS dX7_cuts_146
          · have h := ite_n h q13
            refine lv_iconst (v := 1) hx hb dX7_cuts_116 (by decide) ?_
            refine lv_goto (tgt := 121) hx hb dX7_cuts_117 (by decide) ?_
            refine lv_istore (lv' := [(8, .int 1), (7, .int r7.1), (6, .int r6), (5, .int r5), (0, .ref (gad z a)), (1, .int u1), (2, .int u2), (3, .int u3), (4, .int w4)]) hx hb dX7_cuts_121 hl (by decide) rfl (fun ls hl => ?_)
            refine lv_aload_n hx hb dX7_cuts_123 rfl (lv_at hl 4 rfl) ?_
            refine lv_iload_n hx hb dX7_cuts_124 rfl (lv_at hl 5 rfl) ?_
            refine lv_iload_n hx hb dX7_cuts_125 rfl (lv_at hl 7 rfl) ?_
            refine lv_iload hx hb dX7_cuts_126 (lv_at hl 8 rfl) ?_
            refine lv_iload hx hb dX7_cuts_128 (lv_at hl 1 rfl) ?_
            obtain ⟨r16, hcr16, h⟩ := bd_y h
            refine g_cVI (a := a) (ci := 7) (T := TX7) (N := 37) (av := [.int u1, .int u3, .int w4, .int r7.1]) (rest := []) X hG hS (ct_X7_tie l z k_a n_a hcr16) mt_X7_tie ml_X7_304 rfl ⟨rfl, rfl, Nat.le_of_ble_eq_true rfl, Nat.le_of_ble_eq_true rfl⟩ ⟨Nat.le_refl 0, Nat.le_refl 0⟩ (nx_0 n_a) k_a (by decide) rfl hl.1 (Nat.le_of_ble_eq_true rfl) rfl dX7_cuts_130 (fun H locs hG hS => ?_)
            refine lv_pop hx hb dX7_cuts_133 rfl ?_
            refine lv_iload hx hb dX7_cuts_134 (lv_at hl 0 rfl) ?_
            refine lv_if_eq (tgt := 147) hx hb dX7_cuts_136 (by decide) (fun q17 => ?_) (fun q17 => ?_)
            · have h := ite_y h q17
              refine lv_iinc (v := (w4 + 1)) (lv' := [(4, .int (w4 + 1)), (8, .int 1), (7, .int r7.1), (6, .int r6), (5, .int r5), (0, .ref (gad z a)), (1, .int u1), (2, .int u2), (3, .int u3)]) hx hb dX7_cuts_147 hl (k := 8) rfl rfl (by decide) rfl (fun ls hl => ?_)
              refine lv_goto (tgt := 34) hx hb dX7_cuts_150 (by decide) ?_
              exact ih r16.2 (w4 + 1) _ _ _ h hG hS (lv_sub hl [5, 6, 7, 8, 0] rfl)
            · have h := ite_n h q17
              refine lv_bipush (v := 100) hx hb dX7_cuts_139 (by decide) ?_
              refine lv_iload_n hx hb dX7_cuts_141 rfl (lv_at hl 7 rfl) ?_
              refine lv_imul hx hb dX7_cuts_142 ?_
              refine lv_iload hx hb dX7_cuts_143 (lv_at hl 8 rfl) ?_
              refine lv_iadd hx hb dX7_cuts_145 ?_
              obtain rfl := Option.some.inj h
              exact g_iret X hr hlk hG hS dX7_cuts_146
set_option maxRecDepth 100000 in
set_option maxHeartbeats 4000000 in
theorem wX7_cuts_19 {N : Nat} {p : Program} {l : Launch} {e : Env} {s : State} {m : MethodId} {args : Array Value} {below : List Frame} {meth : Method} {c : Code} {z : gZ} {a : Nat} {u1 : Int32} {u2 : Int32} {o : Int32 × Mem} (X : gX p m c cX7_cuts 9 s args RX7 z) (hr : meth.sig.returnType = (some .int)) (hlk : meth.locks = false) (k_a : kd a = 7) (n_a : a + 59 ≤ gn z)  : ∀ (n : Nat) (Mw : Mem) (w3 : Int32) (H : Heap) (locs : List Loc) (ls : Array Slot), fX7_cuts_19 N a u1 u2  n Mw w3 = some o → gW z Mw H → va_S (gA z) s.heap H locs → lv_has ls 9 [(0, .ref (gad z a)), (1, .int u1), (2, .int u2), (3, .int w3)] → W p l e { frames := 4, cells := 0, slots := 0, locals := 93 } s m args below meth c H locs 0 0 (MQ below (va_Qi (fun r' (_ : Unit) => r' = o.1) (fun _ t => gW z o.2 t.heap) (gA z)) args s 0 0 (gA z)) (F0 m 19 ls []) := by
  have hx := X.1
  have hb := X.2.1
  intro n
  induction n with
  | zero => intro Mw w3 H locs ls h; cases h
  | succ n ih =>
    intro Mw w3 H locs ls h hG hS hl
    rw [fX7_cuts_19] at h
    refine lv_iload_n hx hb dX7_cuts_19 rfl (lv_at hl 3 rfl) ?_
    refine lv_aload_n hx hb dX7_cuts_20 rfl (lv_at hl 0 rfl) ?_
    refine gf_X7_11 X hG (nx_0 n_a) k_a fl_X7_40 dX7_cuts_21 ?_
    refine lv_iload_n hx hb dX7_cuts_24 rfl (lv_at hl 1 rfl) ?_
    obtain ⟨i1, h⟩ := gd_y h
    refine g_iald X hG (nx_a (a := a) (k := 18) (n := 59) n_a (Nat.le_of_ble_eq_true rfl)) (kx_7_18 k_a) (by decide) i1 dX7_cuts_25 ?_
    refine lv_icmp_ge (tgt := 159) hx hb dX7_cuts_26 (by decide) (fun q2 => ?_) (fun q2 => ?_)
    · have h := ite_y h q2
      refine lv_iconst (v := (-1)) hx hb dX7_cuts_159 (by decide) ?_
      obtain rfl := Option.some.inj h
      exact g_iret X hr hlk hG hS dX7_cuts_160
    · have h := ite_n h q2
      refine lv_iload_n hx hb dX7_cuts_29 rfl (lv_at hl 3 rfl) ?_
      refine lv_iconst (v := 1) hx hb dX7_cuts_30 (by decide) ?_
      refine lv_iadd hx hb dX7_cuts_31 ?_
      refine lv_topi (fun x3 ex3 => ?_)
      have h := nm_y h x3 ex3
      refine lv_istore (lv' := [(4, .int x3), (0, .ref (gad z a)), (1, .int u1), (2, .int u2), (3, .int w3)]) hx hb dX7_cuts_32 hl (by decide) rfl (fun ls hl => ?_)
      refine wX7_cuts_34 X hr hlk k_a n_a ?_ _ _ _ _ _ _ h hG hS (lv_sub hl [1, 2, 3, 4, 0] rfl)
      · intro My34 H locs ls h hG hS hl
        refine lv_iinc (v := (w3 + 1)) (lv' := [(3, .int (w3 + 1)), (0, .ref (gad z a)), (1, .int u1), (2, .int u2)]) hx hb dX7_cuts_153 hl (k := 3) rfl rfl (by decide) rfl (fun ls hl => ?_)
        refine lv_goto (tgt := 19) hx hb dX7_cuts_156 (by decide) ?_
        exact ih My34 (w3 + 1) _ _ _ h hG hS (lv_sub hl [1, 2, 3, 0] rfl)
set_option maxRecDepth 100000 in
set_option maxHeartbeats 4000000 in
theorem ct_X7_cuts (l : Launch) (z : gZ) {N : Nat} {M : Mem} {a : Nat} {v1 : Int32} {v2 : Int32} {o : Int32 × Mem} (k_a : kd a = 7) (n_a : a + 59 ≤ gn z) (h : fX7_cuts N M a v1 v2 = some o) : CtI l z yX7_cuts cX7_cuts 9 (some .int) { frames := 4, cells := 0, slots := 0, locals := 93 } [.ref (gad z a), .int v1, .int v2] M o.1 o.2 := by
  refine Ct_of rfl (Nat.le_of_ble_eq_true rfl) ?_
  intro p e s m below meth c ls X hr hlk hG hS hl
  have X : gX p m c _ _ s _ RX7 z := X
  have hl : lv_has ls 9 [(0, .ref (gad z a)), (1, .int v1), (2, .int v2)] := hl
  have hx := X.1
  have hb := X.2.1
  unfold fX7_cuts at h
  refine lv_aload_n hx hb dX7_cuts_0 rfl (lv_at hl 0 rfl) ?_
  refine lv_iload_n hx hb dX7_cuts_1 rfl (lv_at hl 1 rfl) ?_
  refine lv_iload_n hx hb dX7_cuts_2 rfl (lv_at hl 2 rfl) ?_
  refine lv_i2l hx hb dX7_cuts_3 rfl ?_
  obtain ⟨r1, hcr1, h⟩ := bd_y h
  refine g_cVI (a := a) (ci := 7) (T := TX7) (N := 37) (av := [.int v1, .long ((v2 : Int32).toInt64)]) (rest := []) X hG hS (ct_X7_isSet l z k_a n_a hcr1) mt_X7_isSet ml_X7_237 rfl ⟨rfl, rfl, Nat.le_of_ble_eq_true rfl, Nat.le_of_ble_eq_true rfl⟩ ⟨Nat.le_refl 0, Nat.le_refl 0⟩ (nx_0 n_a) k_a (by decide) rfl hl.1 (Nat.le_of_ble_eq_true rfl) rfl dX7_cuts_4 (fun H locs hG hS => ?_)
  refine lv_if_ne (tgt := 17) hx hb dX7_cuts_7 (by decide) (fun q2 => ?_) (fun q2 => ?_)
  · have h := ite_n h q2
    refine lv_iconst (v := 0) hx hb dX7_cuts_17 (by decide) ?_
    refine lv_istore_n (lv' := [(3, .int 0), (0, .ref (gad z a)), (1, .int v1), (2, .int v2)]) hx hb dX7_cuts_18 rfl hl (by decide) rfl (fun ls hl => ?_)
    refine wX7_cuts_19 X hr hlk k_a n_a _ _ _ _ _ _ h hG hS (lv_sub hl [1, 2, 3, 0] rfl)
  · have h := ite_y h q2
    refine lv_aload_n hx hb dX7_cuts_10 rfl (lv_at hl 0 rfl) ?_
    refine lv_bipush (v := (-2)) hx hb dX7_cuts_11 (by decide) ?_
    obtain ⟨r18, hcr18, h⟩ := bd_y h
    refine g_cVI (a := a) (ci := 7) (T := TX7) (N := 37) (av := [.int (-2)]) (rest := []) X hG hS (ct_X7_refuse l z k_a n_a hcr18) mt_X7_refuse ml_X7_106 rfl ⟨rfl, rfl, Nat.le_of_ble_eq_true rfl, Nat.le_of_ble_eq_true rfl⟩ ⟨Nat.le_refl 0, Nat.le_refl 0⟩ (nx_0 n_a) k_a (by decide) rfl hl.1 (Nat.le_of_ble_eq_true rfl) rfl dX7_cuts_13 (fun H locs hG hS => ?_)
    obtain rfl := Option.some.inj h
    exact g_iret X hr hlk hG hS dX7_cuts_16
set_option maxRecDepth 100000 in
set_option maxHeartbeats 4000000 in
theorem wX7_adds_49 {N : Nat} {p : Program} {l : Launch} {e : Env} {s : State} {m : MethodId} {args : Array Value} {below : List Frame} {meth : Method} {c : Code} {z : gZ} {a : Nat} {u1 : Int32} {u2 : Int32} {u3 : Int32} {u4 : Int32} {o : Int32 × Mem} (X : gX p m c cX7_adds 9 s args RX7 z) (hr : meth.sig.returnType = (some .int)) (hlk : meth.locks = false) (k_a : kd a = 7) (n_a : a + 59 ≤ gn z)  {K172 : Mem → Option (Int32 × Mem)} (hK172 : ∀ (Mw : Mem) (H : Heap) (locs : List Loc) (ls : Array Slot), K172 Mw = some o → gW z Mw H → va_S (gA z) s.heap H locs → lv_has ls 9 [(0, .ref (gad z a)), (1, .int u1), (2, .int u2), (3, .int u3), (4, .int u4)] → W p l e { frames := 4, cells := 0, slots := 0, locals := 93 } s m args below meth c H locs 0 0 (MQ below (va_Qi (fun r' (_ : Unit) => r' = o.1) (fun _ t => gW z o.2 t.heap) (gA z)) args s 0 0 (gA z)) (F0 m 172 ls [])) : ∀ (n : Nat) (Mw : Mem) (w5 : Int32) (H : Heap) (locs : List Loc) (ls : Array Slot), fX7_adds_49 N a u1 u2 u3 u4 K172 n Mw w5 = some o → gW z Mw H → va_S (gA z) s.heap H locs → lv_has ls 9 [(0, .ref (gad z a)), (1, .int u1), (2, .int u2), (3, .int u3), (4, .int u4), (5, .int w5)] → W p l e { frames := 4, cells := 0, slots := 0, locals := 93 } s m args below meth c H locs 0 0 (MQ below (va_Qi (fun r' (_ : Unit) => r' = o.1) (fun _ t => gW z o.2 t.heap) (gA z)) args s 0 0 (gA z)) (F0 m 49 ls []) := by
  have hx := X.1
  have hb := X.2.1
  intro n
  induction n with
  | zero => intro Mw w5 H locs ls h; cases h
  | succ n ih =>
    intro Mw w5 H locs ls h hG hS hl
    rw [fX7_adds_49] at h
    refine lv_iload hx hb dX7_adds_49 (lv_at hl 5 rfl) ?_
    refine lv_aload_n hx hb dX7_adds_51 rfl (lv_at hl 0 rfl) ?_
    refine gf_X7_11 X hG (nx_0 n_a) k_a fl_X7_40 dX7_adds_52 ?_
    refine lv_iload_n hx hb dX7_adds_55 rfl (lv_at hl 1 rfl) ?_
    obtain ⟨i1, h⟩ := gd_y h
    refine g_iald X hG (nx_a (a := a) (k := 18) (n := 59) n_a (Nat.le_of_ble_eq_true rfl)) (kx_7_18 k_a) (by decide) i1 dX7_adds_56 ?_
    refine lv_icmp_ge (tgt := 172) hx hb dX7_adds_57 (by decide) (fun q2 => ?_) (fun q2 => ?_)
    · have h := ite_y h q2
      exact hK172 Mw  _ _ _ h hG hS (lv_sub hl [0, 1, 2, 3, 4] rfl)
    · have h := ite_n h q2
      refine lv_aload_n hx hb dX7_adds_60 rfl (lv_at hl 0 rfl) ?_
      refine gf_X7_16 X hG (nx_0 n_a) k_a fl_X7_57 dX7_adds_61 ?_
      refine lv_iload_n hx hb dX7_adds_64 rfl (lv_at hl 1 rfl) ?_
      refine g_aldII X hG (nx_a (a := a) (k := 33) (n := 59) n_a (Nat.le_of_ble_eq_true rfl)) (kx_7_33 k_a) (by decide) i1 dX7_adds_65 ?_
      refine lv_iload hx hb dX7_adds_66 (lv_at hl 4 rfl) ?_
      obtain ⟨i3, h⟩ := gd_y h
      refine g_iald X hG (nE n_a i1 (Nat.le_of_ble_eq_true rfl)) (ke_7_33 k_a i1) (by decide) i3 dX7_adds_68 ?_
      refine lv_iload hx hb dX7_adds_69 (lv_at hl 5 rfl) ?_
      refine lv_ishr hx hb dX7_adds_71 ?_
      refine lv_iconst (v := 1) hx hb dX7_adds_72 (by decide) ?_
      refine lv_iand hx hb dX7_adds_73 ?_
      refine lv_if_ne (tgt := 166) hx hb dX7_adds_74 (by decide) (fun q4 => ?_) (fun q4 => ?_)
      · have h := ite_n h q4
        refine lv_iinc (v := (w5 + 1)) (lv' := [(5, .int (w5 + 1)), (0, .ref (gad z a)), (1, .int u1), (2, .int u2), (3, .int u3), (4, .int u4)]) hx hb dX7_adds_166 hl (k := 5) rfl rfl (by decide) rfl (fun ls hl => ?_)
        refine lv_goto (tgt := 49) hx hb dX7_adds_169 (by decide) ?_
        exact ih Mw (w5 + 1) _ _ _ h hG hS (lv_sub hl [1, 2, 3, 4, 5, 0] rfl)
      · have h := ite_y h q4
        refine lv_aload_n hx hb dX7_adds_77 rfl (lv_at hl 0 rfl) ?_
        refine lv_iload_n hx hb dX7_adds_78 rfl (lv_at hl 1 rfl) ?_
        refine lv_iload hx hb dX7_adds_79 (lv_at hl 4 rfl) ?_
        refine lv_iload_n hx hb dX7_adds_81 rfl (lv_at hl 2 rfl) ?_
        obtain ⟨r5, hcr5, h⟩ := bd_y h
        refine g_cVI (a := a) (ci := 7) (T := TX7) (N := 37) (av := [.int u1, .int u4, .int u2]) (rest := []) X hG hS (ct_X7_gainOf l z k_a n_a hcr5) mt_X7_gainOf ml_X7_241 rfl ⟨rfl, rfl, Nat.le_of_ble_eq_true rfl, Nat.le_of_ble_eq_true rfl⟩ ⟨Nat.le_refl 0, Nat.le_refl 0⟩ (nx_0 n_a) k_a (by decide) rfl hl.1 (Nat.le_of_ble_eq_true rfl) rfl dX7_adds_82 (fun H locs hG hS => ?_)
        refine lv_istore (lv' := [(6, .int r5), (0, .ref (gad z a)), (1, .int u1), (2, .int u2), (3, .int u3), (4, .int u4), (5, .int w5)]) hx hb dX7_adds_85 hl (by decide) rfl (fun ls hl => ?_)
        refine lv_aload_n hx hb dX7_adds_87 rfl (lv_at hl 1 rfl) ?_
        refine lv_iload_n hx hb dX7_adds_88 rfl (lv_at hl 2 rfl) ?_
        refine lv_iload hx hb dX7_adds_89 (lv_at hl 6 rfl) ?_
        refine lv_iload_n hx hb dX7_adds_91 rfl (lv_at hl 3 rfl) ?_
        obtain ⟨r6, hcr6, h⟩ := bd_y h
        refine g_cVI (a := a) (ci := 7) (T := TX7) (N := 37) (av := [.int u1, .int w5, .int u2]) (rest := []) X hG hS (ct_X7_gainOf l z k_a n_a hcr6) mt_X7_gainOf ml_X7_241 rfl ⟨rfl, rfl, Nat.le_of_ble_eq_true rfl, Nat.le_of_ble_eq_true rfl⟩ ⟨Nat.le_refl 0, Nat.le_refl 0⟩ (nx_0 n_a) k_a (by decide) rfl hl.1 (Nat.le_of_ble_eq_true rfl) rfl dX7_adds_92 (fun H locs hG hS => ?_)
        refine lv_istore (lv' := [(7, .int r6), (6, .int r5), (0, .ref (gad z a)), (1, .int u1), (2, .int u2), (3, .int u3), (4, .int u4), (5, .int w5)]) hx hb dX7_adds_95 hl (by decide) rfl (fun ls hl => ?_)
        refine lv_aload_n hx hb dX7_adds_97 rfl (lv_at hl 2 rfl) ?_
        refine lv_iload_n hx hb dX7_adds_98 rfl (lv_at hl 3 rfl) ?_
        refine lv_iload hx hb dX7_adds_99 (lv_at hl 6 rfl) ?_
        refine lv_iload hx hb dX7_adds_101 (lv_at hl 7 rfl) ?_
        refine lv_iload_n hx hb dX7_adds_103 rfl (lv_at hl 5 rfl) ?_
        obtain ⟨r7, hcr7, h⟩ := bd_y h
        refine g_cVI (a := a) (ci := 7) (T := TX7) (N := 37) (av := [.int u1, .int u4, .int w5, .int u3]) (rest := []) X hG hS (ct_X7_tie l z k_a n_a hcr7) mt_X7_tie ml_X7_304 rfl ⟨rfl, rfl, Nat.le_of_ble_eq_true rfl, Nat.le_of_ble_eq_true rfl⟩ ⟨Nat.le_refl 0, Nat.le_refl 0⟩ (nx_0 n_a) k_a (by decide) rfl hl.1 (Nat.le_of_ble_eq_true rfl) rfl dX7_adds_104 (fun H locs hG hS => ?_)
        refine lv_pop hx hb dX7_adds_107 rfl ?_
        refine lv_aload_n hx hb dX7_adds_108 rfl (lv_at hl 2 rfl) ?_
        refine lv_iload_n hx hb dX7_adds_109 rfl (lv_at hl 3 rfl) ?_
        refine lv_iload hx hb dX7_adds_110 (lv_at hl 6 rfl) ?_
        refine lv_iload_n hx hb dX7_adds_112 rfl (lv_at hl 4 rfl) ?_
        obtain ⟨r8, hcr8, h⟩ := bd_y h
        refine g_cVI (a := a) (ci := 7) (T := TX7) (N := 37) (av := [.int u1, .int u4, .int u2]) (rest := []) X hG hS (ct_X7_gainOf l z k_a n_a hcr8) mt_X7_gainOf ml_X7_241 rfl ⟨rfl, rfl, Nat.le_of_ble_eq_true rfl, Nat.le_of_ble_eq_true rfl⟩ ⟨Nat.le_refl 0, Nat.le_refl 0⟩ (nx_0 n_a) k_a (by decide) rfl hl.1 (Nat.le_of_ble_eq_true rfl) rfl dX7_adds_113 (fun H locs hG hS => ?_)
        refine lv_iload hx hb dX7_adds_116 (lv_at hl 1 rfl) ?_
        refine lv_icmp_le (tgt := 138) hx hb dX7_adds_118 (by decide) (fun q9 => ?_) (fun q9 => ?_)
        · have h := ite_y h q9
          refine lv_iconst (v := 0) hx hb dX7_adds_138 (by decide) ?_
          refine lv_istore (lv' := [(8, .int 0), (7, .int r6), (6, .int r5), (0, .ref (gad z a)), (1, .int u1), (2, .int u2), (3, .int u3), (4, .int u4), (5, .int w5)]) hx hb dX7_adds_139 hl (by decide) rfl (fun ls hl => ?_)
          refine lv_aload_n hx hb dX7_adds_141 rfl (lv_at hl 3 rfl) ?_
          refine lv_iload_n hx hb dX7_adds_142 rfl (lv_at hl 4 rfl) ?_
          refine lv_iload hx hb dX7_adds_143 (lv_at hl 7 rfl) ?_
          refine lv_iload hx hb dX7_adds_145 (lv_at hl 8 rfl) ?_
          refine lv_iconst (v := (-1)) hx hb dX7_adds_147 (by decide) ?_
          obtain ⟨r10, hcr10, h⟩ := bd_y h
          refine g_cVI (a := a) (ci := 7) (T := TX7) (N := 37) (av := [.int u1, .int u4, .int w5, .int (-1)]) (rest := []) X hG hS (ct_X7_tie l z k_a n_a hcr10) mt_X7_tie ml_X7_304 rfl ⟨rfl, rfl, Nat.le_of_ble_eq_true rfl, Nat.le_of_ble_eq_true rfl⟩ ⟨Nat.le_refl 0, Nat.le_refl 0⟩ (nx_0 n_a) k_a (by decide) rfl hl.1 (Nat.le_of_ble_eq_true rfl) rfl dX7_adds_148 (fun H locs hG hS => ?_)
          refine lv_pop hx hb dX7_adds_151 rfl ?_
          refine lv_iload hx hb dX7_adds_152 (lv_at hl 0 rfl) ?_
          refine lv_if_eq (tgt := 166) hx hb dX7_adds_154 (by decide) (fun q11 => ?_) (fun q11 => ?_)
          · have h := ite_y h q11
            refine lv_iinc (v := (w5 + 1)) (lv' := [(5, .int (w5 + 1)), (8, .int 0), (7, .int r6), (6, .int r5), (0, .ref (gad z a)), (1, .int u1), (2, .int u2), (3, .int u3), (4, .int u4)]) hx hb dX7_adds_166 hl (k := 8) rfl rfl (by decide) rfl (fun ls hl => ?_)
            refine lv_goto (tgt := 49) hx hb dX7_adds_169 (by decide) ?_
            exact ih r10.2 (w5 + 1) _ _ _ h hG hS (lv_sub hl [4, 5, 6, 7, 8, 0] rfl)
          · have h := ite_n h q11
            refine lv_bipush (v := 100) hx hb dX7_adds_157 (by decide) ?_
            refine lv_iload hx hb dX7_adds_159 (lv_at hl 7 rfl) ?_
            refine lv_imul hx hb dX7_adds_161 ?_
            refine lv_iload hx hb dX7_adds_162 (lv_at hl 8 rfl) ?_
            refine lv_iadd hx hb dX7_adds_164 ?_
            obtain rfl := Option.some.inj h
            exact g_iret X hr hlk hG hS dX7_adds_165
        · have h := ite_n h q9
          refine lv_aload_n hx hb dX7_adds_121 rfl (lv_at hl 2 rfl) ?_
          refine lv_iload_n hx hb dX7_adds_122 rfl (lv_at hl 3 rfl) ?_
          refine lv_iload hx hb dX7_adds_123 (lv_at hl 7 rfl) ?_
          refine lv_iload_n hx hb dX7_adds_125 rfl (lv_at hl 4 rfl) ?_
          obtain ⟨r12, hcr12, h⟩ := bd_y h
          refine g_cVI (a := a) (ci := 7) (T := TX7) (N := 37) (av := [.int u1, .int w5, .int u2]) (rest := []) X hG hS (ct_X7_gainOf l z k_a n_a hcr12) mt_X7_gainOf ml_X7_241 rfl ⟨rfl, rfl, Nat.le_of_ble_eq_true rfl, Nat.le_of_ble_eq_true rfl⟩ ⟨Nat.le_refl 0, Nat.le_refl 0⟩ (nx_0 n_a) k_a (by decide) rfl hl.1 (Nat.le_of_ble_eq_true rfl) rfl dX7_adds_126 (fun H locs hG hS => ?_)
          refine lv_iload hx hb dX7_adds_129 (lv_at hl 0 rfl) ?_
          refine lv_icmp_le (tgt := 138) hx hb dX7_adds_131 (by decide) (fun q13 => ?_) (fun q13 => ?_)
          · have h := ite_y h q13
            refine lv_iconst (v := 0) hx hb dX7_adds_138 (by decide) ?_
            refine lv_istore (lv' := [(8, .int 0), (7, .int r6), (6, .int r5), (0, .ref (gad z a)), (1, .int u1), (2, .int u2), (3, .int u3), (4, .int u4), (5, .int w5)]) hx hb dX7_adds_139 hl (by decide) rfl (fun ls hl => ?_)
            refine lv_aload_n hx hb dX7_adds_141 rfl (lv_at hl 3 rfl) ?_
            refine lv_iload_n hx hb dX7_adds_142 rfl (lv_at hl 4 rfl) ?_
            refine lv_iload hx hb dX7_adds_143 (lv_at hl 7 rfl) ?_
            refine lv_iload hx hb dX7_adds_145 (lv_at hl 8 rfl) ?_
            refine lv_iconst (v := (-1)) hx hb dX7_adds_147 (by decide) ?_
            obtain ⟨r14, hcr14, h⟩ := bd_y h
            refine g_cVI (a := a) (ci := 7) (T := TX7) (N := 37) (av := [.int u1, .int u4, .int w5, .int (-1)]) (rest := []) X hG hS (ct_X7_tie l z k_a n_a hcr14) mt_X7_tie ml_X7_304 rfl ⟨rfl, rfl, Nat.le_of_ble_eq_true rfl, Nat.le_of_ble_eq_true rfl⟩ ⟨Nat.le_refl 0, Nat.le_refl 0⟩ (nx_0 n_a) k_a (by decide) rfl hl.1 (Nat.le_of_ble_eq_true rfl) rfl dX7_adds_148 (fun H locs hG hS => ?_)
            refine lv_pop hx hb dX7_adds_151 rfl ?_
            refine lv_iload hx hb dX7_adds_152 (lv_at hl 0 rfl) ?_
            refine lv_if_eq (tgt := 166) hx hb dX7_adds_154 (by decide) (fun q15 => ?_) (fun q15 => ?_)
            · have h := ite_y h q15
              refine lv_iinc (v := (w5 + 1)) (lv' := [(5, .int (w5 + 1)), (8, .int 0), (7, .int r6), (6, .int r5), (0, .ref (gad z a)), (1, .int u1), (2, .int u2), (3, .int u3), (4, .int u4)]) hx hb dX7_adds_166 hl (k := 8) rfl rfl (by decide) rfl (fun ls hl => ?_)
              refine lv_goto (tgt := 49) hx hb dX7_adds_169 (by decide) ?_
              exact ih r14.2 (w5 + 1) _ _ _ h hG hS (lv_sub hl [4, 5, 6, 7, 8, 0] rfl)
            · have h := ite_n h q15
              refine lv_bipush (v := 100) hx hb dX7_adds_157 (by decide) ?_
              refine lv_iload hx hb dX7_adds_159 (lv_at hl 7 rfl) ?_
              refine lv_imul hx hb dX7_adds_161 ?_
              refine lv_iload hx hb dX7_adds_162 (lv_at hl 8 rfl) ?_
              refine lv_iadd hx hb dX7_adds_164 ?_
              obtain rfl := Option.some.inj h
              exact g_iret X hr hlk hG hS dX7_adds_165
          · have h := ite_n h q13
            refine lv_iconst (v := 1) hx hb dX7_adds_134 (by decide) ?_
            refine lv_goto (tgt := 139) hx hb dX7_adds_135 (by decide) ?_
            refine lv_istore (lv' := [(8, .int 1), (7, .int r6), (6, .int r5), (0, .ref (gad z a)), (1, .int u1), (2, .int u2), (3, .int u3), (4, .int u4), (5, .int w5)]) hx hb dX7_adds_139 hl (by decide) rfl (fun ls hl => ?_)
            refine lv_aload_n hx hb dX7_adds_141 rfl (lv_at hl 3 rfl) ?_
            refine lv_iload_n hx hb dX7_adds_142 rfl (lv_at hl 4 rfl) ?_
            refine lv_iload hx hb dX7_adds_143 (lv_at hl 7 rfl) ?_
            refine lv_iload hx hb dX7_adds_145 (lv_at hl 8 rfl) ?_
            refine lv_iconst (v := (-1)) hx hb dX7_adds_147 (by decide) ?_
            obtain ⟨r16, hcr16, h⟩ := bd_y h
            refine g_cVI (a := a) (ci := 7) (T := TX7) (N := 37) (av := [.int u1, .int u4, .int w5, .int (-1)]) (rest := []) X hG hS (ct_X7_tie l z k_a n_a hcr16) mt_X7_tie ml_X7_304 rfl ⟨rfl, rfl, Nat.le_of_ble_eq_true rfl, Nat.le_of_ble_eq_true rfl⟩ ⟨Nat.le_refl 0, Nat.le_refl 0⟩ (nx_0 n_a) k_a (by decide) rfl hl.1 (Nat.le_of_ble_eq_true rfl) rfl dX7_adds_148 (fun H locs hG hS => ?_)
            refine lv_pop hx hb dX7_adds_151 rfl ?_
            refine lv_iload hx hb dX7_adds_152 (lv_at hl 0 rfl) ?_
            refine lv_if_eq (tgt := 166) hx hb dX7_adds_154 (by decide) (fun q17 => ?_) (fun q17 => ?_)
            · have h := ite_y h q17
              refine lv_iinc (v := (w5 + 1)) (lv' := [(5, .int (w5 + 1)), (8, .int 1), (7, .int r6), (6, .int r5), (0, .ref (gad z a)), (1, .int u1), (2, .int u2), (3, .int u3), (4, .int u4)]) hx hb dX7_adds_166 hl (k := 8) rfl rfl (by decide) rfl (fun ls hl => ?_)
              refine lv_goto (tgt := 49) hx hb dX7_adds_169 (by decide) ?_
              exact ih r16.2 (w5 + 1) _ _ _ h hG hS (lv_sub hl [4, 5, 6, 7, 8, 0] rfl)
            · have h := ite_n h q17
              refine lv_bipush (v := 100) hx hb dX7_adds_157 (by decide) ?_
              refine lv_iload hx hb dX7_adds_159 (lv_at hl 7 rfl) ?_
              refine lv_imul hx hb dX7_adds_161 ?_
              refine lv_iload hx hb dX7_adds_162 (lv_at hl 8 rfl) ?_
              refine lv_iadd hx hb dX7_adds_164 ?_
              obtain rfl := Option.some.inj h
              exact g_iret X hr hlk hG hS dX7_adds_165
set_option maxRecDepth 100000 in
set_option maxHeartbeats 4000000 in
theorem wX7_adds_32 {N : Nat} {p : Program} {l : Launch} {e : Env} {s : State} {m : MethodId} {args : Array Value} {below : List Frame} {meth : Method} {c : Code} {z : gZ} {a : Nat} {u1 : Int32} {u2 : Int32} {u3 : Int32} {o : Int32 × Mem} (X : gX p m c cX7_adds 9 s args RX7 z) (hr : meth.sig.returnType = (some .int)) (hlk : meth.locks = false) (k_a : kd a = 7) (n_a : a + 59 ≤ gn z)  : ∀ (n : Nat) (Mw : Mem) (w4 : Int32) (H : Heap) (locs : List Loc) (ls : Array Slot), fX7_adds_32 N a u1 u2 u3  n Mw w4 = some o → gW z Mw H → va_S (gA z) s.heap H locs → lv_has ls 9 [(0, .ref (gad z a)), (1, .int u1), (2, .int u2), (3, .int u3), (4, .int w4)] → W p l e { frames := 4, cells := 0, slots := 0, locals := 93 } s m args below meth c H locs 0 0 (MQ below (va_Qi (fun r' (_ : Unit) => r' = o.1) (fun _ t => gW z o.2 t.heap) (gA z)) args s 0 0 (gA z)) (F0 m 32 ls []) := by
  have hx := X.1
  have hb := X.2.1
  intro n
  induction n with
  | zero => intro Mw w4 H locs ls h; cases h
  | succ n ih =>
    intro Mw w4 H locs ls h hG hS hl
    rw [fX7_adds_32] at h
    refine lv_iload hx hb dX7_adds_32 (lv_at hl 4 rfl) ?_
    refine lv_aload_n hx hb dX7_adds_34 rfl (lv_at hl 0 rfl) ?_
    refine gf_X7_11 X hG (nx_0 n_a) k_a fl_X7_40 dX7_adds_35 ?_
    refine lv_iload_n hx hb dX7_adds_38 rfl (lv_at hl 1 rfl) ?_
    obtain ⟨i1, h⟩ := gd_y h
    refine g_iald X hG (nx_a (a := a) (k := 18) (n := 59) n_a (Nat.le_of_ble_eq_true rfl)) (kx_7_18 k_a) (by decide) i1 dX7_adds_39 ?_
    refine lv_icmp_ge (tgt := 178) hx hb dX7_adds_40 (by decide) (fun q2 => ?_) (fun q2 => ?_)
    · have h := ite_y h q2
      refine lv_iconst (v := (-1)) hx hb dX7_adds_178 (by decide) ?_
      obtain rfl := Option.some.inj h
      exact g_iret X hr hlk hG hS dX7_adds_179
    · have h := ite_n h q2
      refine lv_iload hx hb dX7_adds_43 (lv_at hl 4 rfl) ?_
      refine lv_iconst (v := 1) hx hb dX7_adds_45 (by decide) ?_
      refine lv_iadd hx hb dX7_adds_46 ?_
      refine lv_topi (fun x3 ex3 => ?_)
      have h := nm_y h x3 ex3
      refine lv_istore (lv' := [(5, .int x3), (0, .ref (gad z a)), (1, .int u1), (2, .int u2), (3, .int u3), (4, .int w4)]) hx hb dX7_adds_47 hl (by decide) rfl (fun ls hl => ?_)
      refine wX7_adds_49 X hr hlk k_a n_a ?_ _ _ _ _ _ _ h hG hS (lv_sub hl [1, 2, 3, 4, 5, 0] rfl)
      · intro My49 H locs ls h hG hS hl
        refine lv_iinc (v := (w4 + 1)) (lv' := [(4, .int (w4 + 1)), (0, .ref (gad z a)), (1, .int u1), (2, .int u2), (3, .int u3)]) hx hb dX7_adds_172 hl (k := 4) rfl rfl (by decide) rfl (fun ls hl => ?_)
        refine lv_goto (tgt := 32) hx hb dX7_adds_175 (by decide) ?_
        exact ih My49 (w4 + 1) _ _ _ h hG hS (lv_sub hl [1, 2, 3, 4, 0] rfl)
set_option maxRecDepth 100000 in
set_option maxHeartbeats 4000000 in
theorem ct_X7_adds (l : Launch) (z : gZ) {N : Nat} {M : Mem} {a : Nat} {v1 : Int32} {v2 : Int32} {v3 : Int32} {o : Int32 × Mem} (k_a : kd a = 7) (n_a : a + 59 ≤ gn z) (h : fX7_adds N M a v1 v2 v3 = some o) : CtI l z yX7_adds cX7_adds 9 (some .int) { frames := 4, cells := 0, slots := 0, locals := 93 } [.ref (gad z a), .int v1, .int v2, .int v3] M o.1 o.2 := by
  refine Ct_of rfl (Nat.le_of_ble_eq_true rfl) ?_
  intro p e s m below meth c ls X hr hlk hG hS hl
  have X : gX p m c _ _ s _ RX7 z := X
  have hl : lv_has ls 9 [(0, .ref (gad z a)), (1, .int v1), (2, .int v2), (3, .int v3)] := hl
  have hx := X.1
  have hb := X.2.1
  unfold fX7_adds at h
  refine lv_aload_n hx hb dX7_adds_0 rfl (lv_at hl 0 rfl) ?_
  refine lv_iload_n hx hb dX7_adds_1 rfl (lv_at hl 1 rfl) ?_
  refine lv_iload_n hx hb dX7_adds_2 rfl (lv_at hl 2 rfl) ?_
  refine lv_i2l hx hb dX7_adds_3 rfl ?_
  obtain ⟨r1, hcr1, h⟩ := bd_y h
  refine g_cVI (a := a) (ci := 7) (T := TX7) (N := 37) (av := [.int v1, .long ((v2 : Int32).toInt64)]) (rest := []) X hG hS (ct_X7_isSet l z k_a n_a hcr1) mt_X7_isSet ml_X7_237 rfl ⟨rfl, rfl, Nat.le_of_ble_eq_true rfl, Nat.le_of_ble_eq_true rfl⟩ ⟨Nat.le_refl 0, Nat.le_refl 0⟩ (nx_0 n_a) k_a (by decide) rfl hl.1 (Nat.le_of_ble_eq_true rfl) rfl dX7_adds_4 (fun H locs hG hS => ?_)
  refine lv_if_eq (tgt := 22) hx hb dX7_adds_7 (by decide) (fun q2 => ?_) (fun q2 => ?_)
  · have h := ite_y h q2
    refine lv_aload_n hx hb dX7_adds_22 rfl (lv_at hl 0 rfl) ?_
    refine lv_bipush (v := (-2)) hx hb dX7_adds_23 (by decide) ?_
    obtain ⟨r3, hcr3, h⟩ := bd_y h
    refine g_cVI (a := a) (ci := 7) (T := TX7) (N := 37) (av := [.int (-2)]) (rest := []) X hG hS (ct_X7_refuse l z k_a n_a hcr3) mt_X7_refuse ml_X7_106 rfl ⟨rfl, rfl, Nat.le_of_ble_eq_true rfl, Nat.le_of_ble_eq_true rfl⟩ ⟨Nat.le_refl 0, Nat.le_refl 0⟩ (nx_0 n_a) k_a (by decide) rfl hl.1 (Nat.le_of_ble_eq_true rfl) rfl dX7_adds_25 (fun H locs hG hS => ?_)
    obtain rfl := Option.some.inj h
    exact g_iret X hr hlk hG hS dX7_adds_28
  · have h := ite_n h q2
    refine lv_iload_n hx hb dX7_adds_10 rfl (lv_at hl 3 rfl) ?_
    refine lv_i2l hx hb dX7_adds_11 rfl ?_
    refine lv_lconst (v := 0) hx hb dX7_adds_12 (by decide) ?_
    refine lv_ldc2 (v := 9) hx hb X.2.2.2.1 (X.2.2.2.2.1 _ cn_X7_117) dX7_adds_13 ?_
    obtain ⟨r4, hcr4, h⟩ := bd_y h
    refine g_cSI (av := [.long ((v3 : Int32).toInt64), .long 0, .long 9]) (rest := []) X hG hS (ct_X7_in l z  hcr4) mt_X7_in ml_X7_88 rfl ⟨rfl, rfl, Nat.le_of_ble_eq_true rfl, Nat.le_of_ble_eq_true rfl⟩ ⟨Nat.le_refl 0, Nat.le_refl 0⟩ hl.1 (Nat.le_of_ble_eq_true rfl) rfl dX7_adds_16 (fun H locs hG hS => ?_)
    refine lv_if_ne (tgt := 29) hx hb dX7_adds_19 (by decide) (fun q5 => ?_) (fun q5 => ?_)
    · have h := ite_n h q5
      refine lv_iconst (v := 0) hx hb dX7_adds_29 (by decide) ?_
      refine lv_istore (lv' := [(4, .int 0), (0, .ref (gad z a)), (1, .int v1), (2, .int v2), (3, .int v3)]) hx hb dX7_adds_30 hl (by decide) rfl (fun ls hl => ?_)
      refine wX7_adds_32 X hr hlk k_a n_a _ _ _ _ _ _ h hG hS (lv_sub hl [1, 2, 3, 4, 0] rfl)
    · have h := ite_y h q5
      refine lv_aload_n hx hb dX7_adds_22 rfl (lv_at hl 0 rfl) ?_
      refine lv_bipush (v := (-2)) hx hb dX7_adds_23 (by decide) ?_
      obtain ⟨r18, hcr18, h⟩ := bd_y h
      refine g_cVI (a := a) (ci := 7) (T := TX7) (N := 37) (av := [.int (-2)]) (rest := []) X hG hS (ct_X7_refuse l z k_a n_a hcr18) mt_X7_refuse ml_X7_106 rfl ⟨rfl, rfl, Nat.le_of_ble_eq_true rfl, Nat.le_of_ble_eq_true rfl⟩ ⟨Nat.le_refl 0, Nat.le_refl 0⟩ (nx_0 n_a) k_a (by decide) rfl hl.1 (Nat.le_of_ble_eq_true rfl) rfl dX7_adds_25 (fun H locs hG hS => ?_)
      obtain rfl := Option.some.inj h
      exact g_iret X hr hlk hG hS dX7_adds_28
set_option maxRecDepth 100000 in
set_option maxHeartbeats 4000000 in
theorem wX7_less_51 {N : Nat} {p : Program} {l : Launch} {e : Env} {s : State} {m : MethodId} {args : Array Value} {below : List Frame} {meth : Method} {c : Code} {z : gZ} {a : Nat} {u1 : Int32} {u2 : Int32} {u3 : Int32} {o : Int32 × Mem} (X : gX p m c cX7_less 6 s args RX7 z) (hr : meth.sig.returnType = (some .int)) (hlk : meth.locks = false) (k_a : kd a = 7) (n_a : a + 59 ≤ gn z)  {K138 : Mem → Option (Int32 × Mem)} (hK138 : ∀ (Mw : Mem) (H : Heap) (locs : List Loc) (ls : Array Slot), K138 Mw = some o → gW z Mw H → va_S (gA z) s.heap H locs → lv_has ls 6 [(0, .ref (gad z a)), (1, .int u1), (2, .int u2), (3, .int u3)] → W p l e { frames := 6, cells := 0, slots := 0, locals := 144 } s m args below meth c H locs 0 0 (MQ below (va_Qi (fun r' (_ : Unit) => r' = o.1) (fun _ t => gW z o.2 t.heap) (gA z)) args s 0 0 (gA z)) (F0 m 138 ls [])) : ∀ (n : Nat) (Mw : Mem) (w4 : Int32) (H : Heap) (locs : List Loc) (ls : Array Slot), fX7_less_51 N a u1 u2 u3 K138 n Mw w4 = some o → gW z Mw H → va_S (gA z) s.heap H locs → lv_has ls 6 [(0, .ref (gad z a)), (1, .int u1), (2, .int u2), (3, .int u3), (4, .int w4)] → W p l e { frames := 6, cells := 0, slots := 0, locals := 144 } s m args below meth c H locs 0 0 (MQ below (va_Qi (fun r' (_ : Unit) => r' = o.1) (fun _ t => gW z o.2 t.heap) (gA z)) args s 0 0 (gA z)) (F0 m 51 ls []) := by
  have hx := X.1
  have hb := X.2.1
  intro n
  induction n with
  | zero => intro Mw w4 H locs ls h; cases h
  | succ n ih =>
    intro Mw w4 H locs ls h hG hS hl
    rw [fX7_less_51] at h
    refine lv_iload hx hb dX7_less_51 (lv_at hl 4 rfl) ?_
    refine lv_aload_n hx hb dX7_less_53 rfl (lv_at hl 0 rfl) ?_
    refine gf_X7_11 X hG (nx_0 n_a) k_a fl_X7_40 dX7_less_54 ?_
    refine lv_iload_n hx hb dX7_less_57 rfl (lv_at hl 1 rfl) ?_
    obtain ⟨i1, h⟩ := gd_y h
    refine g_iald X hG (nx_a (a := a) (k := 18) (n := 59) n_a (Nat.le_of_ble_eq_true rfl)) (kx_7_18 k_a) (by decide) i1 dX7_less_58 ?_
    refine lv_icmp_ge (tgt := 138) hx hb dX7_less_59 (by decide) (fun q2 => ?_) (fun q2 => ?_)
    · have h := ite_y h q2
      exact hK138 Mw  _ _ _ h hG hS (lv_sub hl [0, 1, 2, 3] rfl)
    · have h := ite_n h q2
      refine lv_aload_n hx hb dX7_less_62 rfl (lv_at hl 0 rfl) ?_
      refine gf_X7_16 X hG (nx_0 n_a) k_a fl_X7_57 dX7_less_63 ?_
      refine lv_iload_n hx hb dX7_less_66 rfl (lv_at hl 1 rfl) ?_
      refine g_aldII X hG (nx_a (a := a) (k := 33) (n := 59) n_a (Nat.le_of_ble_eq_true rfl)) (kx_7_33 k_a) (by decide) i1 dX7_less_67 ?_
      refine lv_iload_n hx hb dX7_less_68 rfl (lv_at hl 3 rfl) ?_
      obtain ⟨i3, h⟩ := gd_y h
      refine g_iald X hG (nE n_a i1 (Nat.le_of_ble_eq_true rfl)) (ke_7_33 k_a i1) (by decide) i3 dX7_less_69 ?_
      refine lv_iload hx hb dX7_less_70 (lv_at hl 4 rfl) ?_
      refine lv_ishr hx hb dX7_less_72 ?_
      refine lv_iconst (v := 1) hx hb dX7_less_73 (by decide) ?_
      refine lv_iand hx hb dX7_less_74 ?_
      refine lv_if_ne (tgt := 132) hx hb dX7_less_75 (by decide) (fun q4 => ?_) (fun q4 => ?_)
      · have h := ite_n h q4
        refine lv_iinc (v := (w4 + 1)) (lv' := [(4, .int (w4 + 1)), (0, .ref (gad z a)), (1, .int u1), (2, .int u2), (3, .int u3)]) hx hb dX7_less_132 hl (k := 4) rfl rfl (by decide) rfl (fun ls hl => ?_)
        refine lv_goto (tgt := 51) hx hb dX7_less_135 (by decide) ?_
        exact ih Mw (w4 + 1) _ _ _ h hG hS (lv_sub hl [1, 2, 3, 4, 0] rfl)
      · have h := ite_y h q4
        refine lv_aload_n hx hb dX7_less_78 rfl (lv_at hl 0 rfl) ?_
        refine lv_iload_n hx hb dX7_less_79 rfl (lv_at hl 1 rfl) ?_
        refine lv_iload_n hx hb dX7_less_80 rfl (lv_at hl 3 rfl) ?_
        refine lv_iload hx hb dX7_less_81 (lv_at hl 4 rfl) ?_
        refine lv_iconst (v := 0) hx hb dX7_less_83 (by decide) ?_
        obtain ⟨r5, hcr5, h⟩ := bd_y h
        refine g_cVI (a := a) (ci := 7) (T := TX7) (N := 37) (av := [.int u1, .int u3, .int w4, .int 0]) (rest := []) X hG hS (ct_X7_tie l z k_a n_a hcr5) mt_X7_tie ml_X7_304 rfl ⟨rfl, rfl, Nat.le_of_ble_eq_true rfl, Nat.le_of_ble_eq_true rfl⟩ ⟨Nat.le_refl 0, Nat.le_refl 0⟩ (nx_0 n_a) k_a (by decide) rfl hl.1 (Nat.le_of_ble_eq_true rfl) rfl dX7_less_84 (fun H locs hG hS => ?_)
        refine lv_pop hx hb dX7_less_87 rfl ?_
        refine lv_aload_n hx hb dX7_less_88 rfl (lv_at hl 0 rfl) ?_
        refine lv_iload_n hx hb dX7_less_89 rfl (lv_at hl 1 rfl) ?_
        refine lv_iconst (v := 0) hx hb dX7_less_90 (by decide) ?_
        obtain ⟨r6, hcr6, h⟩ := bd_y h
        refine g_cVI (a := a) (ci := 7) (T := TX7) (N := 37) (av := [.int u1, .int 0]) (rest := []) X hG hS (ct_X7_seek l z k_a n_a hcr6) mt_X7_seek ml_X7_268 rfl ⟨rfl, rfl, Nat.le_of_ble_eq_true rfl, Nat.le_of_ble_eq_true rfl⟩ ⟨Nat.le_refl 0, Nat.le_refl 0⟩ (nx_0 n_a) k_a (by decide) rfl hl.1 (Nat.le_of_ble_eq_true rfl) rfl dX7_less_91 (fun H locs hG hS => ?_)
        refine lv_istore (lv' := [(5, .int r6), (0, .ref (gad z a)), (1, .int u1), (2, .int u2), (3, .int u3), (4, .int w4)]) hx hb dX7_less_94 hl (by decide) rfl (fun ls hl => ?_)
        refine lv_aload_n hx hb dX7_less_96 rfl (lv_at hl 1 rfl) ?_
        refine lv_iload_n hx hb dX7_less_97 rfl (lv_at hl 2 rfl) ?_
        refine lv_iload_n hx hb dX7_less_98 rfl (lv_at hl 4 rfl) ?_
        refine lv_iload hx hb dX7_less_99 (lv_at hl 5 rfl) ?_
        refine lv_iconst (v := (-1)) hx hb dX7_less_101 (by decide) ?_
        obtain ⟨r7, hcr7, h⟩ := bd_y h
        refine g_cVI (a := a) (ci := 7) (T := TX7) (N := 37) (av := [.int u1, .int u3, .int w4, .int (-1)]) (rest := []) X hG hS (ct_X7_tie l z k_a n_a hcr7) mt_X7_tie ml_X7_304 rfl ⟨rfl, rfl, Nat.le_of_ble_eq_true rfl, Nat.le_of_ble_eq_true rfl⟩ ⟨Nat.le_refl 0, Nat.le_refl 0⟩ (nx_0 n_a) k_a (by decide) rfl hl.1 (Nat.le_of_ble_eq_true rfl) rfl dX7_less_102 (fun H locs hG hS => ?_)
        refine lv_pop hx hb dX7_less_105 rfl ?_
        refine lv_iload hx hb dX7_less_106 (lv_at hl 0 rfl) ?_
        refine lv_iconst (v := (-1)) hx hb dX7_less_108 (by decide) ?_
        refine lv_icmp_eq (tgt := 132) hx hb dX7_less_109 (by decide) (fun q8 => ?_) (fun q8 => ?_)
        · have h := ite_y h q8
          refine lv_iinc (v := (w4 + 1)) (lv' := [(4, .int (w4 + 1)), (5, .int r6), (0, .ref (gad z a)), (1, .int u1), (2, .int u2), (3, .int u3)]) hx hb dX7_less_132 hl (k := 5) rfl rfl (by decide) rfl (fun ls hl => ?_)
          refine lv_goto (tgt := 51) hx hb dX7_less_135 (by decide) ?_
          exact ih r7.2 (w4 + 1) _ _ _ h hG hS (lv_sub hl [2, 3, 4, 5, 0] rfl)
        · have h := ite_n h q8
          refine lv_iload hx hb dX7_less_112 (lv_at hl 0 rfl) ?_
          obtain ⟨r9, hcr9, h⟩ := bd_y h
          refine g_cSI (av := [.int r6]) (rest := []) X hG hS (ct_X7_bits l z  hcr9) mt_X7_bits ml_X7_223 rfl ⟨rfl, rfl, Nat.le_of_ble_eq_true rfl, Nat.le_of_ble_eq_true rfl⟩ ⟨Nat.le_refl 0, Nat.le_refl 0⟩ hl.1 (Nat.le_of_ble_eq_true rfl) rfl dX7_less_114 (fun H locs hG hS => ?_)
          refine lv_iload_n hx hb dX7_less_117 rfl (lv_at hl 3 rfl) ?_
          obtain ⟨r10, hcr10, h⟩ := bd_y h
          refine g_cSI (av := [.int u2]) (rest := [.int r9]) X hG hS (ct_X7_bits l z  hcr10) mt_X7_bits ml_X7_223 rfl ⟨rfl, rfl, Nat.le_of_ble_eq_true rfl, Nat.le_of_ble_eq_true rfl⟩ ⟨Nat.le_refl 0, Nat.le_refl 0⟩ hl.1 (Nat.le_of_ble_eq_true rfl) rfl dX7_less_118 (fun H locs hG hS => ?_)
          refine lv_icmp_ge (tgt := 132) hx hb dX7_less_121 (by decide) (fun q11 => ?_) (fun q11 => ?_)
          · have h := ite_y h q11
            refine lv_iinc (v := (w4 + 1)) (lv' := [(4, .int (w4 + 1)), (5, .int r6), (0, .ref (gad z a)), (1, .int u1), (2, .int u2), (3, .int u3)]) hx hb dX7_less_132 hl (k := 5) rfl rfl (by decide) rfl (fun ls hl => ?_)
            refine lv_goto (tgt := 51) hx hb dX7_less_135 (by decide) ?_
            exact ih r7.2 (w4 + 1) _ _ _ h hG hS (lv_sub hl [2, 3, 4, 5, 0] rfl)
          · have h := ite_n h q11
            refine lv_bipush (v := 100) hx hb dX7_less_124 (by decide) ?_
            refine lv_iload_n hx hb dX7_less_126 rfl (lv_at hl 4 rfl) ?_
            refine lv_imul hx hb dX7_less_127 ?_
            refine lv_iload hx hb dX7_less_128 (lv_at hl 5 rfl) ?_
            refine lv_iadd hx hb dX7_less_130 ?_
            obtain rfl := Option.some.inj h
            exact g_iret X hr hlk hG hS dX7_less_131
set_option maxRecDepth 100000 in
set_option maxHeartbeats 4000000 in
theorem wX7_less_36 {N : Nat} {p : Program} {l : Launch} {e : Env} {s : State} {m : MethodId} {args : Array Value} {below : List Frame} {meth : Method} {c : Code} {z : gZ} {a : Nat} {u1 : Int32} {u2 : Int32} {o : Int32 × Mem} (X : gX p m c cX7_less 6 s args RX7 z) (hr : meth.sig.returnType = (some .int)) (hlk : meth.locks = false) (k_a : kd a = 7) (n_a : a + 59 ≤ gn z)  : ∀ (n : Nat) (Mw : Mem) (w3 : Int32) (H : Heap) (locs : List Loc) (ls : Array Slot), fX7_less_36 N a u1 u2  n Mw w3 = some o → gW z Mw H → va_S (gA z) s.heap H locs → lv_has ls 6 [(0, .ref (gad z a)), (1, .int u1), (2, .int u2), (3, .int w3)] → W p l e { frames := 6, cells := 0, slots := 0, locals := 144 } s m args below meth c H locs 0 0 (MQ below (va_Qi (fun r' (_ : Unit) => r' = o.1) (fun _ t => gW z o.2 t.heap) (gA z)) args s 0 0 (gA z)) (F0 m 36 ls []) := by
  have hx := X.1
  have hb := X.2.1
  intro n
  induction n with
  | zero => intro Mw w3 H locs ls h; cases h
  | succ n ih =>
    intro Mw w3 H locs ls h hG hS hl
    rw [fX7_less_36] at h
    refine lv_iload_n hx hb dX7_less_36 rfl (lv_at hl 3 rfl) ?_
    refine lv_aload_n hx hb dX7_less_37 rfl (lv_at hl 0 rfl) ?_
    refine gf_X7_11 X hG (nx_0 n_a) k_a fl_X7_40 dX7_less_38 ?_
    refine lv_iload_n hx hb dX7_less_41 rfl (lv_at hl 1 rfl) ?_
    obtain ⟨i1, h⟩ := gd_y h
    refine g_iald X hG (nx_a (a := a) (k := 18) (n := 59) n_a (Nat.le_of_ble_eq_true rfl)) (kx_7_18 k_a) (by decide) i1 dX7_less_42 ?_
    refine lv_icmp_ge (tgt := 144) hx hb dX7_less_43 (by decide) (fun q2 => ?_) (fun q2 => ?_)
    · have h := ite_y h q2
      refine lv_iconst (v := (-1)) hx hb dX7_less_144 (by decide) ?_
      obtain rfl := Option.some.inj h
      exact g_iret X hr hlk hG hS dX7_less_145
    · have h := ite_n h q2
      refine lv_iload_n hx hb dX7_less_46 rfl (lv_at hl 3 rfl) ?_
      refine lv_iconst (v := 1) hx hb dX7_less_47 (by decide) ?_
      refine lv_iadd hx hb dX7_less_48 ?_
      refine lv_topi (fun x3 ex3 => ?_)
      have h := nm_y h x3 ex3
      refine lv_istore (lv' := [(4, .int x3), (0, .ref (gad z a)), (1, .int u1), (2, .int u2), (3, .int w3)]) hx hb dX7_less_49 hl (by decide) rfl (fun ls hl => ?_)
      refine wX7_less_51 X hr hlk k_a n_a ?_ _ _ _ _ _ _ h hG hS (lv_sub hl [1, 2, 3, 4, 0] rfl)
      · intro My51 H locs ls h hG hS hl
        refine lv_iinc (v := (w3 + 1)) (lv' := [(3, .int (w3 + 1)), (0, .ref (gad z a)), (1, .int u1), (2, .int u2)]) hx hb dX7_less_138 hl (k := 3) rfl rfl (by decide) rfl (fun ls hl => ?_)
        refine lv_goto (tgt := 36) hx hb dX7_less_141 (by decide) ?_
        exact ih My51 (w3 + 1) _ _ _ h hG hS (lv_sub hl [1, 2, 3, 0] rfl)
set_option maxRecDepth 100000 in
set_option maxHeartbeats 4000000 in
theorem ct_X7_less (l : Launch) (z : gZ) {N : Nat} {M : Mem} {a : Nat} {v1 : Int32} {o : Int32 × Mem} (k_a : kd a = 7) (n_a : a + 59 ≤ gn z) (h : fX7_less N M a v1 = some o) : CtI l z yX7_less cX7_less 6 (some .int) { frames := 6, cells := 0, slots := 0, locals := 144 } [.ref (gad z a), .int v1] M o.1 o.2 := by
  refine Ct_of rfl (Nat.le_of_ble_eq_true rfl) ?_
  intro p e s m below meth c ls X hr hlk hG hS hl
  have X : gX p m c _ _ s _ RX7 z := X
  have hl : lv_has ls 6 [(0, .ref (gad z a)), (1, .int v1)] := hl
  have hx := X.1
  have hb := X.2.1
  unfold fX7_less at h
  refine lv_aload_n hx hb dX7_less_0 rfl (lv_at hl 0 rfl) ?_
  refine lv_iload_n hx hb dX7_less_1 rfl (lv_at hl 1 rfl) ?_
  obtain ⟨r1, hcr1, h⟩ := bd_y h
  refine g_cVI (a := a) (ci := 7) (T := TX7) (N := 37) (av := [.int v1]) (rest := []) X hG hS (ct_X7_isStreet l z k_a n_a hcr1) mt_X7_isStreet ml_X7_92 rfl ⟨rfl, rfl, Nat.le_of_ble_eq_true rfl, Nat.le_of_ble_eq_true rfl⟩ ⟨Nat.le_refl 0, Nat.le_refl 0⟩ (nx_0 n_a) k_a (by decide) rfl hl.1 (Nat.le_of_ble_eq_true rfl) rfl dX7_less_2 (fun H locs hG hS => ?_)
  refine lv_if_ne (tgt := 15) hx hb dX7_less_5 (by decide) (fun q2 => ?_) (fun q2 => ?_)
  · have h := ite_n h q2
    refine lv_aload_n hx hb dX7_less_15 rfl (lv_at hl 0 rfl) ?_
    refine lv_iload_n hx hb dX7_less_16 rfl (lv_at hl 1 rfl) ?_
    refine lv_iconst (v := 0) hx hb dX7_less_17 (by decide) ?_
    obtain ⟨r3, hcr3, h⟩ := bd_y h
    refine g_cVI (a := a) (ci := 7) (T := TX7) (N := 37) (av := [.int v1, .int 0]) (rest := []) X hG hS (ct_X7_seek l z k_a n_a hcr3) mt_X7_seek ml_X7_268 rfl ⟨rfl, rfl, Nat.le_of_ble_eq_true rfl, Nat.le_of_ble_eq_true rfl⟩ ⟨Nat.le_refl 0, Nat.le_refl 0⟩ (nx_0 n_a) k_a (by decide) rfl hl.1 (Nat.le_of_ble_eq_true rfl) rfl dX7_less_18 (fun H locs hG hS => ?_)
    refine lv_istore_n (lv' := [(2, .int r3), (0, .ref (gad z a)), (1, .int v1)]) hx hb dX7_less_21 rfl hl (by decide) rfl (fun ls hl => ?_)
    refine lv_iload_n hx hb dX7_less_22 rfl (lv_at hl 0 rfl) ?_
    refine lv_iconst (v := (-1)) hx hb dX7_less_23 (by decide) ?_
    refine lv_icmp_ne (tgt := 34) hx hb dX7_less_24 (by decide) (fun q4 => ?_) (fun q4 => ?_)
    · have h := ite_n h q4
      refine lv_iconst (v := 0) hx hb dX7_less_34 (by decide) ?_
      refine lv_istore_n (lv' := [(3, .int 0), (2, .int r3), (0, .ref (gad z a)), (1, .int v1)]) hx hb dX7_less_35 rfl hl (by decide) rfl (fun ls hl => ?_)
      refine wX7_less_36 X hr hlk k_a n_a _ _ _ _ _ _ h hG hS (lv_sub hl [2, 3, 1, 0] rfl)
    · have h := ite_y h q4
      refine lv_aload_n hx hb dX7_less_27 rfl (lv_at hl 1 rfl) ?_
      refine lv_bipush (v := (-5)) hx hb dX7_less_28 (by decide) ?_
      obtain ⟨r12, hcr12, h⟩ := bd_y h
      refine g_cVI (a := a) (ci := 7) (T := TX7) (N := 37) (av := [.int (-5)]) (rest := []) X hG hS (ct_X7_refuse l z k_a n_a hcr12) mt_X7_refuse ml_X7_106 rfl ⟨rfl, rfl, Nat.le_of_ble_eq_true rfl, Nat.le_of_ble_eq_true rfl⟩ ⟨Nat.le_refl 0, Nat.le_refl 0⟩ (nx_0 n_a) k_a (by decide) rfl hl.1 (Nat.le_of_ble_eq_true rfl) rfl dX7_less_30 (fun H locs hG hS => ?_)
      obtain rfl := Option.some.inj h
      exact g_iret X hr hlk hG hS dX7_less_33
  · have h := ite_y h q2
    refine lv_aload_n hx hb dX7_less_8 rfl (lv_at hl 0 rfl) ?_
    refine lv_bipush (v := (-2)) hx hb dX7_less_9 (by decide) ?_
    obtain ⟨r13, hcr13, h⟩ := bd_y h
    refine g_cVI (a := a) (ci := 7) (T := TX7) (N := 37) (av := [.int (-2)]) (rest := []) X hG hS (ct_X7_refuse l z k_a n_a hcr13) mt_X7_refuse ml_X7_106 rfl ⟨rfl, rfl, Nat.le_of_ble_eq_true rfl, Nat.le_of_ble_eq_true rfl⟩ ⟨Nat.le_refl 0, Nat.le_refl 0⟩ (nx_0 n_a) k_a (by decide) rfl hl.1 (Nat.le_of_ble_eq_true rfl) rfl dX7_less_11 (fun H locs hG hS => ?_)
    obtain rfl := Option.some.inj h
    exact g_iret X hr hlk hG hS dX7_less_14
set_option maxRecDepth 100000 in
set_option maxHeartbeats 4000000 in
theorem ct_X7_needOf (l : Launch) (z : gZ) {N : Nat} {M : Mem} {a : Nat} {v1 : Int32} {v2 : Int32} {v3 : Int32} {o : Int32} (k_a : kd a = 7) (n_a : a + 59 ≤ gn z) (h : fX7_needOf N M a v1 v2 v3 = some o) : CtI l z yX7_needOf cX7_needOf 5 (some .int) { frames := 2, cells := 0, slots := 0, locals := 49 } [.ref (gad z a), .int v1, .int v2, .int v3] M o M := by
  refine Ct_of rfl (Nat.le_of_ble_eq_true rfl) ?_
  intro p e s m below meth c ls X hr hlk hG hS hl
  have X : gX p m c _ _ s _ RX7 z := X
  have hl : lv_has ls 5 [(0, .ref (gad z a)), (1, .int v1), (2, .int v2), (3, .int v3)] := hl
  have hx := X.1
  have hb := X.2.1
  unfold fX7_needOf at h
  refine lv_aload_n hx hb dX7_needOf_0 rfl (lv_at hl 0 rfl) ?_
  refine gf_X7_13 X hG (nx_0 n_a) k_a fl_X7_46 dX7_needOf_1 ?_
  refine lv_iload_n hx hb dX7_needOf_4 rfl (lv_at hl 1 rfl) ?_
  obtain ⟨i1, h⟩ := gd_y h
  refine g_iald X hG (nx_a (a := a) (k := 20) (n := 59) n_a (Nat.le_of_ble_eq_true rfl)) (kx_7_20 k_a) (by decide) i1 dX7_needOf_5 ?_
  refine lv_iload_n hx hb dX7_needOf_6 rfl (lv_at hl 2 rfl) ?_
  refine lv_ishr hx hb dX7_needOf_7 ?_
  refine lv_iconst (v := 1) hx hb dX7_needOf_8 (by decide) ?_
  refine lv_iand hx hb dX7_needOf_9 ?_
  refine lv_if_eq (tgt := 15) hx hb dX7_needOf_10 (by decide) (fun q2 => ?_) (fun q2 => ?_)
  · have h := ite_y h q2
    refine lv_aload_n hx hb dX7_needOf_15 rfl (lv_at hl 0 rfl) ?_
    refine lv_iload_n hx hb dX7_needOf_16 rfl (lv_at hl 1 rfl) ?_
    refine lv_iload_n hx hb dX7_needOf_17 rfl (lv_at hl 2 rfl) ?_
    refine lv_iload_n hx hb dX7_needOf_18 rfl (lv_at hl 3 rfl) ?_
    refine lv_iconst (v := 1) hx hb dX7_needOf_19 (by decide) ?_
    refine lv_iload_n hx hb dX7_needOf_20 rfl (lv_at hl 2 rfl) ?_
    refine lv_ishl hx hb dX7_needOf_21 ?_
    refine lv_ixor hx hb dX7_needOf_22 ?_
    obtain ⟨r3, hcr3, h⟩ := bd_y h
    refine g_cVI (a := a) (ci := 7) (T := TX7) (N := 37) (av := [.int v1, .int v2, .int (v3 ^^^ (1 <<< (v2 &&& 31)))]) (rest := []) X hG hS (ct_X7_gainOf l z k_a n_a hcr3) mt_X7_gainOf ml_X7_241 rfl ⟨rfl, rfl, Nat.le_of_ble_eq_true rfl, Nat.le_of_ble_eq_true rfl⟩ ⟨Nat.le_refl 0, Nat.le_refl 0⟩ (nx_0 n_a) k_a (by decide) rfl hl.1 (Nat.le_of_ble_eq_true rfl) rfl dX7_needOf_23 (fun H locs hG hS => ?_)
    refine lv_aload_n hx hb dX7_needOf_26 rfl (lv_at hl 0 rfl) ?_
    refine lv_iload_n hx hb dX7_needOf_27 rfl (lv_at hl 1 rfl) ?_
    refine lv_iload_n hx hb dX7_needOf_28 rfl (lv_at hl 2 rfl) ?_
    refine lv_iload_n hx hb dX7_needOf_29 rfl (lv_at hl 3 rfl) ?_
    obtain ⟨r4, hcr4, h⟩ := bd_y h
    refine g_cVI (a := a) (ci := 7) (T := TX7) (N := 37) (av := [.int v1, .int v2, .int v3]) (rest := [.int r3]) X hG hS (ct_X7_gainOf l z k_a n_a hcr4) mt_X7_gainOf ml_X7_241 rfl ⟨rfl, rfl, Nat.le_of_ble_eq_true rfl, Nat.le_of_ble_eq_true rfl⟩ ⟨Nat.le_refl 0, Nat.le_refl 0⟩ (nx_0 n_a) k_a (by decide) rfl hl.1 (Nat.le_of_ble_eq_true rfl) rfl dX7_needOf_30 (fun H locs hG hS => ?_)
    refine lv_isub hx hb dX7_needOf_33 ?_
    refine lv_topi (fun x5 ex5 => ?_)
    have h := nm_y h x5 ex5
    refine lv_istore (lv' := [(4, .int x5), (0, .ref (gad z a)), (1, .int v1), (2, .int v2), (3, .int v3)]) hx hb dX7_needOf_34 hl (by decide) rfl (fun ls hl => ?_)
    refine lv_iload hx hb dX7_needOf_36 (lv_at hl 0 rfl) ?_
    refine lv_if_le (tgt := 46) hx hb dX7_needOf_38 (by decide) (fun q6 => ?_) (fun q6 => ?_)
    · have h := ite_y h q6
      refine lv_iconst (v := 0) hx hb dX7_needOf_46 (by decide) ?_
      obtain rfl := Option.some.inj h
      exact g_iret X hr hlk hG hS dX7_needOf_47
    · have h := ite_n h q6
      refine lv_iload hx hb dX7_needOf_41 (lv_at hl 0 rfl) ?_
      refine lv_goto (tgt := 47) hx hb dX7_needOf_43 (by decide) ?_
      obtain rfl := Option.some.inj h
      exact g_iret X hr hlk hG hS dX7_needOf_47
  · have h := ite_n h q2
    refine lv_iconst (v := 0) hx hb dX7_needOf_13 (by decide) ?_
    obtain rfl := Option.some.inj h
    exact g_iret X hr hlk hG hS dX7_needOf_14
set_option maxRecDepth 100000 in
set_option maxHeartbeats 4000000 in
theorem ct_X7_need (l : Launch) (z : gZ) {N : Nat} {M : Mem} {a : Nat} {v1 : Int32} {v2 : Int32} {v3 : Int32} {o : Int32 × Mem} (k_a : kd a = 7) (n_a : a + 59 ≤ gn z) (h : fX7_need N M a v1 v2 v3 = some o) : CtI l z yX7_need cX7_need 4 (some .int) { frames := 3, cells := 0, slots := 0, locals := 73 } [.ref (gad z a), .int v1, .int v2, .int v3] M o.1 o.2 := by
  refine Ct_of rfl (Nat.le_of_ble_eq_true rfl) ?_
  intro p e s m below meth c ls X hr hlk hG hS hl
  have X : gX p m c _ _ s _ RX7 z := X
  have hl : lv_has ls 4 [(0, .ref (gad z a)), (1, .int v1), (2, .int v2), (3, .int v3)] := hl
  have hx := X.1
  have hb := X.2.1
  unfold fX7_need at h
  refine lv_aload_n hx hb dX7_need_0 rfl (lv_at hl 0 rfl) ?_
  refine lv_iload_n hx hb dX7_need_1 rfl (lv_at hl 1 rfl) ?_
  refine lv_iload_n hx hb dX7_need_2 rfl (lv_at hl 2 rfl) ?_
  obtain ⟨r1, hcr1, h⟩ := bd_y h
  refine g_cVI (a := a) (ci := 7) (T := TX7) (N := 37) (av := [.int v1, .int v2]) (rest := []) X hG hS (ct_X7_isPerson l z k_a n_a hcr1) mt_X7_isPerson ml_X7_230 rfl ⟨rfl, rfl, Nat.le_of_ble_eq_true rfl, Nat.le_of_ble_eq_true rfl⟩ ⟨Nat.le_refl 0, Nat.le_refl 0⟩ (nx_0 n_a) k_a (by decide) rfl hl.1 (Nat.le_of_ble_eq_true rfl) rfl dX7_need_3 (fun H locs hG hS => ?_)
  refine lv_if_eq (tgt := 29) hx hb dX7_need_6 (by decide) (fun q2 => ?_) (fun q2 => ?_)
  · have h := ite_y h q2
    refine lv_aload_n hx hb dX7_need_29 rfl (lv_at hl 0 rfl) ?_
    refine lv_bipush (v := (-2)) hx hb dX7_need_30 (by decide) ?_
    obtain ⟨r3, hcr3, h⟩ := bd_y h
    refine g_cVI (a := a) (ci := 7) (T := TX7) (N := 37) (av := [.int (-2)]) (rest := []) X hG hS (ct_X7_refuse l z k_a n_a hcr3) mt_X7_refuse ml_X7_106 rfl ⟨rfl, rfl, Nat.le_of_ble_eq_true rfl, Nat.le_of_ble_eq_true rfl⟩ ⟨Nat.le_refl 0, Nat.le_refl 0⟩ (nx_0 n_a) k_a (by decide) rfl hl.1 (Nat.le_of_ble_eq_true rfl) rfl dX7_need_32 (fun H locs hG hS => ?_)
    obtain rfl := Option.some.inj h
    exact g_iret X hr hlk hG hS dX7_need_35
  · have h := ite_n h q2
    refine lv_aload_n hx hb dX7_need_9 rfl (lv_at hl 0 rfl) ?_
    refine lv_iload_n hx hb dX7_need_10 rfl (lv_at hl 1 rfl) ?_
    refine lv_iload_n hx hb dX7_need_11 rfl (lv_at hl 3 rfl) ?_
    refine lv_i2l hx hb dX7_need_12 rfl ?_
    obtain ⟨r4, hcr4, h⟩ := bd_y h
    refine g_cVI (a := a) (ci := 7) (T := TX7) (N := 37) (av := [.int v1, .long ((v3 : Int32).toInt64)]) (rest := []) X hG hS (ct_X7_isSet l z k_a n_a hcr4) mt_X7_isSet ml_X7_237 rfl ⟨rfl, rfl, Nat.le_of_ble_eq_true rfl, Nat.le_of_ble_eq_true rfl⟩ ⟨Nat.le_refl 0, Nat.le_refl 0⟩ (nx_0 n_a) k_a (by decide) rfl hl.1 (Nat.le_of_ble_eq_true rfl) rfl dX7_need_13 (fun H locs hG hS => ?_)
    refine lv_if_eq (tgt := 29) hx hb dX7_need_16 (by decide) (fun q5 => ?_) (fun q5 => ?_)
    · have h := ite_y h q5
      refine lv_aload_n hx hb dX7_need_29 rfl (lv_at hl 0 rfl) ?_
      refine lv_bipush (v := (-2)) hx hb dX7_need_30 (by decide) ?_
      obtain ⟨r6, hcr6, h⟩ := bd_y h
      refine g_cVI (a := a) (ci := 7) (T := TX7) (N := 37) (av := [.int (-2)]) (rest := []) X hG hS (ct_X7_refuse l z k_a n_a hcr6) mt_X7_refuse ml_X7_106 rfl ⟨rfl, rfl, Nat.le_of_ble_eq_true rfl, Nat.le_of_ble_eq_true rfl⟩ ⟨Nat.le_refl 0, Nat.le_refl 0⟩ (nx_0 n_a) k_a (by decide) rfl hl.1 (Nat.le_of_ble_eq_true rfl) rfl dX7_need_32 (fun H locs hG hS => ?_)
      obtain rfl := Option.some.inj h
      exact g_iret X hr hlk hG hS dX7_need_35
    · have h := ite_n h q5
      refine lv_aload_n hx hb dX7_need_19 rfl (lv_at hl 0 rfl) ?_
      refine lv_iload_n hx hb dX7_need_20 rfl (lv_at hl 1 rfl) ?_
      refine lv_iload_n hx hb dX7_need_21 rfl (lv_at hl 2 rfl) ?_
      refine lv_iload_n hx hb dX7_need_22 rfl (lv_at hl 3 rfl) ?_
      obtain ⟨r7, hcr7, h⟩ := bd_y h
      refine g_cVI (a := a) (ci := 7) (T := TX7) (N := 37) (av := [.int v1, .int v2, .int v3]) (rest := []) X hG hS (ct_X7_needOf l z k_a n_a hcr7) mt_X7_needOf ml_X7_307 rfl ⟨rfl, rfl, Nat.le_of_ble_eq_true rfl, Nat.le_of_ble_eq_true rfl⟩ ⟨Nat.le_refl 0, Nat.le_refl 0⟩ (nx_0 n_a) k_a (by decide) rfl hl.1 (Nat.le_of_ble_eq_true rfl) rfl dX7_need_23 (fun H locs hG hS => ?_)
      refine lv_goto (tgt := 35) hx hb dX7_need_26 (by decide) ?_
      obtain rfl := Option.some.inj h
      exact g_iret X hr hlk hG hS dX7_need_35
set_option maxRecDepth 100000 in
set_option maxHeartbeats 4000000 in
theorem wX7_pay_42 {N : Nat} {p : Program} {l : Launch} {e : Env} {s : State} {m : MethodId} {args : Array Value} {below : List Frame} {meth : Method} {c : Code} {z : gZ} {M : Mem} {a : Nat} {u1 : Int32} {u2 : Int32} {o : Int32 × Mem} (X : gX p m c cX7_pay 5 s args RX7 z) (hr : meth.sig.returnType = (some .int)) (hlk : meth.locks = false) (k_a : kd a = 7) (n_a : a + 59 ≤ gn z)  : ∀ (n : Nat) (w3 : Int32) (w4 : Int32) (H : Heap) (locs : List Loc) (ls : Array Slot), fX7_pay_42 N M a u1 u2  n w3 w4 = some o → gW z M H → va_S (gA z) s.heap H locs → lv_has ls 5 [(0, .ref (gad z a)), (1, .int u1), (2, .int u2), (3, .int w3), (4, .int w4)] → W p l e { frames := 3, cells := 0, slots := 0, locals := 73 } s m args below meth c H locs 0 0 (MQ below (va_Qi (fun r' (_ : Unit) => r' = o.1) (fun _ t => gW z o.2 t.heap) (gA z)) args s 0 0 (gA z)) (F0 m 42 ls []) := by
  have hx := X.1
  have hb := X.2.1
  intro n
  induction n with
  | zero => intro w3 w4 H locs ls h; cases h
  | succ n ih =>
    intro w3 w4 H locs ls h hG hS hl
    rw [fX7_pay_42] at h
    refine lv_iload hx hb dX7_pay_42 (lv_at hl 4 rfl) ?_
    refine lv_aload_n hx hb dX7_pay_44 rfl (lv_at hl 0 rfl) ?_
    refine gf_X7_11 X hG (nx_0 n_a) k_a fl_X7_40 dX7_pay_45 ?_
    refine lv_iload_n hx hb dX7_pay_48 rfl (lv_at hl 1 rfl) ?_
    obtain ⟨i1, h⟩ := gd_y h
    refine g_iald X hG (nx_a (a := a) (k := 18) (n := 59) n_a (Nat.le_of_ble_eq_true rfl)) (kx_7_18 k_a) (by decide) i1 dX7_pay_49 ?_
    refine lv_icmp_ge (tgt := 70) hx hb dX7_pay_50 (by decide) (fun q2 => ?_) (fun q2 => ?_)
    · have h := ite_y h q2
      refine lv_iload_n hx hb dX7_pay_70 rfl (lv_at hl 3 rfl) ?_
      obtain rfl := Option.some.inj h
      exact g_iret X hr hlk hG hS dX7_pay_71
    · have h := ite_n h q2
      refine lv_iload_n hx hb dX7_pay_53 rfl (lv_at hl 3 rfl) ?_
      refine lv_aload_n hx hb dX7_pay_54 rfl (lv_at hl 0 rfl) ?_
      refine lv_iload_n hx hb dX7_pay_55 rfl (lv_at hl 1 rfl) ?_
      refine lv_iload hx hb dX7_pay_56 (lv_at hl 4 rfl) ?_
      refine lv_iload_n hx hb dX7_pay_58 rfl (lv_at hl 2 rfl) ?_
      obtain ⟨r3, hcr3, h⟩ := bd_y h
      refine g_cVI (a := a) (ci := 7) (T := TX7) (N := 37) (av := [.int u1, .int w4, .int u2]) (rest := [.int w3]) X hG hS (ct_X7_needOf l z k_a n_a hcr3) mt_X7_needOf ml_X7_307 rfl ⟨rfl, rfl, Nat.le_of_ble_eq_true rfl, Nat.le_of_ble_eq_true rfl⟩ ⟨Nat.le_refl 0, Nat.le_refl 0⟩ (nx_0 n_a) k_a (by decide) rfl hl.1 (Nat.le_of_ble_eq_true rfl) rfl dX7_pay_59 (fun H locs hG hS => ?_)
      refine lv_iadd hx hb dX7_pay_62 ?_
      refine lv_topi (fun x4 ex4 => ?_)
      have h := nm_y h x4 ex4
      refine lv_istore_n (lv' := [(3, .int x4), (0, .ref (gad z a)), (1, .int u1), (2, .int u2), (4, .int w4)]) hx hb dX7_pay_63 rfl hl (by decide) rfl (fun ls hl => ?_)
      refine lv_iinc (v := (w4 + 1)) (lv' := [(4, .int (w4 + 1)), (3, .int x4), (0, .ref (gad z a)), (1, .int u1), (2, .int u2)]) hx hb dX7_pay_64 hl (k := 4) rfl rfl (by decide) rfl (fun ls hl => ?_)
      refine lv_goto (tgt := 42) hx hb dX7_pay_67 (by decide) ?_
      exact ih x4 (w4 + 1) _ _ _ h hG hS (lv_sub hl [2, 3, 4, 1, 0] rfl)
set_option maxRecDepth 100000 in
set_option maxHeartbeats 4000000 in
theorem ct_X7_pay (l : Launch) (z : gZ) {N : Nat} {M : Mem} {a : Nat} {v1 : Int32} {v2 : Int32} {o : Int32 × Mem} (k_a : kd a = 7) (n_a : a + 59 ≤ gn z) (h : fX7_pay N M a v1 v2 = some o) : CtI l z yX7_pay cX7_pay 5 (some .int) { frames := 3, cells := 0, slots := 0, locals := 73 } [.ref (gad z a), .int v1, .int v2] M o.1 o.2 := by
  refine Ct_of rfl (Nat.le_of_ble_eq_true rfl) ?_
  intro p e s m below meth c ls X hr hlk hG hS hl
  have X : gX p m c _ _ s _ RX7 z := X
  have hl : lv_has ls 5 [(0, .ref (gad z a)), (1, .int v1), (2, .int v2)] := hl
  have hx := X.1
  have hb := X.2.1
  unfold fX7_pay at h
  refine lv_aload_n hx hb dX7_pay_0 rfl (lv_at hl 0 rfl) ?_
  refine lv_iload_n hx hb dX7_pay_1 rfl (lv_at hl 1 rfl) ?_
  refine lv_iload_n hx hb dX7_pay_2 rfl (lv_at hl 2 rfl) ?_
  refine lv_i2l hx hb dX7_pay_3 rfl ?_
  obtain ⟨r1, hcr1, h⟩ := bd_y h
  refine g_cVI (a := a) (ci := 7) (T := TX7) (N := 37) (av := [.int v1, .long ((v2 : Int32).toInt64)]) (rest := []) X hG hS (ct_X7_isSet l z k_a n_a hcr1) mt_X7_isSet ml_X7_237 rfl ⟨rfl, rfl, Nat.le_of_ble_eq_true rfl, Nat.le_of_ble_eq_true rfl⟩ ⟨Nat.le_refl 0, Nat.le_refl 0⟩ (nx_0 n_a) k_a (by decide) rfl hl.1 (Nat.le_of_ble_eq_true rfl) rfl dX7_pay_4 (fun H locs hG hS => ?_)
  refine lv_if_ne (tgt := 17) hx hb dX7_pay_7 (by decide) (fun q2 => ?_) (fun q2 => ?_)
  · have h := ite_n h q2
    refine lv_aload_n hx hb dX7_pay_17 rfl (lv_at hl 0 rfl) ?_
    refine gf_X7_13 X hG (nx_0 n_a) k_a fl_X7_46 dX7_pay_18 ?_
    refine lv_iload_n hx hb dX7_pay_21 rfl (lv_at hl 1 rfl) ?_
    obtain ⟨i3, h⟩ := gd_y h
    refine g_iald X hG (nx_a (a := a) (k := 20) (n := 59) n_a (Nat.le_of_ble_eq_true rfl)) (kx_7_20 k_a) (by decide) i3 dX7_pay_22 ?_
    refine lv_iload_n hx hb dX7_pay_23 rfl (lv_at hl 2 rfl) ?_
    refine lv_iconst (v := (-1)) hx hb dX7_pay_24 (by decide) ?_
    refine lv_ixor hx hb dX7_pay_25 ?_
    refine lv_iand hx hb dX7_pay_26 ?_
    refine lv_if_eq (tgt := 37) hx hb dX7_pay_27 (by decide) (fun q4 => ?_) (fun q4 => ?_)
    · have h := ite_y h q4
      refine lv_iconst (v := 0) hx hb dX7_pay_37 (by decide) ?_
      refine lv_istore_n (lv' := [(3, .int 0), (0, .ref (gad z a)), (1, .int v1), (2, .int v2)]) hx hb dX7_pay_38 rfl hl (by decide) rfl (fun ls hl => ?_)
      refine lv_iconst (v := 0) hx hb dX7_pay_39 (by decide) ?_
      refine lv_istore (lv' := [(4, .int 0), (3, .int 0), (0, .ref (gad z a)), (1, .int v1), (2, .int v2)]) hx hb dX7_pay_40 hl (by decide) rfl (fun ls hl => ?_)
      refine wX7_pay_42 X hr hlk k_a n_a _ _ _ _ _ _ h hG hS (lv_sub hl [2, 3, 4, 1, 0] rfl)
    · have h := ite_n h q4
      refine lv_aload_n hx hb dX7_pay_30 rfl (lv_at hl 0 rfl) ?_
      refine lv_bipush (v := (-5)) hx hb dX7_pay_31 (by decide) ?_
      obtain ⟨r5, hcr5, h⟩ := bd_y h
      refine g_cVI (a := a) (ci := 7) (T := TX7) (N := 37) (av := [.int (-5)]) (rest := []) X hG hS (ct_X7_refuse l z k_a n_a hcr5) mt_X7_refuse ml_X7_106 rfl ⟨rfl, rfl, Nat.le_of_ble_eq_true rfl, Nat.le_of_ble_eq_true rfl⟩ ⟨Nat.le_refl 0, Nat.le_refl 0⟩ (nx_0 n_a) k_a (by decide) rfl hl.1 (Nat.le_of_ble_eq_true rfl) rfl dX7_pay_33 (fun H locs hG hS => ?_)
      obtain rfl := Option.some.inj h
      exact g_iret X hr hlk hG hS dX7_pay_36
  · have h := ite_y h q2
    refine lv_aload_n hx hb dX7_pay_10 rfl (lv_at hl 0 rfl) ?_
    refine lv_bipush (v := (-2)) hx hb dX7_pay_11 (by decide) ?_
    obtain ⟨r6, hcr6, h⟩ := bd_y h
    refine g_cVI (a := a) (ci := 7) (T := TX7) (N := 37) (av := [.int (-2)]) (rest := []) X hG hS (ct_X7_refuse l z k_a n_a hcr6) mt_X7_refuse ml_X7_106 rfl ⟨rfl, rfl, Nat.le_of_ble_eq_true rfl, Nat.le_of_ble_eq_true rfl⟩ ⟨Nat.le_refl 0, Nat.le_refl 0⟩ (nx_0 n_a) k_a (by decide) rfl hl.1 (Nat.le_of_ble_eq_true rfl) rfl dX7_pay_13 (fun H locs hG hS => ?_)
    obtain rfl := Option.some.inj h
    exact g_iret X hr hlk hG hS dX7_pay_16
set_option maxRecDepth 100000 in
set_option maxHeartbeats 4000000 in
theorem wX7_few_42 {N : Nat} {p : Program} {l : Launch} {e : Env} {s : State} {m : MethodId} {args : Array Value} {below : List Frame} {meth : Method} {c : Code} {z : gZ} {M : Mem} {a : Nat} {u1 : Int32} {u2 : Int32} {o : Int32 × Mem} (X : gX p m c cX7_few 5 s args RX7 z) (hr : meth.sig.returnType = (some .int)) (hlk : meth.locks = false) (k_a : kd a = 7) (n_a : a + 59 ≤ gn z)  : ∀ (n : Nat) (w3 : Int32) (w4 : Int32) (H : Heap) (locs : List Loc) (ls : Array Slot), fX7_few_42 N M a u1 u2  n w3 w4 = some o → gW z M H → va_S (gA z) s.heap H locs → lv_has ls 5 [(0, .ref (gad z a)), (1, .int u1), (2, .int u2), (3, .int w3), (4, .int w4)] → W p l e { frames := 3, cells := 0, slots := 0, locals := 73 } s m args below meth c H locs 0 0 (MQ below (va_Qi (fun r' (_ : Unit) => r' = o.1) (fun _ t => gW z o.2 t.heap) (gA z)) args s 0 0 (gA z)) (F0 m 42 ls []) := by
  have hx := X.1
  have hb := X.2.1
  intro n
  induction n with
  | zero => intro w3 w4 H locs ls h; cases h
  | succ n ih =>
    intro w3 w4 H locs ls h hG hS hl
    rw [fX7_few_42] at h
    refine lv_iload hx hb dX7_few_42 (lv_at hl 4 rfl) ?_
    refine lv_aload_n hx hb dX7_few_44 rfl (lv_at hl 0 rfl) ?_
    refine gf_X7_11 X hG (nx_0 n_a) k_a fl_X7_40 dX7_few_45 ?_
    refine lv_iload_n hx hb dX7_few_48 rfl (lv_at hl 1 rfl) ?_
    obtain ⟨i1, h⟩ := gd_y h
    refine g_iald X hG (nx_a (a := a) (k := 18) (n := 59) n_a (Nat.le_of_ble_eq_true rfl)) (kx_7_18 k_a) (by decide) i1 dX7_few_49 ?_
    refine lv_icmp_ge (tgt := 78) hx hb dX7_few_50 (by decide) (fun q2 => ?_) (fun q2 => ?_)
    · have h := ite_y h q2
      refine lv_iload_n hx hb dX7_few_78 rfl (lv_at hl 3 rfl) ?_
      obtain rfl := Option.some.inj h
      exact g_iret X hr hlk hG hS dX7_few_79
    · have h := ite_n h q2
      refine lv_iload_n hx hb dX7_few_53 rfl (lv_at hl 3 rfl) ?_
      refine lv_aload_n hx hb dX7_few_54 rfl (lv_at hl 0 rfl) ?_
      refine lv_iload_n hx hb dX7_few_55 rfl (lv_at hl 1 rfl) ?_
      refine lv_iload hx hb dX7_few_56 (lv_at hl 4 rfl) ?_
      refine lv_iload_n hx hb dX7_few_58 rfl (lv_at hl 2 rfl) ?_
      obtain ⟨r3, hcr3, h⟩ := bd_y h
      refine g_cVI (a := a) (ci := 7) (T := TX7) (N := 37) (av := [.int u1, .int w4, .int u2]) (rest := [.int w3]) X hG hS (ct_X7_needOf l z k_a n_a hcr3) mt_X7_needOf ml_X7_307 rfl ⟨rfl, rfl, Nat.le_of_ble_eq_true rfl, Nat.le_of_ble_eq_true rfl⟩ ⟨Nat.le_refl 0, Nat.le_refl 0⟩ (nx_0 n_a) k_a (by decide) rfl hl.1 (Nat.le_of_ble_eq_true rfl) rfl dX7_few_59 (fun H locs hG hS => ?_)
      refine lv_if_le (tgt := 69) hx hb dX7_few_62 (by decide) (fun q4 => ?_) (fun q4 => ?_)
      · have h := ite_y h q4
        refine lv_iconst (v := 0) hx hb dX7_few_69 (by decide) ?_
        refine lv_iadd hx hb dX7_few_70 ?_
        refine lv_topi (fun x5 ex5 => ?_)
        have h := nm_y h x5 ex5
        refine lv_istore_n (lv' := [(3, .int x5), (0, .ref (gad z a)), (1, .int u1), (2, .int u2), (4, .int w4)]) hx hb dX7_few_71 rfl hl (by decide) rfl (fun ls hl => ?_)
        refine lv_iinc (v := (w4 + 1)) (lv' := [(4, .int (w4 + 1)), (3, .int x5), (0, .ref (gad z a)), (1, .int u1), (2, .int u2)]) hx hb dX7_few_72 hl (k := 4) rfl rfl (by decide) rfl (fun ls hl => ?_)
        refine lv_goto (tgt := 42) hx hb dX7_few_75 (by decide) ?_
        exact ih x5 (w4 + 1) _ _ _ h hG hS (lv_sub hl [2, 3, 4, 1, 0] rfl)
      · have h := ite_n h q4
        refine lv_iconst (v := 1) hx hb dX7_few_65 (by decide) ?_
        refine lv_goto (tgt := 70) hx hb dX7_few_66 (by decide) ?_
        refine lv_iadd hx hb dX7_few_70 ?_
        refine lv_topi (fun x6 ex6 => ?_)
        have h := nm_y h x6 ex6
        refine lv_istore_n (lv' := [(3, .int x6), (0, .ref (gad z a)), (1, .int u1), (2, .int u2), (4, .int w4)]) hx hb dX7_few_71 rfl hl (by decide) rfl (fun ls hl => ?_)
        refine lv_iinc (v := (w4 + 1)) (lv' := [(4, .int (w4 + 1)), (3, .int x6), (0, .ref (gad z a)), (1, .int u1), (2, .int u2)]) hx hb dX7_few_72 hl (k := 4) rfl rfl (by decide) rfl (fun ls hl => ?_)
        refine lv_goto (tgt := 42) hx hb dX7_few_75 (by decide) ?_
        exact ih x6 (w4 + 1) _ _ _ h hG hS (lv_sub hl [2, 3, 4, 1, 0] rfl)
set_option maxRecDepth 100000 in
set_option maxHeartbeats 4000000 in
theorem ct_X7_few (l : Launch) (z : gZ) {N : Nat} {M : Mem} {a : Nat} {v1 : Int32} {v2 : Int32} {o : Int32 × Mem} (k_a : kd a = 7) (n_a : a + 59 ≤ gn z) (h : fX7_few N M a v1 v2 = some o) : CtI l z yX7_few cX7_few 5 (some .int) { frames := 3, cells := 0, slots := 0, locals := 73 } [.ref (gad z a), .int v1, .int v2] M o.1 o.2 := by
  refine Ct_of rfl (Nat.le_of_ble_eq_true rfl) ?_
  intro p e s m below meth c ls X hr hlk hG hS hl
  have X : gX p m c _ _ s _ RX7 z := X
  have hl : lv_has ls 5 [(0, .ref (gad z a)), (1, .int v1), (2, .int v2)] := hl
  have hx := X.1
  have hb := X.2.1
  unfold fX7_few at h
  refine lv_aload_n hx hb dX7_few_0 rfl (lv_at hl 0 rfl) ?_
  refine lv_iload_n hx hb dX7_few_1 rfl (lv_at hl 1 rfl) ?_
  refine lv_iload_n hx hb dX7_few_2 rfl (lv_at hl 2 rfl) ?_
  refine lv_i2l hx hb dX7_few_3 rfl ?_
  obtain ⟨r1, hcr1, h⟩ := bd_y h
  refine g_cVI (a := a) (ci := 7) (T := TX7) (N := 37) (av := [.int v1, .long ((v2 : Int32).toInt64)]) (rest := []) X hG hS (ct_X7_isSet l z k_a n_a hcr1) mt_X7_isSet ml_X7_237 rfl ⟨rfl, rfl, Nat.le_of_ble_eq_true rfl, Nat.le_of_ble_eq_true rfl⟩ ⟨Nat.le_refl 0, Nat.le_refl 0⟩ (nx_0 n_a) k_a (by decide) rfl hl.1 (Nat.le_of_ble_eq_true rfl) rfl dX7_few_4 (fun H locs hG hS => ?_)
  refine lv_if_ne (tgt := 17) hx hb dX7_few_7 (by decide) (fun q2 => ?_) (fun q2 => ?_)
  · have h := ite_n h q2
    refine lv_aload_n hx hb dX7_few_17 rfl (lv_at hl 0 rfl) ?_
    refine gf_X7_13 X hG (nx_0 n_a) k_a fl_X7_46 dX7_few_18 ?_
    refine lv_iload_n hx hb dX7_few_21 rfl (lv_at hl 1 rfl) ?_
    obtain ⟨i3, h⟩ := gd_y h
    refine g_iald X hG (nx_a (a := a) (k := 20) (n := 59) n_a (Nat.le_of_ble_eq_true rfl)) (kx_7_20 k_a) (by decide) i3 dX7_few_22 ?_
    refine lv_iload_n hx hb dX7_few_23 rfl (lv_at hl 2 rfl) ?_
    refine lv_iconst (v := (-1)) hx hb dX7_few_24 (by decide) ?_
    refine lv_ixor hx hb dX7_few_25 ?_
    refine lv_iand hx hb dX7_few_26 ?_
    refine lv_if_eq (tgt := 37) hx hb dX7_few_27 (by decide) (fun q4 => ?_) (fun q4 => ?_)
    · have h := ite_y h q4
      refine lv_iconst (v := 0) hx hb dX7_few_37 (by decide) ?_
      refine lv_istore_n (lv' := [(3, .int 0), (0, .ref (gad z a)), (1, .int v1), (2, .int v2)]) hx hb dX7_few_38 rfl hl (by decide) rfl (fun ls hl => ?_)
      refine lv_iconst (v := 0) hx hb dX7_few_39 (by decide) ?_
      refine lv_istore (lv' := [(4, .int 0), (3, .int 0), (0, .ref (gad z a)), (1, .int v1), (2, .int v2)]) hx hb dX7_few_40 hl (by decide) rfl (fun ls hl => ?_)
      refine wX7_few_42 X hr hlk k_a n_a _ _ _ _ _ _ h hG hS (lv_sub hl [2, 3, 4, 1, 0] rfl)
    · have h := ite_n h q4
      refine lv_aload_n hx hb dX7_few_30 rfl (lv_at hl 0 rfl) ?_
      refine lv_bipush (v := (-5)) hx hb dX7_few_31 (by decide) ?_
      obtain ⟨r7, hcr7, h⟩ := bd_y h
      refine g_cVI (a := a) (ci := 7) (T := TX7) (N := 37) (av := [.int (-5)]) (rest := []) X hG hS (ct_X7_refuse l z k_a n_a hcr7) mt_X7_refuse ml_X7_106 rfl ⟨rfl, rfl, Nat.le_of_ble_eq_true rfl, Nat.le_of_ble_eq_true rfl⟩ ⟨Nat.le_refl 0, Nat.le_refl 0⟩ (nx_0 n_a) k_a (by decide) rfl hl.1 (Nat.le_of_ble_eq_true rfl) rfl dX7_few_33 (fun H locs hG hS => ?_)
      obtain rfl := Option.some.inj h
      exact g_iret X hr hlk hG hS dX7_few_36
  · have h := ite_y h q2
    refine lv_aload_n hx hb dX7_few_10 rfl (lv_at hl 0 rfl) ?_
    refine lv_bipush (v := (-2)) hx hb dX7_few_11 (by decide) ?_
    obtain ⟨r8, hcr8, h⟩ := bd_y h
    refine g_cVI (a := a) (ci := 7) (T := TX7) (N := 37) (av := [.int (-2)]) (rest := []) X hG hS (ct_X7_refuse l z k_a n_a hcr8) mt_X7_refuse ml_X7_106 rfl ⟨rfl, rfl, Nat.le_of_ble_eq_true rfl, Nat.le_of_ble_eq_true rfl⟩ ⟨Nat.le_refl 0, Nat.le_refl 0⟩ (nx_0 n_a) k_a (by decide) rfl hl.1 (Nat.le_of_ble_eq_true rfl) rfl dX7_few_13 (fun H locs hG hS => ?_)
    obtain rfl := Option.some.inj h
    exact g_iret X hr hlk hG hS dX7_few_16
set_option maxRecDepth 100000 in
set_option maxHeartbeats 4000000 in
theorem wX7_rota_148 {N : Nat} {p : Program} {l : Launch} {e : Env} {s : State} {m : MethodId} {args : Array Value} {below : List Frame} {meth : Method} {c : Code} {z : gZ} {M : Mem} {a : Nat} {u1 : Int32} {u2 : Int32} {u3 : Int32} {u4 : Int32} {o : Int32 × Mem} (X : gX p m c cX7_rota 8 s args RX7 z) (hr : meth.sig.returnType = (some .int)) (hlk : meth.locks = false) (k_a : kd a = 7) (n_a : a + 59 ≤ gn z)  {K210 : Int32 → Option (Int32 × Mem)} (hK210 : ∀ (w5 : Int32) (H : Heap) (locs : List Loc) (ls : Array Slot), K210 w5 = some o → gW z M H → va_S (gA z) s.heap H locs → lv_has ls 8 [(0, .ref (gad z a)), (1, .int u1), (2, .int u2), (3, .int u3), (4, .int u4), (5, .int w5)] → W p l e { frames := 3, cells := 0, slots := 0, locals := 69 } s m args below meth c H locs 0 0 (MQ below (va_Qi (fun r' (_ : Unit) => r' = o.1) (fun _ t => gW z o.2 t.heap) (gA z)) args s 0 0 (gA z)) (F0 m 210 ls [])) : ∀ (n : Nat) (w5 : Int32) (w6 : Int32) (H : Heap) (locs : List Loc) (ls : Array Slot), fX7_rota_148 N M a u1 u2 u3 u4 K210 n w5 w6 = some o → gW z M H → va_S (gA z) s.heap H locs → lv_has ls 8 [(0, .ref (gad z a)), (1, .int u1), (2, .int u2), (3, .int u3), (4, .int u4), (5, .int w5), (6, .int w6)] → W p l e { frames := 3, cells := 0, slots := 0, locals := 69 } s m args below meth c H locs 0 0 (MQ below (va_Qi (fun r' (_ : Unit) => r' = o.1) (fun _ t => gW z o.2 t.heap) (gA z)) args s 0 0 (gA z)) (F0 m 148 ls []) := by
  have hx := X.1
  have hb := X.2.1
  intro n
  induction n with
  | zero => intro w5 w6 H locs ls h; cases h
  | succ n ih =>
    intro w5 w6 H locs ls h hG hS hl
    rw [fX7_rota_148] at h
    refine lv_iload hx hb dX7_rota_148 (lv_at hl 6 rfl) ?_
    refine lv_iload_n hx hb dX7_rota_150 rfl (lv_at hl 3 rfl) ?_
    refine lv_icmp_ge (tgt := 210) hx hb dX7_rota_151 (by decide) (fun q1 => ?_) (fun q1 => ?_)
    · have h := ite_y h q1
      exact hK210 w5 _ _ _ h hG hS (lv_sub hl [0, 1, 2, 3, 4, 5] rfl)
    · have h := ite_n h q1
      refine lv_aload_n hx hb dX7_rota_154 rfl (lv_at hl 0 rfl) ?_
      refine gf_X7_3 X hG (nx_0 n_a) k_a fl_X7_21 dX7_rota_155 ?_
      refine lv_iload_n hx hb dX7_rota_158 rfl (lv_at hl 2 rfl) ?_
      obtain ⟨i2, h⟩ := gd_y h
      refine g_aldJJ X hG (nx_a (a := a) (k := 4) (n := 59) n_a (Nat.le_of_ble_eq_true rfl)) (kx_7_4 k_a) i2 dX7_rota_159 ?_
      refine lv_iload hx hb dX7_rota_160 (lv_at hl 6 rfl) ?_
      obtain ⟨i3, h⟩ := gd_y h
      refine g_lald X hG (nE n_a i2 (Nat.le_of_ble_eq_true rfl)) (ke_7_4 k_a i2) (by decide) i3 dX7_rota_162 ?_
      refine lv_l2i hx hb dX7_rota_163 rfl ?_
      refine lv_aload_n hx hb dX7_rota_164 rfl (lv_at hl 0 rfl) ?_
      refine gf_X7_13 X hG (nx_0 n_a) k_a fl_X7_46 dX7_rota_165 ?_
      refine lv_iload_n hx hb dX7_rota_168 rfl (lv_at hl 1 rfl) ?_
      obtain ⟨i4, h⟩ := gd_y h
      refine g_iald X hG (nx_a (a := a) (k := 20) (n := 59) n_a (Nat.le_of_ble_eq_true rfl)) (kx_7_20 k_a) (by decide) i4 dX7_rota_169 ?_
      refine lv_ior hx hb dX7_rota_170 ?_
      refine lv_topi (fun x5 ex5 => ?_)
      have h := nm_y h x5 ex5
      refine lv_istore (lv' := [(7, .int x5), (0, .ref (gad z a)), (1, .int u1), (2, .int u2), (3, .int u3), (4, .int u4), (5, .int w5), (6, .int w6)]) hx hb dX7_rota_171 hl (by decide) rfl (fun ls hl => ?_)
      refine lv_iload hx hb dX7_rota_173 (lv_at hl 6 rfl) ?_
      refine lv_aload_n hx hb dX7_rota_175 rfl (lv_at hl 1 rfl) ?_
      refine lv_iload_n hx hb dX7_rota_176 rfl (lv_at hl 2 rfl) ?_
      refine lv_iload hx hb dX7_rota_177 (lv_at hl 5 rfl) ?_
      refine lv_iload hx hb dX7_rota_179 (lv_at hl 0 rfl) ?_
      refine lv_iconst (v := 1) hx hb dX7_rota_181 (by decide) ?_
      refine lv_iload hx hb dX7_rota_182 (lv_at hl 5 rfl) ?_
      refine lv_ishl hx hb dX7_rota_184 ?_
      refine lv_iconst (v := (-1)) hx hb dX7_rota_185 (by decide) ?_
      refine lv_ixor hx hb dX7_rota_186 ?_
      refine lv_iand hx hb dX7_rota_187 ?_
      obtain ⟨r6, hcr6, h⟩ := bd_y h
      refine g_cVI (a := a) (ci := 7) (T := TX7) (N := 37) (av := [.int u1, .int u4, .int (x5 &&& ((1 <<< (u4 &&& 31)) ^^^ (-1)))]) (rest := [.int w5]) X hG hS (ct_X7_gainOf l z k_a n_a hcr6) mt_X7_gainOf ml_X7_241 rfl ⟨rfl, rfl, Nat.le_of_ble_eq_true rfl, Nat.le_of_ble_eq_true rfl⟩ ⟨Nat.le_refl 0, Nat.le_refl 0⟩ (nx_0 n_a) k_a (by decide) rfl hl.1 (Nat.le_of_ble_eq_true rfl) rfl dX7_rota_188 (fun H locs hG hS => ?_)
      refine lv_aload_n hx hb dX7_rota_191 rfl (lv_at hl 1 rfl) ?_
      refine lv_iload_n hx hb dX7_rota_192 rfl (lv_at hl 2 rfl) ?_
      refine lv_iload hx hb dX7_rota_193 (lv_at hl 5 rfl) ?_
      refine lv_iload hx hb dX7_rota_195 (lv_at hl 0 rfl) ?_
      obtain ⟨r7, hcr7, h⟩ := bd_y h
      refine g_cVI (a := a) (ci := 7) (T := TX7) (N := 37) (av := [.int u1, .int u4, .int x5]) (rest := [.int r6, .int w5]) X hG hS (ct_X7_gainOf l z k_a n_a hcr7) mt_X7_gainOf ml_X7_241 rfl ⟨rfl, rfl, Nat.le_of_ble_eq_true rfl, Nat.le_of_ble_eq_true rfl⟩ ⟨Nat.le_refl 0, Nat.le_refl 0⟩ (nx_0 n_a) k_a (by decide) rfl hl.1 (Nat.le_of_ble_eq_true rfl) rfl dX7_rota_197 (fun H locs hG hS => ?_)
      refine lv_isub hx hb dX7_rota_200 ?_
      refine lv_iadd hx hb dX7_rota_201 ?_
      refine lv_topi (fun x8 ex8 => ?_)
      have h := nm_y h x8 ex8
      refine lv_istore (lv' := [(5, .int x8), (7, .int x5), (0, .ref (gad z a)), (1, .int u1), (2, .int u2), (3, .int u3), (4, .int u4), (6, .int w6)]) hx hb dX7_rota_202 hl (by decide) rfl (fun ls hl => ?_)
      refine lv_iinc (v := (w6 + 1)) (lv' := [(6, .int (w6 + 1)), (5, .int x8), (7, .int x5), (0, .ref (gad z a)), (1, .int u1), (2, .int u2), (3, .int u3), (4, .int u4)]) hx hb dX7_rota_204 hl (k := 7) rfl rfl (by decide) rfl (fun ls hl => ?_)
      refine lv_goto (tgt := 148) hx hb dX7_rota_207 (by decide) ?_
      exact ih x8 (w6 + 1) _ _ _ h hG hS (lv_sub hl [3, 4, 5, 6, 7, 1, 0] rfl)
set_option maxRecDepth 100000 in
set_option maxHeartbeats 4000000 in
theorem wX7_rota_131 {N : Nat} {p : Program} {l : Launch} {e : Env} {s : State} {m : MethodId} {args : Array Value} {below : List Frame} {meth : Method} {c : Code} {z : gZ} {M : Mem} {a : Nat} {u1 : Int32} {u2 : Int32} {u3 : Int32} {o : Int32 × Mem} (X : gX p m c cX7_rota 8 s args RX7 z) (hr : meth.sig.returnType = (some .int)) (hlk : meth.locks = false) (k_a : kd a = 7) (n_a : a + 59 ≤ gn z)  : ∀ (n : Nat) (w4 : Int32) (H : Heap) (locs : List Loc) (ls : Array Slot), fX7_rota_131 N M a u1 u2 u3  n w4 = some o → gW z M H → va_S (gA z) s.heap H locs → lv_has ls 8 [(0, .ref (gad z a)), (1, .int u1), (2, .int u2), (3, .int u3), (4, .int w4)] → W p l e { frames := 3, cells := 0, slots := 0, locals := 69 } s m args below meth c H locs 0 0 (MQ below (va_Qi (fun r' (_ : Unit) => r' = o.1) (fun _ t => gW z o.2 t.heap) (gA z)) args s 0 0 (gA z)) (F0 m 131 ls []) := by
  have hx := X.1
  have hb := X.2.1
  intro n
  induction n with
  | zero => intro w4 H locs ls h; cases h
  | succ n ih =>
    intro w4 H locs ls h hG hS hl
    rw [fX7_rota_131] at h
    refine lv_iload hx hb dX7_rota_131 (lv_at hl 4 rfl) ?_
    refine lv_aload_n hx hb dX7_rota_133 rfl (lv_at hl 0 rfl) ?_
    refine gf_X7_11 X hG (nx_0 n_a) k_a fl_X7_40 dX7_rota_134 ?_
    refine lv_iload_n hx hb dX7_rota_137 rfl (lv_at hl 1 rfl) ?_
    obtain ⟨i1, h⟩ := gd_y h
    refine g_iald X hG (nx_a (a := a) (k := 18) (n := 59) n_a (Nat.le_of_ble_eq_true rfl)) (kx_7_18 k_a) (by decide) i1 dX7_rota_138 ?_
    refine lv_icmp_ge (tgt := 238) hx hb dX7_rota_139 (by decide) (fun q2 => ?_) (fun q2 => ?_)
    · have h := ite_y h q2
      refine lv_iconst (v := (-1)) hx hb dX7_rota_238 (by decide) ?_
      obtain rfl := Option.some.inj h
      exact g_iret X hr hlk hG hS dX7_rota_239
    · have h := ite_n h q2
      refine lv_iconst (v := 0) hx hb dX7_rota_142 (by decide) ?_
      refine lv_istore (lv' := [(5, .int 0), (0, .ref (gad z a)), (1, .int u1), (2, .int u2), (3, .int u3), (4, .int w4)]) hx hb dX7_rota_143 hl (by decide) rfl (fun ls hl => ?_)
      refine lv_iconst (v := 0) hx hb dX7_rota_145 (by decide) ?_
      refine lv_istore (lv' := [(6, .int 0), (5, .int 0), (0, .ref (gad z a)), (1, .int u1), (2, .int u2), (3, .int u3), (4, .int w4)]) hx hb dX7_rota_146 hl (by decide) rfl (fun ls hl => ?_)
      refine wX7_rota_148 X hr hlk k_a n_a ?_ _ _ _ _ _ _ h hG hS (lv_sub hl [2, 3, 4, 5, 6, 1, 0] rfl)
      · intro y148_5 H locs ls h hG hS hl
        refine lv_aload_n hx hb dX7_rota_210 rfl (lv_at hl 0 rfl) ?_
        refine gf_X7_13 X hG (nx_0 n_a) k_a fl_X7_46 dX7_rota_211 ?_
        refine lv_iload_n hx hb dX7_rota_214 rfl (lv_at hl 1 rfl) ?_
        obtain ⟨i9, h⟩ := gd_y h
        refine g_iald X hG (nx_a (a := a) (k := 20) (n := 59) n_a (Nat.le_of_ble_eq_true rfl)) (kx_7_20 k_a) (by decide) i9 dX7_rota_215 ?_
        refine lv_iload hx hb dX7_rota_216 (lv_at hl 4 rfl) ?_
        refine lv_ishr hx hb dX7_rota_218 ?_
        refine lv_iconst (v := 1) hx hb dX7_rota_219 (by decide) ?_
        refine lv_iand hx hb dX7_rota_220 ?_
        refine lv_if_ne (tgt := 232) hx hb dX7_rota_221 (by decide) (fun q10 => ?_) (fun q10 => ?_)
        · have h := ite_n h q10
          refine lv_iinc (v := (w4 + 1)) (lv' := [(4, .int (w4 + 1)), (0, .ref (gad z a)), (1, .int u1), (2, .int u2), (3, .int u3), (5, .int y148_5)]) hx hb dX7_rota_232 hl (k := 4) rfl rfl (by decide) rfl (fun ls hl => ?_)
          refine lv_goto (tgt := 131) hx hb dX7_rota_235 (by decide) ?_
          exact ih (w4 + 1) _ _ _ h hG hS (lv_sub hl [1, 2, 3, 4, 0] rfl)
        · have h := ite_y h q10
          refine lv_iload hx hb dX7_rota_224 (lv_at hl 5 rfl) ?_
          refine lv_if_le (tgt := 232) hx hb dX7_rota_226 (by decide) (fun q11 => ?_) (fun q11 => ?_)
          · have h := ite_y h q11
            refine lv_iinc (v := (w4 + 1)) (lv' := [(4, .int (w4 + 1)), (0, .ref (gad z a)), (1, .int u1), (2, .int u2), (3, .int u3), (5, .int y148_5)]) hx hb dX7_rota_232 hl (k := 4) rfl rfl (by decide) rfl (fun ls hl => ?_)
            refine lv_goto (tgt := 131) hx hb dX7_rota_235 (by decide) ?_
            exact ih (w4 + 1) _ _ _ h hG hS (lv_sub hl [1, 2, 3, 4, 0] rfl)
          · have h := ite_n h q11
            refine lv_iload hx hb dX7_rota_229 (lv_at hl 4 rfl) ?_
            obtain rfl := Option.some.inj h
            exact g_iret X hr hlk hG hS dX7_rota_231
set_option maxRecDepth 100000 in
set_option maxHeartbeats 4000000 in
theorem wX7_rota_92 {N : Nat} {p : Program} {l : Launch} {e : Env} {s : State} {m : MethodId} {args : Array Value} {below : List Frame} {meth : Method} {c : Code} {z : gZ} {M : Mem} {a : Nat} {u1 : Int32} {u2 : Int32} {u3 : Int32} {o : Int32 × Mem} (X : gX p m c cX7_rota 8 s args RX7 z) (hr : meth.sig.returnType = (some .int)) (hlk : meth.locks = false) (k_a : kd a = 7) (n_a : a + 59 ≤ gn z)  : ∀ (n : Nat) (w4 : Int32) (H : Heap) (locs : List Loc) (ls : Array Slot), fX7_rota_92 N M a u1 u2 u3  n w4 = some o → gW z M H → va_S (gA z) s.heap H locs → lv_has ls 8 [(0, .ref (gad z a)), (1, .int u1), (2, .int u2), (3, .int u3), (4, .int w4)] → W p l e { frames := 3, cells := 0, slots := 0, locals := 69 } s m args below meth c H locs 0 0 (MQ below (va_Qi (fun r' (_ : Unit) => r' = o.1) (fun _ t => gW z o.2 t.heap) (gA z)) args s 0 0 (gA z)) (F0 m 92 ls []) := by
  have hx := X.1
  have hb := X.2.1
  intro n
  induction n with
  | zero => intro w4 H locs ls h; cases h
  | succ n ih =>
    intro w4 H locs ls h hG hS hl
    rw [fX7_rota_92] at h
    refine lv_iload hx hb dX7_rota_92 (lv_at hl 4 rfl) ?_
    refine lv_iload_n hx hb dX7_rota_94 rfl (lv_at hl 3 rfl) ?_
    refine lv_icmp_ge (tgt := 128) hx hb dX7_rota_95 (by decide) (fun q1 => ?_) (fun q1 => ?_)
    · have h := ite_y h q1
      refine lv_iconst (v := 0) hx hb dX7_rota_128 (by decide) ?_
      refine lv_istore (lv' := [(4, .int 0), (0, .ref (gad z a)), (1, .int u1), (2, .int u2), (3, .int u3)]) hx hb dX7_rota_129 hl (by decide) rfl (fun ls hl => ?_)
      refine wX7_rota_131 X hr hlk k_a n_a _ _ _ _ _ h hG hS (lv_sub hl [1, 2, 3, 4, 0] rfl)
    · have h := ite_n h q1
      refine lv_aload_n hx hb dX7_rota_98 rfl (lv_at hl 0 rfl) ?_
      refine lv_iload_n hx hb dX7_rota_99 rfl (lv_at hl 1 rfl) ?_
      refine lv_aload_n hx hb dX7_rota_100 rfl (lv_at hl 0 rfl) ?_
      refine gf_X7_3 X hG (nx_0 n_a) k_a fl_X7_21 dX7_rota_101 ?_
      refine lv_iload_n hx hb dX7_rota_104 rfl (lv_at hl 2 rfl) ?_
      obtain ⟨i12, h⟩ := gd_y h
      refine g_aldJJ X hG (nx_a (a := a) (k := 4) (n := 59) n_a (Nat.le_of_ble_eq_true rfl)) (kx_7_4 k_a) i12 dX7_rota_105 ?_
      refine lv_iload hx hb dX7_rota_106 (lv_at hl 4 rfl) ?_
      obtain ⟨i13, h⟩ := gd_y h
      refine g_lald X hG (nE n_a i12 (Nat.le_of_ble_eq_true rfl)) (ke_7_4 k_a i12) (by decide) i13 dX7_rota_108 ?_
      obtain ⟨r14, hcr14, h⟩ := bd_y h
      refine g_cVI (a := a) (ci := 7) (T := TX7) (N := 37) (av := [.int u1, .long (M.2 ((a + 4) + 1 + (u2 : Int32).toNatClampNeg) (w4 : Int32).toNatClampNeg)]) (rest := []) X hG hS (ct_X7_isSet l z k_a n_a hcr14) mt_X7_isSet ml_X7_237 rfl ⟨rfl, rfl, Nat.le_of_ble_eq_true rfl, Nat.le_of_ble_eq_true rfl⟩ ⟨Nat.le_refl 0, Nat.le_refl 0⟩ (nx_0 n_a) k_a (by decide) rfl hl.1 (Nat.le_of_ble_eq_true rfl) rfl dX7_rota_109 (fun H locs hG hS => ?_)
      refine lv_if_ne (tgt := 122) hx hb dX7_rota_112 (by decide) (fun q15 => ?_) (fun q15 => ?_)
      · have h := ite_n h q15
        refine lv_iinc (v := (w4 + 1)) (lv' := [(4, .int (w4 + 1)), (0, .ref (gad z a)), (1, .int u1), (2, .int u2), (3, .int u3)]) hx hb dX7_rota_122 hl (k := 4) rfl rfl (by decide) rfl (fun ls hl => ?_)
        refine lv_goto (tgt := 92) hx hb dX7_rota_125 (by decide) ?_
        exact ih (w4 + 1) _ _ _ h hG hS (lv_sub hl [1, 2, 3, 4, 0] rfl)
      · have h := ite_y h q15
        refine lv_aload_n hx hb dX7_rota_115 rfl (lv_at hl 0 rfl) ?_
        refine lv_bipush (v := (-2)) hx hb dX7_rota_116 (by decide) ?_
        obtain ⟨r16, hcr16, h⟩ := bd_y h
        refine g_cVI (a := a) (ci := 7) (T := TX7) (N := 37) (av := [.int (-2)]) (rest := []) X hG hS (ct_X7_refuse l z k_a n_a hcr16) mt_X7_refuse ml_X7_106 rfl ⟨rfl, rfl, Nat.le_of_ble_eq_true rfl, Nat.le_of_ble_eq_true rfl⟩ ⟨Nat.le_refl 0, Nat.le_refl 0⟩ (nx_0 n_a) k_a (by decide) rfl hl.1 (Nat.le_of_ble_eq_true rfl) rfl dX7_rota_118 (fun H locs hG hS => ?_)
        obtain rfl := Option.some.inj h
        exact g_iret X hr hlk hG hS dX7_rota_121
set_option maxRecDepth 100000 in
set_option maxHeartbeats 4000000 in
theorem ct_X7_rota (l : Launch) (z : gZ) {N : Nat} {M : Mem} {a : Nat} {v1 : Int32} {v2 : Int32} {v3 : Int32} {o : Int32 × Mem} (k_a : kd a = 7) (n_a : a + 59 ≤ gn z) (h : fX7_rota N M a v1 v2 v3 = some o) : CtI l z yX7_rota cX7_rota 8 (some .int) { frames := 3, cells := 0, slots := 0, locals := 69 } [.ref (gad z a), .int v1, .int v2, .int v3] M o.1 o.2 := by
  refine Ct_of rfl (Nat.le_of_ble_eq_true rfl) ?_
  intro p e s m below meth c ls X hr hlk hG hS hl
  have X : gX p m c _ _ s _ RX7 z := X
  have hl : lv_has ls 8 [(0, .ref (gad z a)), (1, .int v1), (2, .int v2), (3, .int v3)] := hl
  have hx := X.1
  have hb := X.2.1
  unfold fX7_rota at h
  refine lv_aload_n hx hb dX7_rota_0 rfl (lv_at hl 0 rfl) ?_
  refine lv_iload_n hx hb dX7_rota_1 rfl (lv_at hl 1 rfl) ?_
  obtain ⟨r1, hcr1, h⟩ := bd_y h
  refine g_cVI (a := a) (ci := 7) (T := TX7) (N := 37) (av := [.int v1]) (rest := []) X hG hS (ct_X7_isStreet l z k_a n_a hcr1) mt_X7_isStreet ml_X7_92 rfl ⟨rfl, rfl, Nat.le_of_ble_eq_true rfl, Nat.le_of_ble_eq_true rfl⟩ ⟨Nat.le_refl 0, Nat.le_refl 0⟩ (nx_0 n_a) k_a (by decide) rfl hl.1 (Nat.le_of_ble_eq_true rfl) rfl dX7_rota_2 (fun H locs hG hS => ?_)
  refine lv_if_eq (tgt := 32) hx hb dX7_rota_5 (by decide) (fun q2 => ?_) (fun q2 => ?_)
  · have h := ite_y h q2
    refine lv_aload_n hx hb dX7_rota_32 rfl (lv_at hl 0 rfl) ?_
    refine lv_bipush (v := (-2)) hx hb dX7_rota_33 (by decide) ?_
    obtain ⟨r3, hcr3, h⟩ := bd_y h
    refine g_cVI (a := a) (ci := 7) (T := TX7) (N := 37) (av := [.int (-2)]) (rest := []) X hG hS (ct_X7_refuse l z k_a n_a hcr3) mt_X7_refuse ml_X7_106 rfl ⟨rfl, rfl, Nat.le_of_ble_eq_true rfl, Nat.le_of_ble_eq_true rfl⟩ ⟨Nat.le_refl 0, Nat.le_refl 0⟩ (nx_0 n_a) k_a (by decide) rfl hl.1 (Nat.le_of_ble_eq_true rfl) rfl dX7_rota_35 (fun H locs hG hS => ?_)
    obtain rfl := Option.some.inj h
    exact g_iret X hr hlk hG hS dX7_rota_38
  · have h := ite_n h q2
    refine lv_iload_n hx hb dX7_rota_8 rfl (lv_at hl 2 rfl) ?_
    refine lv_i2l hx hb dX7_rota_9 rfl ?_
    refine lv_lconst (v := 0) hx hb dX7_rota_10 (by decide) ?_
    refine lv_ldc2 (v := 7) hx hb X.2.2.2.1 (X.2.2.2.2.1 _ cn_X7_100) dX7_rota_11 ?_
    obtain ⟨r4, hcr4, h⟩ := bd_y h
    refine g_cSI (av := [.long ((v2 : Int32).toInt64), .long 0, .long 7]) (rest := []) X hG hS (ct_X7_in l z  hcr4) mt_X7_in ml_X7_88 rfl ⟨rfl, rfl, Nat.le_of_ble_eq_true rfl, Nat.le_of_ble_eq_true rfl⟩ ⟨Nat.le_refl 0, Nat.le_refl 0⟩ hl.1 (Nat.le_of_ble_eq_true rfl) rfl dX7_rota_14 (fun H locs hG hS => ?_)
    refine lv_if_eq (tgt := 32) hx hb dX7_rota_17 (by decide) (fun q5 => ?_) (fun q5 => ?_)
    · have h := ite_y h q5
      refine lv_aload_n hx hb dX7_rota_32 rfl (lv_at hl 0 rfl) ?_
      refine lv_bipush (v := (-2)) hx hb dX7_rota_33 (by decide) ?_
      obtain ⟨r6, hcr6, h⟩ := bd_y h
      refine g_cVI (a := a) (ci := 7) (T := TX7) (N := 37) (av := [.int (-2)]) (rest := []) X hG hS (ct_X7_refuse l z k_a n_a hcr6) mt_X7_refuse ml_X7_106 rfl ⟨rfl, rfl, Nat.le_of_ble_eq_true rfl, Nat.le_of_ble_eq_true rfl⟩ ⟨Nat.le_refl 0, Nat.le_refl 0⟩ (nx_0 n_a) k_a (by decide) rfl hl.1 (Nat.le_of_ble_eq_true rfl) rfl dX7_rota_35 (fun H locs hG hS => ?_)
      obtain rfl := Option.some.inj h
      exact g_iret X hr hlk hG hS dX7_rota_38
    · have h := ite_n h q5
      refine lv_iload_n hx hb dX7_rota_20 rfl (lv_at hl 3 rfl) ?_
      refine lv_i2l hx hb dX7_rota_21 rfl ?_
      refine lv_lconst (v := 1) hx hb dX7_rota_22 (by decide) ?_
      refine lv_ldc2 (v := 40) hx hb X.2.2.2.1 (X.2.2.2.2.1 _ cn_X7_104) dX7_rota_23 ?_
      obtain ⟨r7, hcr7, h⟩ := bd_y h
      refine g_cSI (av := [.long ((v3 : Int32).toInt64), .long 1, .long 40]) (rest := []) X hG hS (ct_X7_in l z  hcr7) mt_X7_in ml_X7_88 rfl ⟨rfl, rfl, Nat.le_of_ble_eq_true rfl, Nat.le_of_ble_eq_true rfl⟩ ⟨Nat.le_refl 0, Nat.le_refl 0⟩ hl.1 (Nat.le_of_ble_eq_true rfl) rfl dX7_rota_26 (fun H locs hG hS => ?_)
      refine lv_if_ne (tgt := 39) hx hb dX7_rota_29 (by decide) (fun q8 => ?_) (fun q8 => ?_)
      · have h := ite_n h q8
        refine lv_aload_n hx hb dX7_rota_39 rfl (lv_at hl 0 rfl) ?_
        refine gf_X7_0 X hG (nx_0 n_a) k_a fl_X7_7 dX7_rota_40 ?_
        refine lv_iload_n hx hb dX7_rota_43 rfl (lv_at hl 2 rfl) ?_
        obtain ⟨i9, h⟩ := gd_y h
        refine g_iald X hG (nx_a (a := a) (k := 1) (n := 59) n_a (Nat.le_of_ble_eq_true rfl)) (kx_7_1 k_a) (by decide) i9 dX7_rota_44 ?_
        refine lv_iconst (v := 2) hx hb dX7_rota_45 (by decide) ?_
        refine lv_icmp_ne (tgt := 56) hx hb dX7_rota_46 (by decide) (fun q10 => ?_) (fun q10 => ?_)
        · have h := ite_n h q10
          refine lv_aload_n hx hb dX7_rota_56 rfl (lv_at hl 0 rfl) ?_
          refine gf_X7_0 X hG (nx_0 n_a) k_a fl_X7_7 dX7_rota_57 ?_
          refine lv_iload_n hx hb dX7_rota_60 rfl (lv_at hl 2 rfl) ?_
          refine g_iald X hG (nx_a (a := a) (k := 1) (n := 59) n_a (Nat.le_of_ble_eq_true rfl)) (kx_7_1 k_a) (by decide) i9 dX7_rota_61 ?_
          refine lv_if_ne (tgt := 72) hx hb dX7_rota_62 (by decide) (fun q11 => ?_) (fun q11 => ?_)
          · have h := ite_n h q11
            refine lv_aload_n hx hb dX7_rota_72 rfl (lv_at hl 0 rfl) ?_
            refine gf_X7_2 X hG (nx_0 n_a) k_a fl_X7_16 dX7_rota_73 ?_
            refine lv_iload_n hx hb dX7_rota_76 rfl (lv_at hl 2 rfl) ?_
            refine g_iald X hG (nx_a (a := a) (k := 3) (n := 59) n_a (Nat.le_of_ble_eq_true rfl)) (kx_7_3 k_a) (by decide) i9 dX7_rota_77 ?_
            refine lv_iload_n hx hb dX7_rota_78 rfl (lv_at hl 3 rfl) ?_
            refine lv_icmp_ge (tgt := 89) hx hb dX7_rota_79 (by decide) (fun q12 => ?_) (fun q12 => ?_)
            · have h := ite_y h q12
              refine lv_iconst (v := 0) hx hb dX7_rota_89 (by decide) ?_
              refine lv_istore (lv' := [(4, .int 0), (0, .ref (gad z a)), (1, .int v1), (2, .int v2), (3, .int v3)]) hx hb dX7_rota_90 hl (by decide) rfl (fun ls hl => ?_)
              refine wX7_rota_92 X hr hlk k_a n_a _ _ _ _ _ h hG hS (lv_sub hl [1, 2, 3, 4, 0] rfl)
            · have h := ite_n h q12
              refine lv_aload_n hx hb dX7_rota_82 rfl (lv_at hl 0 rfl) ?_
              refine lv_bipush (v := (-2)) hx hb dX7_rota_83 (by decide) ?_
              obtain ⟨r17, hcr17, h⟩ := bd_y h
              refine g_cVI (a := a) (ci := 7) (T := TX7) (N := 37) (av := [.int (-2)]) (rest := []) X hG hS (ct_X7_refuse l z k_a n_a hcr17) mt_X7_refuse ml_X7_106 rfl ⟨rfl, rfl, Nat.le_of_ble_eq_true rfl, Nat.le_of_ble_eq_true rfl⟩ ⟨Nat.le_refl 0, Nat.le_refl 0⟩ (nx_0 n_a) k_a (by decide) rfl hl.1 (Nat.le_of_ble_eq_true rfl) rfl dX7_rota_85 (fun H locs hG hS => ?_)
              obtain rfl := Option.some.inj h
              exact g_iret X hr hlk hG hS dX7_rota_88
          · have h := ite_y h q11
            refine lv_aload_n hx hb dX7_rota_65 rfl (lv_at hl 0 rfl) ?_
            refine lv_bipush (v := (-4)) hx hb dX7_rota_66 (by decide) ?_
            obtain ⟨r18, hcr18, h⟩ := bd_y h
            refine g_cVI (a := a) (ci := 7) (T := TX7) (N := 37) (av := [.int (-4)]) (rest := []) X hG hS (ct_X7_refuse l z k_a n_a hcr18) mt_X7_refuse ml_X7_106 rfl ⟨rfl, rfl, Nat.le_of_ble_eq_true rfl, Nat.le_of_ble_eq_true rfl⟩ ⟨Nat.le_refl 0, Nat.le_refl 0⟩ (nx_0 n_a) k_a (by decide) rfl hl.1 (Nat.le_of_ble_eq_true rfl) rfl dX7_rota_68 (fun H locs hG hS => ?_)
            obtain rfl := Option.some.inj h
            exact g_iret X hr hlk hG hS dX7_rota_71
        · have h := ite_y h q10
          refine lv_aload_n hx hb dX7_rota_49 rfl (lv_at hl 0 rfl) ?_
          refine lv_bipush (v := (-3)) hx hb dX7_rota_50 (by decide) ?_
          obtain ⟨r19, hcr19, h⟩ := bd_y h
          refine g_cVI (a := a) (ci := 7) (T := TX7) (N := 37) (av := [.int (-3)]) (rest := []) X hG hS (ct_X7_refuse l z k_a n_a hcr19) mt_X7_refuse ml_X7_106 rfl ⟨rfl, rfl, Nat.le_of_ble_eq_true rfl, Nat.le_of_ble_eq_true rfl⟩ ⟨Nat.le_refl 0, Nat.le_refl 0⟩ (nx_0 n_a) k_a (by decide) rfl hl.1 (Nat.le_of_ble_eq_true rfl) rfl dX7_rota_52 (fun H locs hG hS => ?_)
          obtain rfl := Option.some.inj h
          exact g_iret X hr hlk hG hS dX7_rota_55
      · have h := ite_y h q8
        refine lv_aload_n hx hb dX7_rota_32 rfl (lv_at hl 0 rfl) ?_
        refine lv_bipush (v := (-2)) hx hb dX7_rota_33 (by decide) ?_
        obtain ⟨r20, hcr20, h⟩ := bd_y h
        refine g_cVI (a := a) (ci := 7) (T := TX7) (N := 37) (av := [.int (-2)]) (rest := []) X hG hS (ct_X7_refuse l z k_a n_a hcr20) mt_X7_refuse ml_X7_106 rfl ⟨rfl, rfl, Nat.le_of_ble_eq_true rfl, Nat.le_of_ble_eq_true rfl⟩ ⟨Nat.le_refl 0, Nat.le_refl 0⟩ (nx_0 n_a) k_a (by decide) rfl hl.1 (Nat.le_of_ble_eq_true rfl) rfl dX7_rota_35 (fun H locs hG hS => ?_)
        obtain rfl := Option.some.inj h
        exact g_iret X hr hlk hG hS dX7_rota_38
set_option maxRecDepth 100000 in
set_option maxHeartbeats 4000000 in
theorem ct_X7_seed (l : Launch) (z : gZ) {N : Nat} {M : Mem} {a : Nat} {v1 : Int32} {o : Int32 × Mem} (k_a : kd a = 7) (n_a : a + 59 ≤ gn z) (h : fX7_seed N M a v1 = some o) : CtI l z yX7_seed cX7_seed 3 (some .int) { frames := 0, cells := 0, slots := 0, locals := 0 } [.ref (gad z a), .int v1] M o.1 o.2 := by
  refine Ct_of rfl (Nat.le_of_ble_eq_true rfl) ?_
  intro p e s m below meth c ls X hr hlk hG hS hl
  have X : gX p m c _ _ s _ RX7 z := X
  have hl : lv_has ls 3 [(0, .ref (gad z a)), (1, .int v1)] := hl
  have hx := X.1
  have hb := X.2.1
  unfold fX7_seed at h
  refine lv_aload_n hx hb dX7_seed_0 rfl (lv_at hl 0 rfl) ?_
  refine gf_X7_21 X hG (nx_0 n_a) k_a fl_X7_72 dX7_seed_1 ?_
  refine lv_topi (fun x1 ex1 => ?_)
  have h := nm_y h x1 ex1
  refine lv_istore_n (lv' := [(2, .int x1), (0, .ref (gad z a)), (1, .int v1)]) hx hb dX7_seed_4 rfl hl (by decide) rfl (fun ls hl => ?_)
  refine lv_aload_n hx hb dX7_seed_5 rfl (lv_at hl 1 rfl) ?_
  refine lv_iload_n hx hb dX7_seed_6 rfl (lv_at hl 2 rfl) ?_
  refine pf_X7_21 X hG hS (nx_0 n_a) k_a fl_X7_72 dX7_seed_7 (fun H locs hG hS => ?_)
  obtain ⟨M2, eM2⟩ : ∃ y, y = sI M a 21 v1 := ⟨_, rfl⟩
  rw [← eM2] at hG
  have h := nm_y h M2 eM2
  refine lv_iload_n hx hb dX7_seed_10 rfl (lv_at hl 0 rfl) ?_
  obtain rfl := Option.some.inj h
  exact g_iret X hr hlk hG hS dX7_seed_11
set_option maxRecDepth 100000 in
set_option maxHeartbeats 4000000 in
theorem ct_X7_draw (l : Launch) (z : gZ) {N : Nat} {M : Mem} {a : Nat} {v1 : Int32} {o : Int32 × Mem} (k_a : kd a = 7) (n_a : a + 59 ≤ gn z) (h : fX7_draw N M a v1 = some o) : CtI l z yX7_draw cX7_draw 2 (some .int) { frames := 0, cells := 0, slots := 0, locals := 0 } [.ref (gad z a), .int v1] M o.1 o.2 := by
  refine Ct_of rfl (Nat.le_of_ble_eq_true rfl) ?_
  intro p e s m below meth c ls X hr hlk hG hS hl
  have X : gX p m c _ _ s _ RX7 z := X
  have hl : lv_has ls 2 [(0, .ref (gad z a)), (1, .int v1)] := hl
  have hx := X.1
  have hb := X.2.1
  unfold fX7_draw at h
  refine lv_aload_n hx hb dX7_draw_0 rfl (lv_at hl 0 rfl) ?_
  refine lv_aload_n hx hb dX7_draw_1 rfl (lv_at hl 0 rfl) ?_
  refine gf_X7_21 X hG (nx_0 n_a) k_a fl_X7_72 dX7_draw_2 ?_
  refine lv_ldcw (v := 1103515245) hx hb X.2.2.2.1 (X.2.2.2.2.1 _ cn_X7_310) dX7_draw_5 ?_
  refine lv_imul hx hb dX7_draw_8 ?_
  refine lv_sipush (v := 12345) hx hb dX7_draw_9 (by decide) ?_
  refine lv_iadd hx hb dX7_draw_12 ?_
  refine pf_X7_21 X hG hS (nx_0 n_a) k_a fl_X7_72 dX7_draw_13 (fun H locs hG hS => ?_)
  obtain ⟨M1, eM1⟩ : ∃ y, y = sI M a 21 (((M.1 a 21) * 1103515245) + 12345) := ⟨_, rfl⟩
  rw [← eM1] at hG
  have h := nm_y h M1 eM1
  refine lv_aload_n hx hb dX7_draw_16 rfl (lv_at hl 0 rfl) ?_
  refine gf_X7_21 X hG (nx_0 n_a) k_a fl_X7_72 dX7_draw_17 ?_
  refine lv_bipush (v := 16) hx hb dX7_draw_20 (by decide) ?_
  refine lv_iushr hx hb dX7_draw_22 rfl ?_
  refine lv_iload_n hx hb dX7_draw_23 rfl (lv_at hl 1 rfl) ?_
  obtain ⟨q2, h⟩ := gc_y h
  refine lv_irem hx hb dX7_draw_24 q2 ?_
  obtain rfl := Option.some.inj h
  exact g_iret X hr hlk hG hS dX7_draw_25
set_option maxRecDepth 100000 in
set_option maxHeartbeats 4000000 in
theorem ct_X7_thousandths (l : Launch) (z : gZ) {N : Nat} {M : Mem} {a : Nat} {v1 : Int32} {v2 : Int32} {v3 : Int32} {o : Int32} (k_a : kd a = 7) (n_a : a + 59 ≤ gn z) (h : fX7_thousandths N M a v1 v2 v3 = some o) : CtI l z yX7_thousandths cX7_thousandths 7 (some .int) { frames := 2, cells := 0, slots := 0, locals := 49 } [.ref (gad z a), .int v1, .int v2, .int v3] M o M := by
  refine Ct_of rfl (Nat.le_of_ble_eq_true rfl) ?_
  intro p e s m below meth c ls X hr hlk hG hS hl
  have X : gX p m c _ _ s _ RX7 z := X
  have hl : lv_has ls 7 [(0, .ref (gad z a)), (1, .int v1), (2, .int v2), (3, .int v3)] := hl
  have hx := X.1
  have hb := X.2.1
  unfold fX7_thousandths at h
  refine lv_aload_n hx hb dX7_thousandths_0 rfl (lv_at hl 0 rfl) ?_
  refine gf_X7_13 X hG (nx_0 n_a) k_a fl_X7_46 dX7_thousandths_1 ?_
  refine lv_iload_n hx hb dX7_thousandths_4 rfl (lv_at hl 1 rfl) ?_
  obtain ⟨i1, h⟩ := gd_y h
  refine g_iald X hG (nx_a (a := a) (k := 20) (n := 59) n_a (Nat.le_of_ble_eq_true rfl)) (kx_7_20 k_a) (by decide) i1 dX7_thousandths_5 ?_
  refine lv_iload_n hx hb dX7_thousandths_6 rfl (lv_at hl 2 rfl) ?_
  refine lv_ishr hx hb dX7_thousandths_7 ?_
  refine lv_iconst (v := 1) hx hb dX7_thousandths_8 (by decide) ?_
  refine lv_iand hx hb dX7_thousandths_9 ?_
  refine lv_if_eq (tgt := 17) hx hb dX7_thousandths_10 (by decide) (fun q2 => ?_) (fun q2 => ?_)
  · have h := ite_y h q2
    refine lv_aload_n hx hb dX7_thousandths_17 rfl (lv_at hl 0 rfl) ?_
    refine gf_X7_19 X hG (nx_0 n_a) k_a fl_X7_66 dX7_thousandths_18 ?_
    refine lv_iload_n hx hb dX7_thousandths_21 rfl (lv_at hl 1 rfl) ?_
    refine g_aldII X hG (nx_a (a := a) (k := 51) (n := 59) n_a (Nat.le_of_ble_eq_true rfl)) (kx_7_51 k_a) (by decide) i1 dX7_thousandths_22 ?_
    refine lv_iload_n hx hb dX7_thousandths_23 rfl (lv_at hl 2 rfl) ?_
    obtain ⟨i3, h⟩ := gd_y h
    refine g_iald X hG (nE n_a i1 (Nat.le_of_ble_eq_true rfl)) (ke_7_51 k_a i1) (by decide) i3 dX7_thousandths_24 ?_
    refine lv_topi (fun x4 ex4 => ?_)
    have h := nm_y h x4 ex4
    refine lv_istore (lv' := [(4, .int x4), (0, .ref (gad z a)), (1, .int v1), (2, .int v2), (3, .int v3)]) hx hb dX7_thousandths_25 hl (by decide) rfl (fun ls hl => ?_)
    refine lv_aload_n hx hb dX7_thousandths_27 rfl (lv_at hl 1 rfl) ?_
    refine gf_X7_18 X hG (nx_0 n_a) k_a fl_X7_63 dX7_thousandths_28 ?_
    refine lv_iload_n hx hb dX7_thousandths_31 rfl (lv_at hl 2 rfl) ?_
    refine g_aldII X hG (nx_a (a := a) (k := 45) (n := 59) n_a (Nat.le_of_ble_eq_true rfl)) (kx_7_45 k_a) (by decide) i1 dX7_thousandths_32 ?_
    refine lv_iload_n hx hb dX7_thousandths_33 rfl (lv_at hl 3 rfl) ?_
    refine g_iald X hG (nE n_a i1 (Nat.le_of_ble_eq_true rfl)) (ke_7_45 k_a i1) (by decide) i3 dX7_thousandths_34 ?_
    by_cases q5 : (M.1 ((a + 45) + 1 + (v1 : Int32).toNatClampNeg) (v2 : Int32).toNatClampNeg) = 1
    · have h := ite_y h q5
      refine lv_tableIn (tgt := 68) hx hb dX7_thousandths_35 (by rw [q5]; decide) (by rw [q5]; decide) (by rw [q5]; rfl) (by decide) ?_
      refine lv_iload hx hb dX7_thousandths_68 (lv_at hl 0 rfl) ?_
      refine lv_iconst (v := 1) hx hb dX7_thousandths_70 (by decide) ?_
      refine lv_icmp_ne (tgt := 78) hx hb dX7_thousandths_71 (by decide) (fun q6 => ?_) (fun q6 => ?_)
      · have h := ite_n h q6
        refine lv_iconst (v := 0) hx hb dX7_thousandths_78 (by decide) ?_
        refine lv_istore (lv' := [(5, .int 0), (4, .int x4), (0, .ref (gad z a)), (1, .int v1), (2, .int v2), (3, .int v3)]) hx hb dX7_thousandths_79 hl (by decide) rfl (fun ls hl => ?_)
        refine lv_goto (tgt := 190) hx hb dX7_thousandths_81 (by decide) ?_
        refine lv_iload hx hb dX7_thousandths_190 (lv_at hl 0 rfl) ?_
        refine lv_if_eq (tgt := 201) hx hb dX7_thousandths_192 (by decide) (fun q7 => ?_) (fun q7 => ?_)
        · have h := ite_y h q7
          refine lv_iconst (v := 0) hx hb dX7_thousandths_201 (by decide) ?_
          obtain rfl := Option.some.inj h
          exact g_iret X hr hlk hG hS dX7_thousandths_202
        · have h := ite_n h q7
          refine lv_sipush (v := 1000) hx hb dX7_thousandths_195 (by decide) ?_
          refine lv_goto (tgt := 202) hx hb dX7_thousandths_198 (by decide) ?_
          obtain rfl := Option.some.inj h
          exact g_iret X hr hlk hG hS dX7_thousandths_202
      · have h := ite_y h q6
        refine lv_iconst (v := 1) hx hb dX7_thousandths_74 (by decide) ?_
        refine lv_goto (tgt := 79) hx hb dX7_thousandths_75 (by decide) ?_
        refine lv_istore (lv' := [(5, .int 1), (4, .int x4), (0, .ref (gad z a)), (1, .int v1), (2, .int v2), (3, .int v3)]) hx hb dX7_thousandths_79 hl (by decide) rfl (fun ls hl => ?_)
        refine lv_goto (tgt := 190) hx hb dX7_thousandths_81 (by decide) ?_
        refine lv_iload hx hb dX7_thousandths_190 (lv_at hl 0 rfl) ?_
        refine lv_if_eq (tgt := 201) hx hb dX7_thousandths_192 (by decide) (fun q8 => ?_) (fun q8 => ?_)
        · have h := ite_y h q8
          refine lv_iconst (v := 0) hx hb dX7_thousandths_201 (by decide) ?_
          obtain rfl := Option.some.inj h
          exact g_iret X hr hlk hG hS dX7_thousandths_202
        · have h := ite_n h q8
          refine lv_sipush (v := 1000) hx hb dX7_thousandths_195 (by decide) ?_
          refine lv_goto (tgt := 202) hx hb dX7_thousandths_198 (by decide) ?_
          obtain rfl := Option.some.inj h
          exact g_iret X hr hlk hG hS dX7_thousandths_202
    · have h := ite_n h q5
      by_cases q9 : (M.1 ((a + 45) + 1 + (v1 : Int32).toNatClampNeg) (v2 : Int32).toNatClampNeg) = 2
      · have h := ite_y h q9
        refine lv_tableIn (tgt := 84) hx hb dX7_thousandths_35 (by rw [q9]; decide) (by rw [q9]; decide) (by rw [q9]; rfl) (by decide) ?_
        refine lv_iload hx hb dX7_thousandths_84 (lv_at hl 0 rfl) ?_
        obtain rfl := Option.some.inj h
        exact g_iret X hr hlk hG hS dX7_thousandths_86
      · have h := ite_n h q9
        by_cases q10 : (M.1 ((a + 45) + 1 + (v1 : Int32).toNatClampNeg) (v2 : Int32).toNatClampNeg) = 3
        · have h := ite_y h q10
          refine lv_tableIn (tgt := 87) hx hb dX7_thousandths_35 (by rw [q10]; decide) (by rw [q10]; decide) (by rw [q10]; rfl) (by decide) ?_
          refine lv_aload_n hx hb dX7_thousandths_87 rfl (lv_at hl 1 rfl) ?_
          refine gf_X7_16 X hG (nx_0 n_a) k_a fl_X7_57 dX7_thousandths_88 ?_
          refine lv_iload_n hx hb dX7_thousandths_91 rfl (lv_at hl 2 rfl) ?_
          refine g_aldII X hG (nx_a (a := a) (k := 33) (n := 59) n_a (Nat.le_of_ble_eq_true rfl)) (kx_7_33 k_a) (by decide) i1 dX7_thousandths_92 ?_
          refine lv_iload_n hx hb dX7_thousandths_93 rfl (lv_at hl 3 rfl) ?_
          refine g_iald X hG (nE n_a i1 (Nat.le_of_ble_eq_true rfl)) (ke_7_33 k_a i1) (by decide) i3 dX7_thousandths_94 ?_
          obtain ⟨r11, hcr11, h⟩ := bd_y h
          refine g_cSI (av := [.int (M.1 ((a + 33) + 1 + (v1 : Int32).toNatClampNeg) (v2 : Int32).toNatClampNeg)]) (rest := []) X hG hS (ct_X7_bits l z  hcr11) mt_X7_bits ml_X7_223 rfl ⟨rfl, rfl, Nat.le_of_ble_eq_true rfl, Nat.le_of_ble_eq_true rfl⟩ ⟨Nat.le_refl 0, Nat.le_refl 0⟩ hl.1 (Nat.le_of_ble_eq_true rfl) rfl dX7_thousandths_95 (fun H locs hG hS => ?_)
          refine lv_iload hx hb dX7_thousandths_98 (lv_at hl 0 rfl) ?_
          refine lv_icmp_gt (tgt := 107) hx hb dX7_thousandths_100 (by decide) (fun q12 => ?_) (fun q12 => ?_)
          · have h := ite_y h q12
            refine lv_iconst (v := 0) hx hb dX7_thousandths_107 (by decide) ?_
            refine lv_istore (lv' := [(5, .int 0), (4, .int x4), (0, .ref (gad z a)), (1, .int v1), (2, .int v2), (3, .int v3)]) hx hb dX7_thousandths_108 hl (by decide) rfl (fun ls hl => ?_)
            refine lv_goto (tgt := 190) hx hb dX7_thousandths_110 (by decide) ?_
            refine lv_iload hx hb dX7_thousandths_190 (lv_at hl 0 rfl) ?_
            refine lv_if_eq (tgt := 201) hx hb dX7_thousandths_192 (by decide) (fun q13 => ?_) (fun q13 => ?_)
            · have h := ite_y h q13
              refine lv_iconst (v := 0) hx hb dX7_thousandths_201 (by decide) ?_
              obtain rfl := Option.some.inj h
              exact g_iret X hr hlk hG hS dX7_thousandths_202
            · have h := ite_n h q13
              refine lv_sipush (v := 1000) hx hb dX7_thousandths_195 (by decide) ?_
              refine lv_goto (tgt := 202) hx hb dX7_thousandths_198 (by decide) ?_
              obtain rfl := Option.some.inj h
              exact g_iret X hr hlk hG hS dX7_thousandths_202
          · have h := ite_n h q12
            refine lv_iconst (v := 1) hx hb dX7_thousandths_103 (by decide) ?_
            refine lv_goto (tgt := 108) hx hb dX7_thousandths_104 (by decide) ?_
            refine lv_istore (lv' := [(5, .int 1), (4, .int x4), (0, .ref (gad z a)), (1, .int v1), (2, .int v2), (3, .int v3)]) hx hb dX7_thousandths_108 hl (by decide) rfl (fun ls hl => ?_)
            refine lv_goto (tgt := 190) hx hb dX7_thousandths_110 (by decide) ?_
            refine lv_iload hx hb dX7_thousandths_190 (lv_at hl 0 rfl) ?_
            refine lv_if_eq (tgt := 201) hx hb dX7_thousandths_192 (by decide) (fun q14 => ?_) (fun q14 => ?_)
            · have h := ite_y h q14
              refine lv_iconst (v := 0) hx hb dX7_thousandths_201 (by decide) ?_
              obtain rfl := Option.some.inj h
              exact g_iret X hr hlk hG hS dX7_thousandths_202
            · have h := ite_n h q14
              refine lv_sipush (v := 1000) hx hb dX7_thousandths_195 (by decide) ?_
              refine lv_goto (tgt := 202) hx hb dX7_thousandths_198 (by decide) ?_
              obtain rfl := Option.some.inj h
              exact g_iret X hr hlk hG hS dX7_thousandths_202
        · have h := ite_n h q10
          by_cases q15 : (M.1 ((a + 45) + 1 + (v1 : Int32).toNatClampNeg) (v2 : Int32).toNatClampNeg) = 4
          · have h := ite_y h q15
            refine lv_tableIn (tgt := 113) hx hb dX7_thousandths_35 (by rw [q15]; decide) (by rw [q15]; decide) (by rw [q15]; rfl) (by decide) ?_
            refine lv_iload_n hx hb dX7_thousandths_113 rfl (lv_at hl 4 rfl) ?_
            refine lv_iload hx hb dX7_thousandths_114 (lv_at hl 0 rfl) ?_
            refine lv_bipush (v := 100) hx hb dX7_thousandths_116 (by decide) ?_
            refine lv_idiv hx hb dX7_thousandths_118 (by decide) ?_
            obtain ⟨q16, h⟩ := gc_y h
            refine lv_irem hx hb dX7_thousandths_119 q16 ?_
            refine lv_iload hx hb dX7_thousandths_120 (lv_at hl 0 rfl) ?_
            refine lv_bipush (v := 100) hx hb dX7_thousandths_122 (by decide) ?_
            refine lv_irem hx hb dX7_thousandths_124 (by decide) ?_
            refine lv_icmp_ne (tgt := 132) hx hb dX7_thousandths_125 (by decide) (fun q17 => ?_) (fun q17 => ?_)
            · have h := ite_n h q17
              refine lv_iconst (v := 0) hx hb dX7_thousandths_132 (by decide) ?_
              refine lv_istore (lv' := [(5, .int 0), (4, .int x4), (0, .ref (gad z a)), (1, .int v1), (2, .int v2), (3, .int v3)]) hx hb dX7_thousandths_133 hl (by decide) rfl (fun ls hl => ?_)
              refine lv_goto (tgt := 190) hx hb dX7_thousandths_135 (by decide) ?_
              refine lv_iload hx hb dX7_thousandths_190 (lv_at hl 0 rfl) ?_
              refine lv_if_eq (tgt := 201) hx hb dX7_thousandths_192 (by decide) (fun q18 => ?_) (fun q18 => ?_)
              · have h := ite_y h q18
                refine lv_iconst (v := 0) hx hb dX7_thousandths_201 (by decide) ?_
                obtain rfl := Option.some.inj h
                exact g_iret X hr hlk hG hS dX7_thousandths_202
              · have h := ite_n h q18
                refine lv_sipush (v := 1000) hx hb dX7_thousandths_195 (by decide) ?_
                refine lv_goto (tgt := 202) hx hb dX7_thousandths_198 (by decide) ?_
                obtain rfl := Option.some.inj h
                exact g_iret X hr hlk hG hS dX7_thousandths_202
            · have h := ite_y h q17
              refine lv_iconst (v := 1) hx hb dX7_thousandths_128 (by decide) ?_
              refine lv_goto (tgt := 133) hx hb dX7_thousandths_129 (by decide) ?_
              refine lv_istore (lv' := [(5, .int 1), (4, .int x4), (0, .ref (gad z a)), (1, .int v1), (2, .int v2), (3, .int v3)]) hx hb dX7_thousandths_133 hl (by decide) rfl (fun ls hl => ?_)
              refine lv_goto (tgt := 190) hx hb dX7_thousandths_135 (by decide) ?_
              refine lv_iload hx hb dX7_thousandths_190 (lv_at hl 0 rfl) ?_
              refine lv_if_eq (tgt := 201) hx hb dX7_thousandths_192 (by decide) (fun q19 => ?_) (fun q19 => ?_)
              · have h := ite_y h q19
                refine lv_iconst (v := 0) hx hb dX7_thousandths_201 (by decide) ?_
                obtain rfl := Option.some.inj h
                exact g_iret X hr hlk hG hS dX7_thousandths_202
              · have h := ite_n h q19
                refine lv_sipush (v := 1000) hx hb dX7_thousandths_195 (by decide) ?_
                refine lv_goto (tgt := 202) hx hb dX7_thousandths_198 (by decide) ?_
                obtain rfl := Option.some.inj h
                exact g_iret X hr hlk hG hS dX7_thousandths_202
          · have h := ite_n h q15
            by_cases q20 : (M.1 ((a + 45) + 1 + (v1 : Int32).toNatClampNeg) (v2 : Int32).toNatClampNeg) = 5
            · have h := ite_y h q20
              refine lv_tableIn (tgt := 138) hx hb dX7_thousandths_35 (by rw [q20]; decide) (by rw [q20]; decide) (by rw [q20]; rfl) (by decide) ?_
              refine lv_iload hx hb dX7_thousandths_138 (lv_at hl 0 rfl) ?_
              refine lv_aload_n hx hb dX7_thousandths_140 rfl (lv_at hl 1 rfl) ?_
              refine lv_iload_n hx hb dX7_thousandths_141 rfl (lv_at hl 2 rfl) ?_
              obtain ⟨r21, hcr21, h⟩ := bd_y h
              refine g_cVI (a := a) (ci := 7) (T := TX7) (N := 37) (av := [.int v1]) (rest := [.int x4]) X hG hS (ct_X7_all l z k_a n_a hcr21) mt_X7_all ml_X7_96 rfl ⟨rfl, rfl, Nat.le_of_ble_eq_true rfl, Nat.le_of_ble_eq_true rfl⟩ ⟨Nat.le_refl 0, Nat.le_refl 0⟩ (nx_0 n_a) k_a (by decide) rfl hl.1 (Nat.le_of_ble_eq_true rfl) rfl dX7_thousandths_142 (fun H locs hG hS => ?_)
              refine lv_iand hx hb dX7_thousandths_145 ?_
              refine lv_iconst (v := 1) hx hb dX7_thousandths_146 (by decide) ?_
              refine lv_iload_n hx hb dX7_thousandths_147 rfl (lv_at hl 3 rfl) ?_
              refine lv_ishl hx hb dX7_thousandths_148 ?_
              refine lv_iconst (v := (-1)) hx hb dX7_thousandths_149 (by decide) ?_
              refine lv_ixor hx hb dX7_thousandths_150 ?_
              refine lv_iand hx hb dX7_thousandths_151 ?_
              refine lv_topi (fun x22 ex22 => ?_)
              have h := nm_y h x22 ex22
              refine lv_istore (lv' := [(6, .int x22), (4, .int x4), (0, .ref (gad z a)), (1, .int v1), (2, .int v2), (3, .int v3)]) hx hb dX7_thousandths_152 hl (by decide) rfl (fun ls hl => ?_)
              refine lv_aload_n hx hb dX7_thousandths_154 rfl (lv_at hl 2 rfl) ?_
              refine lv_iload_n hx hb dX7_thousandths_155 rfl (lv_at hl 3 rfl) ?_
              refine lv_iload_n hx hb dX7_thousandths_156 rfl (lv_at hl 4 rfl) ?_
              refine lv_iload hx hb dX7_thousandths_157 (lv_at hl 0 rfl) ?_
              refine lv_iconst (v := 1) hx hb dX7_thousandths_159 (by decide) ?_
              refine lv_iload_n hx hb dX7_thousandths_160 rfl (lv_at hl 4 rfl) ?_
              refine lv_ishl hx hb dX7_thousandths_161 ?_
              refine lv_ior hx hb dX7_thousandths_162 ?_
              obtain ⟨r23, hcr23, h⟩ := bd_y h
              refine g_cVI (a := a) (ci := 7) (T := TX7) (N := 37) (av := [.int v1, .int v2, .int (x22 ||| (1 <<< (v2 &&& 31)))]) (rest := []) X hG hS (ct_X7_gainOf l z k_a n_a hcr23) mt_X7_gainOf ml_X7_241 rfl ⟨rfl, rfl, Nat.le_of_ble_eq_true rfl, Nat.le_of_ble_eq_true rfl⟩ ⟨Nat.le_refl 0, Nat.le_refl 0⟩ (nx_0 n_a) k_a (by decide) rfl hl.1 (Nat.le_of_ble_eq_true rfl) rfl dX7_thousandths_163 (fun H locs hG hS => ?_)
              refine lv_aload_n hx hb dX7_thousandths_166 rfl (lv_at hl 2 rfl) ?_
              refine lv_iload_n hx hb dX7_thousandths_167 rfl (lv_at hl 3 rfl) ?_
              refine lv_iload_n hx hb dX7_thousandths_168 rfl (lv_at hl 4 rfl) ?_
              refine lv_iload hx hb dX7_thousandths_169 (lv_at hl 0 rfl) ?_
              obtain ⟨r24, hcr24, h⟩ := bd_y h
              refine g_cVI (a := a) (ci := 7) (T := TX7) (N := 37) (av := [.int v1, .int v2, .int x22]) (rest := [.int r23]) X hG hS (ct_X7_gainOf l z k_a n_a hcr24) mt_X7_gainOf ml_X7_241 rfl ⟨rfl, rfl, Nat.le_of_ble_eq_true rfl, Nat.le_of_ble_eq_true rfl⟩ ⟨Nat.le_refl 0, Nat.le_refl 0⟩ (nx_0 n_a) k_a (by decide) rfl hl.1 (Nat.le_of_ble_eq_true rfl) rfl dX7_thousandths_171 (fun H locs hG hS => ?_)
              refine lv_icmp_le (tgt := 181) hx hb dX7_thousandths_174 (by decide) (fun q25 => ?_) (fun q25 => ?_)
              · have h := ite_y h q25
                refine lv_iconst (v := 0) hx hb dX7_thousandths_181 (by decide) ?_
                refine lv_istore (lv' := [(5, .int 0), (6, .int x22), (4, .int x4), (0, .ref (gad z a)), (1, .int v1), (2, .int v2), (3, .int v3)]) hx hb dX7_thousandths_182 hl (by decide) rfl (fun ls hl => ?_)
                refine lv_goto (tgt := 190) hx hb dX7_thousandths_184 (by decide) ?_
                refine lv_iload hx hb dX7_thousandths_190 (lv_at hl 0 rfl) ?_
                refine lv_if_eq (tgt := 201) hx hb dX7_thousandths_192 (by decide) (fun q26 => ?_) (fun q26 => ?_)
                · have h := ite_y h q26
                  refine lv_iconst (v := 0) hx hb dX7_thousandths_201 (by decide) ?_
                  obtain rfl := Option.some.inj h
                  exact g_iret X hr hlk hG hS dX7_thousandths_202
                · have h := ite_n h q26
                  refine lv_sipush (v := 1000) hx hb dX7_thousandths_195 (by decide) ?_
                  refine lv_goto (tgt := 202) hx hb dX7_thousandths_198 (by decide) ?_
                  obtain rfl := Option.some.inj h
                  exact g_iret X hr hlk hG hS dX7_thousandths_202
              · have h := ite_n h q25
                refine lv_iconst (v := 1) hx hb dX7_thousandths_177 (by decide) ?_
                refine lv_goto (tgt := 182) hx hb dX7_thousandths_178 (by decide) ?_
                refine lv_istore (lv' := [(5, .int 1), (6, .int x22), (4, .int x4), (0, .ref (gad z a)), (1, .int v1), (2, .int v2), (3, .int v3)]) hx hb dX7_thousandths_182 hl (by decide) rfl (fun ls hl => ?_)
                refine lv_goto (tgt := 190) hx hb dX7_thousandths_184 (by decide) ?_
                refine lv_iload hx hb dX7_thousandths_190 (lv_at hl 0 rfl) ?_
                refine lv_if_eq (tgt := 201) hx hb dX7_thousandths_192 (by decide) (fun q27 => ?_) (fun q27 => ?_)
                · have h := ite_y h q27
                  refine lv_iconst (v := 0) hx hb dX7_thousandths_201 (by decide) ?_
                  obtain rfl := Option.some.inj h
                  exact g_iret X hr hlk hG hS dX7_thousandths_202
                · have h := ite_n h q27
                  refine lv_sipush (v := 1000) hx hb dX7_thousandths_195 (by decide) ?_
                  refine lv_goto (tgt := 202) hx hb dX7_thousandths_198 (by decide) ?_
                  obtain rfl := Option.some.inj h
                  exact g_iret X hr hlk hG hS dX7_thousandths_202
            · have h := ite_n h q20
              refine lv_tableOut (tgt := 187) hx hb dX7_thousandths_35 (by have eq5 := lv_neT (a := 1) q5 (by decide); have eq9 := lv_neT (a := 2) q9 (by decide); have eq10 := lv_neT (a := 3) q10 (by decide); have eq15 := lv_neT (a := 4) q15 (by decide); have eq20 := lv_neT (a := 5) q20 (by decide); omega) (by decide) ?_
              refine lv_iconst (v := 0) hx hb dX7_thousandths_187 (by decide) ?_
              refine lv_istore (lv' := [(5, .int 0), (4, .int x4), (0, .ref (gad z a)), (1, .int v1), (2, .int v2), (3, .int v3)]) hx hb dX7_thousandths_188 hl (by decide) rfl (fun ls hl => ?_)
              refine lv_iload hx hb dX7_thousandths_190 (lv_at hl 0 rfl) ?_
              refine lv_if_eq (tgt := 201) hx hb dX7_thousandths_192 (by decide) (fun q28 => ?_) (fun q28 => ?_)
              · have h := ite_y h q28
                refine lv_iconst (v := 0) hx hb dX7_thousandths_201 (by decide) ?_
                obtain rfl := Option.some.inj h
                exact g_iret X hr hlk hG hS dX7_thousandths_202
              · have h := ite_n h q28
                refine lv_sipush (v := 1000) hx hb dX7_thousandths_195 (by decide) ?_
                refine lv_goto (tgt := 202) hx hb dX7_thousandths_198 (by decide) ?_
                obtain rfl := Option.some.inj h
                exact g_iret X hr hlk hG hS dX7_thousandths_202
  · have h := ite_n h q2
    refine lv_sipush (v := 1000) hx hb dX7_thousandths_13 (by decide) ?_
    obtain rfl := Option.some.inj h
    exact g_iret X hr hlk hG hS dX7_thousandths_16
set_option maxRecDepth 100000 in
set_option maxHeartbeats 4000000 in
theorem wX7_doers_32 {N : Nat} {p : Program} {l : Launch} {e : Env} {s : State} {m : MethodId} {args : Array Value} {below : List Frame} {meth : Method} {c : Code} {z : gZ} {a : Nat} {u1 : Int32} {u2 : Int32} {o : Int32 × Mem} (X : gX p m c cX7_doers 8 s args RX7 z) (hr : meth.sig.returnType = (some .int)) (hlk : meth.locks = false) (k_a : kd a = 7) (n_a : a + 59 ≤ gn z)  : ∀ (n : Nat) (Mw : Mem) (w3 : Int32) (w4 : Int32) (H : Heap) (locs : List Loc) (ls : Array Slot), fX7_doers_32 N a u1 u2  n Mw w3 w4 = some o → gW z Mw H → va_S (gA z) s.heap H locs → lv_has ls 8 [(0, .ref (gad z a)), (1, .int u1), (2, .int u2), (3, .int w3), (4, .int w4)] → W p l e { frames := 3, cells := 0, slots := 0, locals := 75 } s m args below meth c H locs 0 0 (MQ below (va_Qi (fun r' (_ : Unit) => r' = o.1) (fun _ t => gW z o.2 t.heap) (gA z)) args s 0 0 (gA z)) (F0 m 32 ls []) := by
  have hx := X.1
  have hb := X.2.1
  intro n
  induction n with
  | zero => intro Mw w3 w4 H locs ls h; cases h
  | succ n ih =>
    intro Mw w3 w4 H locs ls h hG hS hl
    rw [fX7_doers_32] at h
    refine lv_iload hx hb dX7_doers_32 (lv_at hl 4 rfl) ?_
    refine lv_aload_n hx hb dX7_doers_34 rfl (lv_at hl 0 rfl) ?_
    refine gf_X7_11 X hG (nx_0 n_a) k_a fl_X7_40 dX7_doers_35 ?_
    refine lv_iload_n hx hb dX7_doers_38 rfl (lv_at hl 1 rfl) ?_
    obtain ⟨i1, h⟩ := gd_y h
    refine g_iald X hG (nx_a (a := a) (k := 18) (n := 59) n_a (Nat.le_of_ble_eq_true rfl)) (kx_7_18 k_a) (by decide) i1 dX7_doers_39 ?_
    refine lv_icmp_ge (tgt := 149) hx hb dX7_doers_40 (by decide) (fun q2 => ?_) (fun q2 => ?_)
    · have h := ite_y h q2
      refine lv_iload_n hx hb dX7_doers_149 rfl (lv_at hl 3 rfl) ?_
      obtain rfl := Option.some.inj h
      exact g_iret X hr hlk hG hS dX7_doers_150
    · have h := ite_n h q2
      refine lv_aload_n hx hb dX7_doers_43 rfl (lv_at hl 0 rfl) ?_
      refine lv_iload_n hx hb dX7_doers_44 rfl (lv_at hl 1 rfl) ?_
      refine lv_iload hx hb dX7_doers_45 (lv_at hl 4 rfl) ?_
      refine lv_iload_n hx hb dX7_doers_47 rfl (lv_at hl 2 rfl) ?_
      obtain ⟨r3, hcr3, h⟩ := bd_y h
      refine g_cVI (a := a) (ci := 7) (T := TX7) (N := 37) (av := [.int u1, .int w4, .int u2]) (rest := []) X hG hS (ct_X7_thousandths l z k_a n_a hcr3) mt_X7_thousandths ml_X7_313 rfl ⟨rfl, rfl, Nat.le_of_ble_eq_true rfl, Nat.le_of_ble_eq_true rfl⟩ ⟨Nat.le_refl 0, Nat.le_refl 0⟩ (nx_0 n_a) k_a (by decide) rfl hl.1 (Nat.le_of_ble_eq_true rfl) rfl dX7_doers_48 (fun H locs hG hS => ?_)
      refine lv_istore (lv' := [(5, .int r3), (0, .ref (gad z a)), (1, .int u1), (2, .int u2), (3, .int w3), (4, .int w4)]) hx hb dX7_doers_51 hl (by decide) rfl (fun ls hl => ?_)
      refine lv_aload_n hx hb dX7_doers_53 rfl (lv_at hl 1 rfl) ?_
      refine gf_X7_13 X hG (nx_0 n_a) k_a fl_X7_46 dX7_doers_54 ?_
      refine lv_iload_n hx hb dX7_doers_57 rfl (lv_at hl 2 rfl) ?_
      refine g_iald X hG (nx_a (a := a) (k := 20) (n := 59) n_a (Nat.le_of_ble_eq_true rfl)) (kx_7_20 k_a) (by decide) i1 dX7_doers_58 ?_
      refine lv_iload hx hb dX7_doers_59 (lv_at hl 5 rfl) ?_
      refine lv_ishr hx hb dX7_doers_61 ?_
      refine lv_iconst (v := 1) hx hb dX7_doers_62 (by decide) ?_
      refine lv_iand hx hb dX7_doers_63 ?_
      refine lv_if_ne (tgt := 84) hx hb dX7_doers_64 (by decide) (fun q4 => ?_) (fun q4 => ?_)
      · have h := ite_n h q4
        refine lv_iconst (v := 0) hx hb dX7_doers_84 (by decide) ?_
        refine lv_istore (lv' := [(6, .int 0), (5, .int r3), (0, .ref (gad z a)), (1, .int u1), (2, .int u2), (3, .int w3), (4, .int w4)]) hx hb dX7_doers_85 hl (by decide) rfl (fun ls hl => ?_)
        refine lv_iload hx hb dX7_doers_87 (lv_at hl 0 rfl) ?_
        refine lv_if_eq (tgt := 112) hx hb dX7_doers_89 (by decide) (fun q5 => ?_) (fun q5 => ?_)
        · have h := ite_y h q5
          refine lv_iload hx hb dX7_doers_112 (lv_at hl 1 rfl) ?_
          refine lv_sipush (v := 1000) hx hb dX7_doers_114 (by decide) ?_
          refine lv_icmp_ne (tgt := 124) hx hb dX7_doers_117 (by decide) (fun q6 => ?_) (fun q6 => ?_)
          · have h := ite_n h q6
            refine lv_iconst (v := 0) hx hb dX7_doers_124 (by decide) ?_
            refine lv_istore (lv' := [(7, .int 0), (6, .int 0), (5, .int r3), (0, .ref (gad z a)), (1, .int u1), (2, .int u2), (3, .int w3), (4, .int w4)]) hx hb dX7_doers_125 hl (by decide) rfl (fun ls hl => ?_)
            refine lv_iload_n hx hb dX7_doers_127 rfl (lv_at hl 6 rfl) ?_
            refine lv_iload hx hb dX7_doers_128 (lv_at hl 0 rfl) ?_
            refine lv_if_eq (tgt := 140) hx hb dX7_doers_130 (by decide) (fun q7 => ?_) (fun q7 => ?_)
            · have h := ite_y h q7
              refine lv_iconst (v := 0) hx hb dX7_doers_140 (by decide) ?_
              refine lv_ior hx hb dX7_doers_141 ?_
              refine lv_topi (fun x8 ex8 => ?_)
              have h := nm_y h x8 ex8
              refine lv_istore_n (lv' := [(3, .int x8), (7, .int 0), (6, .int 0), (5, .int r3), (0, .ref (gad z a)), (1, .int u1), (2, .int u2), (4, .int w4)]) hx hb dX7_doers_142 rfl hl (by decide) rfl (fun ls hl => ?_)
              refine lv_iinc (v := (w4 + 1)) (lv' := [(4, .int (w4 + 1)), (3, .int x8), (7, .int 0), (6, .int 0), (5, .int r3), (0, .ref (gad z a)), (1, .int u1), (2, .int u2)]) hx hb dX7_doers_143 hl (k := 7) rfl rfl (by decide) rfl (fun ls hl => ?_)
              refine lv_goto (tgt := 32) hx hb dX7_doers_146 (by decide) ?_
              exact ih Mw x8 (w4 + 1) _ _ _ h hG hS (lv_sub hl [5, 6, 7, 1, 0] rfl)
            · have h := ite_n h q7
              refine lv_iconst (v := 1) hx hb dX7_doers_133 (by decide) ?_
              refine lv_iload hx hb dX7_doers_134 (lv_at hl 7 rfl) ?_
              refine lv_ishl hx hb dX7_doers_136 ?_
              refine lv_goto (tgt := 141) hx hb dX7_doers_137 (by decide) ?_
              refine lv_ior hx hb dX7_doers_141 ?_
              refine lv_topi (fun x9 ex9 => ?_)
              have h := nm_y h x9 ex9
              refine lv_istore_n (lv' := [(3, .int x9), (7, .int 0), (6, .int 0), (5, .int r3), (0, .ref (gad z a)), (1, .int u1), (2, .int u2), (4, .int w4)]) hx hb dX7_doers_142 rfl hl (by decide) rfl (fun ls hl => ?_)
              refine lv_iinc (v := (w4 + 1)) (lv' := [(4, .int (w4 + 1)), (3, .int x9), (7, .int 0), (6, .int 0), (5, .int r3), (0, .ref (gad z a)), (1, .int u1), (2, .int u2)]) hx hb dX7_doers_143 hl (k := 7) rfl rfl (by decide) rfl (fun ls hl => ?_)
              refine lv_goto (tgt := 32) hx hb dX7_doers_146 (by decide) ?_
              exact ih Mw x9 (w4 + 1) _ _ _ h hG hS (lv_sub hl [5, 6, 7, 1, 0] rfl)
          · have h := ite_y h q6
            refine lv_iconst (v := 1) hx hb dX7_doers_120 (by decide) ?_
            refine lv_goto (tgt := 125) hx hb dX7_doers_121 (by decide) ?_
            refine lv_istore (lv' := [(7, .int 1), (6, .int 0), (5, .int r3), (0, .ref (gad z a)), (1, .int u1), (2, .int u2), (3, .int w3), (4, .int w4)]) hx hb dX7_doers_125 hl (by decide) rfl (fun ls hl => ?_)
            refine lv_iload_n hx hb dX7_doers_127 rfl (lv_at hl 6 rfl) ?_
            refine lv_iload hx hb dX7_doers_128 (lv_at hl 0 rfl) ?_
            refine lv_if_eq (tgt := 140) hx hb dX7_doers_130 (by decide) (fun q10 => ?_) (fun q10 => ?_)
            · have h := ite_y h q10
              refine lv_iconst (v := 0) hx hb dX7_doers_140 (by decide) ?_
              refine lv_ior hx hb dX7_doers_141 ?_
              refine lv_topi (fun x11 ex11 => ?_)
              have h := nm_y h x11 ex11
              refine lv_istore_n (lv' := [(3, .int x11), (7, .int 1), (6, .int 0), (5, .int r3), (0, .ref (gad z a)), (1, .int u1), (2, .int u2), (4, .int w4)]) hx hb dX7_doers_142 rfl hl (by decide) rfl (fun ls hl => ?_)
              refine lv_iinc (v := (w4 + 1)) (lv' := [(4, .int (w4 + 1)), (3, .int x11), (7, .int 1), (6, .int 0), (5, .int r3), (0, .ref (gad z a)), (1, .int u1), (2, .int u2)]) hx hb dX7_doers_143 hl (k := 7) rfl rfl (by decide) rfl (fun ls hl => ?_)
              refine lv_goto (tgt := 32) hx hb dX7_doers_146 (by decide) ?_
              exact ih Mw x11 (w4 + 1) _ _ _ h hG hS (lv_sub hl [5, 6, 7, 1, 0] rfl)
            · have h := ite_n h q10
              refine lv_iconst (v := 1) hx hb dX7_doers_133 (by decide) ?_
              refine lv_iload hx hb dX7_doers_134 (lv_at hl 7 rfl) ?_
              refine lv_ishl hx hb dX7_doers_136 ?_
              refine lv_goto (tgt := 141) hx hb dX7_doers_137 (by decide) ?_
              refine lv_ior hx hb dX7_doers_141 ?_
              refine lv_topi (fun x12 ex12 => ?_)
              have h := nm_y h x12 ex12
              refine lv_istore_n (lv' := [(3, .int x12), (7, .int 1), (6, .int 0), (5, .int r3), (0, .ref (gad z a)), (1, .int u1), (2, .int u2), (4, .int w4)]) hx hb dX7_doers_142 rfl hl (by decide) rfl (fun ls hl => ?_)
              refine lv_iinc (v := (w4 + 1)) (lv' := [(4, .int (w4 + 1)), (3, .int x12), (7, .int 1), (6, .int 0), (5, .int r3), (0, .ref (gad z a)), (1, .int u1), (2, .int u2)]) hx hb dX7_doers_143 hl (k := 7) rfl rfl (by decide) rfl (fun ls hl => ?_)
              refine lv_goto (tgt := 32) hx hb dX7_doers_146 (by decide) ?_
              exact ih Mw x12 (w4 + 1) _ _ _ h hG hS (lv_sub hl [5, 6, 7, 1, 0] rfl)
        · have h := ite_n h q5
          refine lv_aload_n hx hb dX7_doers_92 rfl (lv_at hl 2 rfl) ?_
          refine lv_sipush (v := 1000) hx hb dX7_doers_93 (by decide) ?_
          obtain ⟨r13, hcr13, h⟩ := bd_y h
          refine g_cVI (a := a) (ci := 7) (T := TX7) (N := 37) (av := [.int 1000]) (rest := []) X hG hS (ct_X7_draw l z k_a n_a hcr13) mt_X7_draw ml_X7_316 rfl ⟨rfl, rfl, Nat.le_of_ble_eq_true rfl, Nat.le_of_ble_eq_true rfl⟩ ⟨Nat.le_refl 0, Nat.le_refl 0⟩ (nx_0 n_a) k_a (by decide) rfl hl.1 (Nat.le_of_ble_eq_true rfl) rfl dX7_doers_96 (fun H locs hG hS => ?_)
          refine lv_iload hx hb dX7_doers_99 (lv_at hl 1 rfl) ?_
          refine lv_icmp_ge (tgt := 108) hx hb dX7_doers_101 (by decide) (fun q14 => ?_) (fun q14 => ?_)
          · have h := ite_y h q14
            refine lv_iconst (v := 0) hx hb dX7_doers_108 (by decide) ?_
            refine lv_goto (tgt := 125) hx hb dX7_doers_109 (by decide) ?_
            refine lv_istore (lv' := [(7, .int 0), (6, .int 0), (5, .int r3), (0, .ref (gad z a)), (1, .int u1), (2, .int u2), (3, .int w3), (4, .int w4)]) hx hb dX7_doers_125 hl (by decide) rfl (fun ls hl => ?_)
            refine lv_iload_n hx hb dX7_doers_127 rfl (lv_at hl 6 rfl) ?_
            refine lv_iload hx hb dX7_doers_128 (lv_at hl 0 rfl) ?_
            refine lv_if_eq (tgt := 140) hx hb dX7_doers_130 (by decide) (fun q15 => ?_) (fun q15 => ?_)
            · have h := ite_y h q15
              refine lv_iconst (v := 0) hx hb dX7_doers_140 (by decide) ?_
              refine lv_ior hx hb dX7_doers_141 ?_
              refine lv_topi (fun x16 ex16 => ?_)
              have h := nm_y h x16 ex16
              refine lv_istore_n (lv' := [(3, .int x16), (7, .int 0), (6, .int 0), (5, .int r3), (0, .ref (gad z a)), (1, .int u1), (2, .int u2), (4, .int w4)]) hx hb dX7_doers_142 rfl hl (by decide) rfl (fun ls hl => ?_)
              refine lv_iinc (v := (w4 + 1)) (lv' := [(4, .int (w4 + 1)), (3, .int x16), (7, .int 0), (6, .int 0), (5, .int r3), (0, .ref (gad z a)), (1, .int u1), (2, .int u2)]) hx hb dX7_doers_143 hl (k := 7) rfl rfl (by decide) rfl (fun ls hl => ?_)
              refine lv_goto (tgt := 32) hx hb dX7_doers_146 (by decide) ?_
              exact ih r13.2 x16 (w4 + 1) _ _ _ h hG hS (lv_sub hl [5, 6, 7, 1, 0] rfl)
            · have h := ite_n h q15
              refine lv_iconst (v := 1) hx hb dX7_doers_133 (by decide) ?_
              refine lv_iload hx hb dX7_doers_134 (lv_at hl 7 rfl) ?_
              refine lv_ishl hx hb dX7_doers_136 ?_
              refine lv_goto (tgt := 141) hx hb dX7_doers_137 (by decide) ?_
              refine lv_ior hx hb dX7_doers_141 ?_
              refine lv_topi (fun x17 ex17 => ?_)
              have h := nm_y h x17 ex17
              refine lv_istore_n (lv' := [(3, .int x17), (7, .int 0), (6, .int 0), (5, .int r3), (0, .ref (gad z a)), (1, .int u1), (2, .int u2), (4, .int w4)]) hx hb dX7_doers_142 rfl hl (by decide) rfl (fun ls hl => ?_)
              refine lv_iinc (v := (w4 + 1)) (lv' := [(4, .int (w4 + 1)), (3, .int x17), (7, .int 0), (6, .int 0), (5, .int r3), (0, .ref (gad z a)), (1, .int u1), (2, .int u2)]) hx hb dX7_doers_143 hl (k := 7) rfl rfl (by decide) rfl (fun ls hl => ?_)
              refine lv_goto (tgt := 32) hx hb dX7_doers_146 (by decide) ?_
              exact ih r13.2 x17 (w4 + 1) _ _ _ h hG hS (lv_sub hl [5, 6, 7, 1, 0] rfl)
          · have h := ite_n h q14
            refine lv_iconst (v := 1) hx hb dX7_doers_104 (by decide) ?_
            refine lv_goto (tgt := 125) hx hb dX7_doers_105 (by decide) ?_
            refine lv_istore (lv' := [(7, .int 1), (6, .int 0), (5, .int r3), (0, .ref (gad z a)), (1, .int u1), (2, .int u2), (3, .int w3), (4, .int w4)]) hx hb dX7_doers_125 hl (by decide) rfl (fun ls hl => ?_)
            refine lv_iload_n hx hb dX7_doers_127 rfl (lv_at hl 6 rfl) ?_
            refine lv_iload hx hb dX7_doers_128 (lv_at hl 0 rfl) ?_
            refine lv_if_eq (tgt := 140) hx hb dX7_doers_130 (by decide) (fun q18 => ?_) (fun q18 => ?_)
            · have h := ite_y h q18
              refine lv_iconst (v := 0) hx hb dX7_doers_140 (by decide) ?_
              refine lv_ior hx hb dX7_doers_141 ?_
              refine lv_topi (fun x19 ex19 => ?_)
              have h := nm_y h x19 ex19
              refine lv_istore_n (lv' := [(3, .int x19), (7, .int 1), (6, .int 0), (5, .int r3), (0, .ref (gad z a)), (1, .int u1), (2, .int u2), (4, .int w4)]) hx hb dX7_doers_142 rfl hl (by decide) rfl (fun ls hl => ?_)
              refine lv_iinc (v := (w4 + 1)) (lv' := [(4, .int (w4 + 1)), (3, .int x19), (7, .int 1), (6, .int 0), (5, .int r3), (0, .ref (gad z a)), (1, .int u1), (2, .int u2)]) hx hb dX7_doers_143 hl (k := 7) rfl rfl (by decide) rfl (fun ls hl => ?_)
              refine lv_goto (tgt := 32) hx hb dX7_doers_146 (by decide) ?_
              exact ih r13.2 x19 (w4 + 1) _ _ _ h hG hS (lv_sub hl [5, 6, 7, 1, 0] rfl)
            · have h := ite_n h q18
              refine lv_iconst (v := 1) hx hb dX7_doers_133 (by decide) ?_
              refine lv_iload hx hb dX7_doers_134 (lv_at hl 7 rfl) ?_
              refine lv_ishl hx hb dX7_doers_136 ?_
              refine lv_goto (tgt := 141) hx hb dX7_doers_137 (by decide) ?_
              refine lv_ior hx hb dX7_doers_141 ?_
              refine lv_topi (fun x20 ex20 => ?_)
              have h := nm_y h x20 ex20
              refine lv_istore_n (lv' := [(3, .int x20), (7, .int 1), (6, .int 0), (5, .int r3), (0, .ref (gad z a)), (1, .int u1), (2, .int u2), (4, .int w4)]) hx hb dX7_doers_142 rfl hl (by decide) rfl (fun ls hl => ?_)
              refine lv_iinc (v := (w4 + 1)) (lv' := [(4, .int (w4 + 1)), (3, .int x20), (7, .int 1), (6, .int 0), (5, .int r3), (0, .ref (gad z a)), (1, .int u1), (2, .int u2)]) hx hb dX7_doers_143 hl (k := 7) rfl rfl (by decide) rfl (fun ls hl => ?_)
              refine lv_goto (tgt := 32) hx hb dX7_doers_146 (by decide) ?_
              exact ih r13.2 x20 (w4 + 1) _ _ _ h hG hS (lv_sub hl [5, 6, 7, 1, 0] rfl)
      · have h := ite_y h q4
        refine lv_aload_n hx hb dX7_doers_67 rfl (lv_at hl 1 rfl) ?_
        refine gf_X7_18 X hG (nx_0 n_a) k_a fl_X7_63 dX7_doers_68 ?_
        refine lv_iload_n hx hb dX7_doers_71 rfl (lv_at hl 2 rfl) ?_
        refine g_aldII X hG (nx_a (a := a) (k := 45) (n := 59) n_a (Nat.le_of_ble_eq_true rfl)) (kx_7_45 k_a) (by decide) i1 dX7_doers_72 ?_
        refine lv_iload hx hb dX7_doers_73 (lv_at hl 5 rfl) ?_
        obtain ⟨i21, h⟩ := gd_y h
        refine g_iald X hG (nE n_a i1 (Nat.le_of_ble_eq_true rfl)) (ke_7_45 k_a i1) (by decide) i21 dX7_doers_75 ?_
        refine lv_iconst (v := 2) hx hb dX7_doers_76 (by decide) ?_
        refine lv_icmp_ne (tgt := 84) hx hb dX7_doers_77 (by decide) (fun q22 => ?_) (fun q22 => ?_)
        · have h := ite_n h q22
          refine lv_iconst (v := 0) hx hb dX7_doers_84 (by decide) ?_
          refine lv_istore (lv' := [(6, .int 0), (5, .int r3), (0, .ref (gad z a)), (1, .int u1), (2, .int u2), (3, .int w3), (4, .int w4)]) hx hb dX7_doers_85 hl (by decide) rfl (fun ls hl => ?_)
          refine lv_iload hx hb dX7_doers_87 (lv_at hl 0 rfl) ?_
          refine lv_if_eq (tgt := 112) hx hb dX7_doers_89 (by decide) (fun q23 => ?_) (fun q23 => ?_)
          · have h := ite_y h q23
            refine lv_iload hx hb dX7_doers_112 (lv_at hl 1 rfl) ?_
            refine lv_sipush (v := 1000) hx hb dX7_doers_114 (by decide) ?_
            refine lv_icmp_ne (tgt := 124) hx hb dX7_doers_117 (by decide) (fun q24 => ?_) (fun q24 => ?_)
            · have h := ite_n h q24
              refine lv_iconst (v := 0) hx hb dX7_doers_124 (by decide) ?_
              refine lv_istore (lv' := [(7, .int 0), (6, .int 0), (5, .int r3), (0, .ref (gad z a)), (1, .int u1), (2, .int u2), (3, .int w3), (4, .int w4)]) hx hb dX7_doers_125 hl (by decide) rfl (fun ls hl => ?_)
              refine lv_iload_n hx hb dX7_doers_127 rfl (lv_at hl 6 rfl) ?_
              refine lv_iload hx hb dX7_doers_128 (lv_at hl 0 rfl) ?_
              refine lv_if_eq (tgt := 140) hx hb dX7_doers_130 (by decide) (fun q25 => ?_) (fun q25 => ?_)
              · have h := ite_y h q25
                refine lv_iconst (v := 0) hx hb dX7_doers_140 (by decide) ?_
                refine lv_ior hx hb dX7_doers_141 ?_
                refine lv_topi (fun x26 ex26 => ?_)
                have h := nm_y h x26 ex26
                refine lv_istore_n (lv' := [(3, .int x26), (7, .int 0), (6, .int 0), (5, .int r3), (0, .ref (gad z a)), (1, .int u1), (2, .int u2), (4, .int w4)]) hx hb dX7_doers_142 rfl hl (by decide) rfl (fun ls hl => ?_)
                refine lv_iinc (v := (w4 + 1)) (lv' := [(4, .int (w4 + 1)), (3, .int x26), (7, .int 0), (6, .int 0), (5, .int r3), (0, .ref (gad z a)), (1, .int u1), (2, .int u2)]) hx hb dX7_doers_143 hl (k := 7) rfl rfl (by decide) rfl (fun ls hl => ?_)
                refine lv_goto (tgt := 32) hx hb dX7_doers_146 (by decide) ?_
                exact ih Mw x26 (w4 + 1) _ _ _ h hG hS (lv_sub hl [5, 6, 7, 1, 0] rfl)
              · have h := ite_n h q25
                refine lv_iconst (v := 1) hx hb dX7_doers_133 (by decide) ?_
                refine lv_iload hx hb dX7_doers_134 (lv_at hl 7 rfl) ?_
                refine lv_ishl hx hb dX7_doers_136 ?_
                refine lv_goto (tgt := 141) hx hb dX7_doers_137 (by decide) ?_
                refine lv_ior hx hb dX7_doers_141 ?_
                refine lv_topi (fun x27 ex27 => ?_)
                have h := nm_y h x27 ex27
                refine lv_istore_n (lv' := [(3, .int x27), (7, .int 0), (6, .int 0), (5, .int r3), (0, .ref (gad z a)), (1, .int u1), (2, .int u2), (4, .int w4)]) hx hb dX7_doers_142 rfl hl (by decide) rfl (fun ls hl => ?_)
                refine lv_iinc (v := (w4 + 1)) (lv' := [(4, .int (w4 + 1)), (3, .int x27), (7, .int 0), (6, .int 0), (5, .int r3), (0, .ref (gad z a)), (1, .int u1), (2, .int u2)]) hx hb dX7_doers_143 hl (k := 7) rfl rfl (by decide) rfl (fun ls hl => ?_)
                refine lv_goto (tgt := 32) hx hb dX7_doers_146 (by decide) ?_
                exact ih Mw x27 (w4 + 1) _ _ _ h hG hS (lv_sub hl [5, 6, 7, 1, 0] rfl)
            · have h := ite_y h q24
              refine lv_iconst (v := 1) hx hb dX7_doers_120 (by decide) ?_
              refine lv_goto (tgt := 125) hx hb dX7_doers_121 (by decide) ?_
              refine lv_istore (lv' := [(7, .int 1), (6, .int 0), (5, .int r3), (0, .ref (gad z a)), (1, .int u1), (2, .int u2), (3, .int w3), (4, .int w4)]) hx hb dX7_doers_125 hl (by decide) rfl (fun ls hl => ?_)
              refine lv_iload_n hx hb dX7_doers_127 rfl (lv_at hl 6 rfl) ?_
              refine lv_iload hx hb dX7_doers_128 (lv_at hl 0 rfl) ?_
              refine lv_if_eq (tgt := 140) hx hb dX7_doers_130 (by decide) (fun q28 => ?_) (fun q28 => ?_)
              · have h := ite_y h q28
                refine lv_iconst (v := 0) hx hb dX7_doers_140 (by decide) ?_
                refine lv_ior hx hb dX7_doers_141 ?_
                refine lv_topi (fun x29 ex29 => ?_)
                have h := nm_y h x29 ex29
                refine lv_istore_n (lv' := [(3, .int x29), (7, .int 1), (6, .int 0), (5, .int r3), (0, .ref (gad z a)), (1, .int u1), (2, .int u2), (4, .int w4)]) hx hb dX7_doers_142 rfl hl (by decide) rfl (fun ls hl => ?_)
                refine lv_iinc (v := (w4 + 1)) (lv' := [(4, .int (w4 + 1)), (3, .int x29), (7, .int 1), (6, .int 0), (5, .int r3), (0, .ref (gad z a)), (1, .int u1), (2, .int u2)]) hx hb dX7_doers_143 hl (k := 7) rfl rfl (by decide) rfl (fun ls hl => ?_)
                refine lv_goto (tgt := 32) hx hb dX7_doers_146 (by decide) ?_
                exact ih Mw x29 (w4 + 1) _ _ _ h hG hS (lv_sub hl [5, 6, 7, 1, 0] rfl)
              · have h := ite_n h q28
                refine lv_iconst (v := 1) hx hb dX7_doers_133 (by decide) ?_
                refine lv_iload hx hb dX7_doers_134 (lv_at hl 7 rfl) ?_
                refine lv_ishl hx hb dX7_doers_136 ?_
                refine lv_goto (tgt := 141) hx hb dX7_doers_137 (by decide) ?_
                refine lv_ior hx hb dX7_doers_141 ?_
                refine lv_topi (fun x30 ex30 => ?_)
                have h := nm_y h x30 ex30
                refine lv_istore_n (lv' := [(3, .int x30), (7, .int 1), (6, .int 0), (5, .int r3), (0, .ref (gad z a)), (1, .int u1), (2, .int u2), (4, .int w4)]) hx hb dX7_doers_142 rfl hl (by decide) rfl (fun ls hl => ?_)
                refine lv_iinc (v := (w4 + 1)) (lv' := [(4, .int (w4 + 1)), (3, .int x30), (7, .int 1), (6, .int 0), (5, .int r3), (0, .ref (gad z a)), (1, .int u1), (2, .int u2)]) hx hb dX7_doers_143 hl (k := 7) rfl rfl (by decide) rfl (fun ls hl => ?_)
                refine lv_goto (tgt := 32) hx hb dX7_doers_146 (by decide) ?_
                exact ih Mw x30 (w4 + 1) _ _ _ h hG hS (lv_sub hl [5, 6, 7, 1, 0] rfl)
          · have h := ite_n h q23
            refine lv_aload_n hx hb dX7_doers_92 rfl (lv_at hl 2 rfl) ?_
            refine lv_sipush (v := 1000) hx hb dX7_doers_93 (by decide) ?_
            obtain ⟨r31, hcr31, h⟩ := bd_y h
            refine g_cVI (a := a) (ci := 7) (T := TX7) (N := 37) (av := [.int 1000]) (rest := []) X hG hS (ct_X7_draw l z k_a n_a hcr31) mt_X7_draw ml_X7_316 rfl ⟨rfl, rfl, Nat.le_of_ble_eq_true rfl, Nat.le_of_ble_eq_true rfl⟩ ⟨Nat.le_refl 0, Nat.le_refl 0⟩ (nx_0 n_a) k_a (by decide) rfl hl.1 (Nat.le_of_ble_eq_true rfl) rfl dX7_doers_96 (fun H locs hG hS => ?_)
            refine lv_iload hx hb dX7_doers_99 (lv_at hl 1 rfl) ?_
            refine lv_icmp_ge (tgt := 108) hx hb dX7_doers_101 (by decide) (fun q32 => ?_) (fun q32 => ?_)
            · have h := ite_y h q32
              refine lv_iconst (v := 0) hx hb dX7_doers_108 (by decide) ?_
              refine lv_goto (tgt := 125) hx hb dX7_doers_109 (by decide) ?_
              refine lv_istore (lv' := [(7, .int 0), (6, .int 0), (5, .int r3), (0, .ref (gad z a)), (1, .int u1), (2, .int u2), (3, .int w3), (4, .int w4)]) hx hb dX7_doers_125 hl (by decide) rfl (fun ls hl => ?_)
              refine lv_iload_n hx hb dX7_doers_127 rfl (lv_at hl 6 rfl) ?_
              refine lv_iload hx hb dX7_doers_128 (lv_at hl 0 rfl) ?_
              refine lv_if_eq (tgt := 140) hx hb dX7_doers_130 (by decide) (fun q33 => ?_) (fun q33 => ?_)
              · have h := ite_y h q33
                refine lv_iconst (v := 0) hx hb dX7_doers_140 (by decide) ?_
                refine lv_ior hx hb dX7_doers_141 ?_
                refine lv_topi (fun x34 ex34 => ?_)
                have h := nm_y h x34 ex34
                refine lv_istore_n (lv' := [(3, .int x34), (7, .int 0), (6, .int 0), (5, .int r3), (0, .ref (gad z a)), (1, .int u1), (2, .int u2), (4, .int w4)]) hx hb dX7_doers_142 rfl hl (by decide) rfl (fun ls hl => ?_)
                refine lv_iinc (v := (w4 + 1)) (lv' := [(4, .int (w4 + 1)), (3, .int x34), (7, .int 0), (6, .int 0), (5, .int r3), (0, .ref (gad z a)), (1, .int u1), (2, .int u2)]) hx hb dX7_doers_143 hl (k := 7) rfl rfl (by decide) rfl (fun ls hl => ?_)
                refine lv_goto (tgt := 32) hx hb dX7_doers_146 (by decide) ?_
                exact ih r31.2 x34 (w4 + 1) _ _ _ h hG hS (lv_sub hl [5, 6, 7, 1, 0] rfl)
              · have h := ite_n h q33
                refine lv_iconst (v := 1) hx hb dX7_doers_133 (by decide) ?_
                refine lv_iload hx hb dX7_doers_134 (lv_at hl 7 rfl) ?_
                refine lv_ishl hx hb dX7_doers_136 ?_
                refine lv_goto (tgt := 141) hx hb dX7_doers_137 (by decide) ?_
                refine lv_ior hx hb dX7_doers_141 ?_
                refine lv_topi (fun x35 ex35 => ?_)
                have h := nm_y h x35 ex35
                refine lv_istore_n (lv' := [(3, .int x35), (7, .int 0), (6, .int 0), (5, .int r3), (0, .ref (gad z a)), (1, .int u1), (2, .int u2), (4, .int w4)]) hx hb dX7_doers_142 rfl hl (by decide) rfl (fun ls hl => ?_)
                refine lv_iinc (v := (w4 + 1)) (lv' := [(4, .int (w4 + 1)), (3, .int x35), (7, .int 0), (6, .int 0), (5, .int r3), (0, .ref (gad z a)), (1, .int u1), (2, .int u2)]) hx hb dX7_doers_143 hl (k := 7) rfl rfl (by decide) rfl (fun ls hl => ?_)
                refine lv_goto (tgt := 32) hx hb dX7_doers_146 (by decide) ?_
                exact ih r31.2 x35 (w4 + 1) _ _ _ h hG hS (lv_sub hl [5, 6, 7, 1, 0] rfl)
            · have h := ite_n h q32
              refine lv_iconst (v := 1) hx hb dX7_doers_104 (by decide) ?_
              refine lv_goto (tgt := 125) hx hb dX7_doers_105 (by decide) ?_
              refine lv_istore (lv' := [(7, .int 1), (6, .int 0), (5, .int r3), (0, .ref (gad z a)), (1, .int u1), (2, .int u2), (3, .int w3), (4, .int w4)]) hx hb dX7_doers_125 hl (by decide) rfl (fun ls hl => ?_)
              refine lv_iload_n hx hb dX7_doers_127 rfl (lv_at hl 6 rfl) ?_
              refine lv_iload hx hb dX7_doers_128 (lv_at hl 0 rfl) ?_
              refine lv_if_eq (tgt := 140) hx hb dX7_doers_130 (by decide) (fun q36 => ?_) (fun q36 => ?_)
              · have h := ite_y h q36
                refine lv_iconst (v := 0) hx hb dX7_doers_140 (by decide) ?_
                refine lv_ior hx hb dX7_doers_141 ?_
                refine lv_topi (fun x37 ex37 => ?_)
                have h := nm_y h x37 ex37
                refine lv_istore_n (lv' := [(3, .int x37), (7, .int 1), (6, .int 0), (5, .int r3), (0, .ref (gad z a)), (1, .int u1), (2, .int u2), (4, .int w4)]) hx hb dX7_doers_142 rfl hl (by decide) rfl (fun ls hl => ?_)
                refine lv_iinc (v := (w4 + 1)) (lv' := [(4, .int (w4 + 1)), (3, .int x37), (7, .int 1), (6, .int 0), (5, .int r3), (0, .ref (gad z a)), (1, .int u1), (2, .int u2)]) hx hb dX7_doers_143 hl (k := 7) rfl rfl (by decide) rfl (fun ls hl => ?_)
                refine lv_goto (tgt := 32) hx hb dX7_doers_146 (by decide) ?_
                exact ih r31.2 x37 (w4 + 1) _ _ _ h hG hS (lv_sub hl [5, 6, 7, 1, 0] rfl)
              · have h := ite_n h q36
                refine lv_iconst (v := 1) hx hb dX7_doers_133 (by decide) ?_
                refine lv_iload hx hb dX7_doers_134 (lv_at hl 7 rfl) ?_
                refine lv_ishl hx hb dX7_doers_136 ?_
                refine lv_goto (tgt := 141) hx hb dX7_doers_137 (by decide) ?_
                refine lv_ior hx hb dX7_doers_141 ?_
                refine lv_topi (fun x38 ex38 => ?_)
                have h := nm_y h x38 ex38
                refine lv_istore_n (lv' := [(3, .int x38), (7, .int 1), (6, .int 0), (5, .int r3), (0, .ref (gad z a)), (1, .int u1), (2, .int u2), (4, .int w4)]) hx hb dX7_doers_142 rfl hl (by decide) rfl (fun ls hl => ?_)
                refine lv_iinc (v := (w4 + 1)) (lv' := [(4, .int (w4 + 1)), (3, .int x38), (7, .int 1), (6, .int 0), (5, .int r3), (0, .ref (gad z a)), (1, .int u1), (2, .int u2)]) hx hb dX7_doers_143 hl (k := 7) rfl rfl (by decide) rfl (fun ls hl => ?_)
                refine lv_goto (tgt := 32) hx hb dX7_doers_146 (by decide) ?_
                exact ih r31.2 x38 (w4 + 1) _ _ _ h hG hS (lv_sub hl [5, 6, 7, 1, 0] rfl)
        · have h := ite_y h q22
          refine lv_iconst (v := 1) hx hb dX7_doers_80 (by decide) ?_
          refine lv_goto (tgt := 85) hx hb dX7_doers_81 (by decide) ?_
          refine lv_istore (lv' := [(6, .int 1), (5, .int r3), (0, .ref (gad z a)), (1, .int u1), (2, .int u2), (3, .int w3), (4, .int w4)]) hx hb dX7_doers_85 hl (by decide) rfl (fun ls hl => ?_)
          refine lv_iload hx hb dX7_doers_87 (lv_at hl 0 rfl) ?_
          refine lv_if_eq (tgt := 112) hx hb dX7_doers_89 (by decide) (fun q39 => ?_) (fun q39 => ?_)
          · have h := ite_y h q39
            refine lv_iload hx hb dX7_doers_112 (lv_at hl 1 rfl) ?_
            refine lv_sipush (v := 1000) hx hb dX7_doers_114 (by decide) ?_
            refine lv_icmp_ne (tgt := 124) hx hb dX7_doers_117 (by decide) (fun q40 => ?_) (fun q40 => ?_)
            · have h := ite_n h q40
              refine lv_iconst (v := 0) hx hb dX7_doers_124 (by decide) ?_
              refine lv_istore (lv' := [(7, .int 0), (6, .int 1), (5, .int r3), (0, .ref (gad z a)), (1, .int u1), (2, .int u2), (3, .int w3), (4, .int w4)]) hx hb dX7_doers_125 hl (by decide) rfl (fun ls hl => ?_)
              refine lv_iload_n hx hb dX7_doers_127 rfl (lv_at hl 6 rfl) ?_
              refine lv_iload hx hb dX7_doers_128 (lv_at hl 0 rfl) ?_
              refine lv_if_eq (tgt := 140) hx hb dX7_doers_130 (by decide) (fun q41 => ?_) (fun q41 => ?_)
              · have h := ite_y h q41
                refine lv_iconst (v := 0) hx hb dX7_doers_140 (by decide) ?_
                refine lv_ior hx hb dX7_doers_141 ?_
                refine lv_topi (fun x42 ex42 => ?_)
                have h := nm_y h x42 ex42
                refine lv_istore_n (lv' := [(3, .int x42), (7, .int 0), (6, .int 1), (5, .int r3), (0, .ref (gad z a)), (1, .int u1), (2, .int u2), (4, .int w4)]) hx hb dX7_doers_142 rfl hl (by decide) rfl (fun ls hl => ?_)
                refine lv_iinc (v := (w4 + 1)) (lv' := [(4, .int (w4 + 1)), (3, .int x42), (7, .int 0), (6, .int 1), (5, .int r3), (0, .ref (gad z a)), (1, .int u1), (2, .int u2)]) hx hb dX7_doers_143 hl (k := 7) rfl rfl (by decide) rfl (fun ls hl => ?_)
                refine lv_goto (tgt := 32) hx hb dX7_doers_146 (by decide) ?_
                exact ih Mw x42 (w4 + 1) _ _ _ h hG hS (lv_sub hl [5, 6, 7, 1, 0] rfl)
              · have h := ite_n h q41
                refine lv_iconst (v := 1) hx hb dX7_doers_133 (by decide) ?_
                refine lv_iload hx hb dX7_doers_134 (lv_at hl 7 rfl) ?_
                refine lv_ishl hx hb dX7_doers_136 ?_
                refine lv_goto (tgt := 141) hx hb dX7_doers_137 (by decide) ?_
                refine lv_ior hx hb dX7_doers_141 ?_
                refine lv_topi (fun x43 ex43 => ?_)
                have h := nm_y h x43 ex43
                refine lv_istore_n (lv' := [(3, .int x43), (7, .int 0), (6, .int 1), (5, .int r3), (0, .ref (gad z a)), (1, .int u1), (2, .int u2), (4, .int w4)]) hx hb dX7_doers_142 rfl hl (by decide) rfl (fun ls hl => ?_)
                refine lv_iinc (v := (w4 + 1)) (lv' := [(4, .int (w4 + 1)), (3, .int x43), (7, .int 0), (6, .int 1), (5, .int r3), (0, .ref (gad z a)), (1, .int u1), (2, .int u2)]) hx hb dX7_doers_143 hl (k := 7) rfl rfl (by decide) rfl (fun ls hl => ?_)
                refine lv_goto (tgt := 32) hx hb dX7_doers_146 (by decide) ?_
                exact ih Mw x43 (w4 + 1) _ _ _ h hG hS (lv_sub hl [5, 6, 7, 1, 0] rfl)
            · have h := ite_y h q40
              refine lv_iconst (v := 1) hx hb dX7_doers_120 (by decide) ?_
              refine lv_goto (tgt := 125) hx hb dX7_doers_121 (by decide) ?_
              refine lv_istore (lv' := [(7, .int 1), (6, .int 1), (5, .int r3), (0, .ref (gad z a)), (1, .int u1), (2, .int u2), (3, .int w3), (4, .int w4)]) hx hb dX7_doers_125 hl (by decide) rfl (fun ls hl => ?_)
              refine lv_iload_n hx hb dX7_doers_127 rfl (lv_at hl 6 rfl) ?_
              refine lv_iload hx hb dX7_doers_128 (lv_at hl 0 rfl) ?_
              refine lv_if_eq (tgt := 140) hx hb dX7_doers_130 (by decide) (fun q44 => ?_) (fun q44 => ?_)
              · have h := ite_y h q44
                refine lv_iconst (v := 0) hx hb dX7_doers_140 (by decide) ?_
                refine lv_ior hx hb dX7_doers_141 ?_
                refine lv_topi (fun x45 ex45 => ?_)
                have h := nm_y h x45 ex45
                refine lv_istore_n (lv' := [(3, .int x45), (7, .int 1), (6, .int 1), (5, .int r3), (0, .ref (gad z a)), (1, .int u1), (2, .int u2), (4, .int w4)]) hx hb dX7_doers_142 rfl hl (by decide) rfl (fun ls hl => ?_)
                refine lv_iinc (v := (w4 + 1)) (lv' := [(4, .int (w4 + 1)), (3, .int x45), (7, .int 1), (6, .int 1), (5, .int r3), (0, .ref (gad z a)), (1, .int u1), (2, .int u2)]) hx hb dX7_doers_143 hl (k := 7) rfl rfl (by decide) rfl (fun ls hl => ?_)
                refine lv_goto (tgt := 32) hx hb dX7_doers_146 (by decide) ?_
                exact ih Mw x45 (w4 + 1) _ _ _ h hG hS (lv_sub hl [5, 6, 7, 1, 0] rfl)
              · have h := ite_n h q44
                refine lv_iconst (v := 1) hx hb dX7_doers_133 (by decide) ?_
                refine lv_iload hx hb dX7_doers_134 (lv_at hl 7 rfl) ?_
                refine lv_ishl hx hb dX7_doers_136 ?_
                refine lv_goto (tgt := 141) hx hb dX7_doers_137 (by decide) ?_
                refine lv_ior hx hb dX7_doers_141 ?_
                refine lv_topi (fun x46 ex46 => ?_)
                have h := nm_y h x46 ex46
                refine lv_istore_n (lv' := [(3, .int x46), (7, .int 1), (6, .int 1), (5, .int r3), (0, .ref (gad z a)), (1, .int u1), (2, .int u2), (4, .int w4)]) hx hb dX7_doers_142 rfl hl (by decide) rfl (fun ls hl => ?_)
                refine lv_iinc (v := (w4 + 1)) (lv' := [(4, .int (w4 + 1)), (3, .int x46), (7, .int 1), (6, .int 1), (5, .int r3), (0, .ref (gad z a)), (1, .int u1), (2, .int u2)]) hx hb dX7_doers_143 hl (k := 7) rfl rfl (by decide) rfl (fun ls hl => ?_)
                refine lv_goto (tgt := 32) hx hb dX7_doers_146 (by decide) ?_
                exact ih Mw x46 (w4 + 1) _ _ _ h hG hS (lv_sub hl [5, 6, 7, 1, 0] rfl)
          · have h := ite_n h q39
            refine lv_aload_n hx hb dX7_doers_92 rfl (lv_at hl 2 rfl) ?_
            refine lv_sipush (v := 1000) hx hb dX7_doers_93 (by decide) ?_
            obtain ⟨r47, hcr47, h⟩ := bd_y h
            refine g_cVI (a := a) (ci := 7) (T := TX7) (N := 37) (av := [.int 1000]) (rest := []) X hG hS (ct_X7_draw l z k_a n_a hcr47) mt_X7_draw ml_X7_316 rfl ⟨rfl, rfl, Nat.le_of_ble_eq_true rfl, Nat.le_of_ble_eq_true rfl⟩ ⟨Nat.le_refl 0, Nat.le_refl 0⟩ (nx_0 n_a) k_a (by decide) rfl hl.1 (Nat.le_of_ble_eq_true rfl) rfl dX7_doers_96 (fun H locs hG hS => ?_)
            refine lv_iload hx hb dX7_doers_99 (lv_at hl 1 rfl) ?_
            refine lv_icmp_ge (tgt := 108) hx hb dX7_doers_101 (by decide) (fun q48 => ?_) (fun q48 => ?_)
            · have h := ite_y h q48
              refine lv_iconst (v := 0) hx hb dX7_doers_108 (by decide) ?_
              refine lv_goto (tgt := 125) hx hb dX7_doers_109 (by decide) ?_
              refine lv_istore (lv' := [(7, .int 0), (6, .int 1), (5, .int r3), (0, .ref (gad z a)), (1, .int u1), (2, .int u2), (3, .int w3), (4, .int w4)]) hx hb dX7_doers_125 hl (by decide) rfl (fun ls hl => ?_)
              refine lv_iload_n hx hb dX7_doers_127 rfl (lv_at hl 6 rfl) ?_
              refine lv_iload hx hb dX7_doers_128 (lv_at hl 0 rfl) ?_
              refine lv_if_eq (tgt := 140) hx hb dX7_doers_130 (by decide) (fun q49 => ?_) (fun q49 => ?_)
              · have h := ite_y h q49
                refine lv_iconst (v := 0) hx hb dX7_doers_140 (by decide) ?_
                refine lv_ior hx hb dX7_doers_141 ?_
                refine lv_topi (fun x50 ex50 => ?_)
                have h := nm_y h x50 ex50
                refine lv_istore_n (lv' := [(3, .int x50), (7, .int 0), (6, .int 1), (5, .int r3), (0, .ref (gad z a)), (1, .int u1), (2, .int u2), (4, .int w4)]) hx hb dX7_doers_142 rfl hl (by decide) rfl (fun ls hl => ?_)
                refine lv_iinc (v := (w4 + 1)) (lv' := [(4, .int (w4 + 1)), (3, .int x50), (7, .int 0), (6, .int 1), (5, .int r3), (0, .ref (gad z a)), (1, .int u1), (2, .int u2)]) hx hb dX7_doers_143 hl (k := 7) rfl rfl (by decide) rfl (fun ls hl => ?_)
                refine lv_goto (tgt := 32) hx hb dX7_doers_146 (by decide) ?_
                exact ih r47.2 x50 (w4 + 1) _ _ _ h hG hS (lv_sub hl [5, 6, 7, 1, 0] rfl)
              · have h := ite_n h q49
                refine lv_iconst (v := 1) hx hb dX7_doers_133 (by decide) ?_
                refine lv_iload hx hb dX7_doers_134 (lv_at hl 7 rfl) ?_
                refine lv_ishl hx hb dX7_doers_136 ?_
                refine lv_goto (tgt := 141) hx hb dX7_doers_137 (by decide) ?_
                refine lv_ior hx hb dX7_doers_141 ?_
                refine lv_topi (fun x51 ex51 => ?_)
                have h := nm_y h x51 ex51
                refine lv_istore_n (lv' := [(3, .int x51), (7, .int 0), (6, .int 1), (5, .int r3), (0, .ref (gad z a)), (1, .int u1), (2, .int u2), (4, .int w4)]) hx hb dX7_doers_142 rfl hl (by decide) rfl (fun ls hl => ?_)
                refine lv_iinc (v := (w4 + 1)) (lv' := [(4, .int (w4 + 1)), (3, .int x51), (7, .int 0), (6, .int 1), (5, .int r3), (0, .ref (gad z a)), (1, .int u1), (2, .int u2)]) hx hb dX7_doers_143 hl (k := 7) rfl rfl (by decide) rfl (fun ls hl => ?_)
                refine lv_goto (tgt := 32) hx hb dX7_doers_146 (by decide) ?_
                exact ih r47.2 x51 (w4 + 1) _ _ _ h hG hS (lv_sub hl [5, 6, 7, 1, 0] rfl)
            · have h := ite_n h q48
              refine lv_iconst (v := 1) hx hb dX7_doers_104 (by decide) ?_
              refine lv_goto (tgt := 125) hx hb dX7_doers_105 (by decide) ?_
              refine lv_istore (lv' := [(7, .int 1), (6, .int 1), (5, .int r3), (0, .ref (gad z a)), (1, .int u1), (2, .int u2), (3, .int w3), (4, .int w4)]) hx hb dX7_doers_125 hl (by decide) rfl (fun ls hl => ?_)
              refine lv_iload_n hx hb dX7_doers_127 rfl (lv_at hl 6 rfl) ?_
              refine lv_iload hx hb dX7_doers_128 (lv_at hl 0 rfl) ?_
              refine lv_if_eq (tgt := 140) hx hb dX7_doers_130 (by decide) (fun q52 => ?_) (fun q52 => ?_)
              · have h := ite_y h q52
                refine lv_iconst (v := 0) hx hb dX7_doers_140 (by decide) ?_
                refine lv_ior hx hb dX7_doers_141 ?_
                refine lv_topi (fun x53 ex53 => ?_)
                have h := nm_y h x53 ex53
                refine lv_istore_n (lv' := [(3, .int x53), (7, .int 1), (6, .int 1), (5, .int r3), (0, .ref (gad z a)), (1, .int u1), (2, .int u2), (4, .int w4)]) hx hb dX7_doers_142 rfl hl (by decide) rfl (fun ls hl => ?_)
                refine lv_iinc (v := (w4 + 1)) (lv' := [(4, .int (w4 + 1)), (3, .int x53), (7, .int 1), (6, .int 1), (5, .int r3), (0, .ref (gad z a)), (1, .int u1), (2, .int u2)]) hx hb dX7_doers_143 hl (k := 7) rfl rfl (by decide) rfl (fun ls hl => ?_)
                refine lv_goto (tgt := 32) hx hb dX7_doers_146 (by decide) ?_
                exact ih r47.2 x53 (w4 + 1) _ _ _ h hG hS (lv_sub hl [5, 6, 7, 1, 0] rfl)
              · have h := ite_n h q52
                refine lv_iconst (v := 1) hx hb dX7_doers_133 (by decide) ?_
                refine lv_iload hx hb dX7_doers_134 (lv_at hl 7 rfl) ?_
                refine lv_ishl hx hb dX7_doers_136 ?_
                refine lv_goto (tgt := 141) hx hb dX7_doers_137 (by decide) ?_
                refine lv_ior hx hb dX7_doers_141 ?_
                refine lv_topi (fun x54 ex54 => ?_)
                have h := nm_y h x54 ex54
                refine lv_istore_n (lv' := [(3, .int x54), (7, .int 1), (6, .int 1), (5, .int r3), (0, .ref (gad z a)), (1, .int u1), (2, .int u2), (4, .int w4)]) hx hb dX7_doers_142 rfl hl (by decide) rfl (fun ls hl => ?_)
                refine lv_iinc (v := (w4 + 1)) (lv' := [(4, .int (w4 + 1)), (3, .int x54), (7, .int 1), (6, .int 1), (5, .int r3), (0, .ref (gad z a)), (1, .int u1), (2, .int u2)]) hx hb dX7_doers_143 hl (k := 7) rfl rfl (by decide) rfl (fun ls hl => ?_)
                refine lv_goto (tgt := 32) hx hb dX7_doers_146 (by decide) ?_
                exact ih r47.2 x54 (w4 + 1) _ _ _ h hG hS (lv_sub hl [5, 6, 7, 1, 0] rfl)
set_option maxRecDepth 100000 in
set_option maxHeartbeats 4000000 in
theorem ct_X7_doers (l : Launch) (z : gZ) {N : Nat} {M : Mem} {a : Nat} {v1 : Int32} {v2 : Int32} {o : Int32 × Mem} (k_a : kd a = 7) (n_a : a + 59 ≤ gn z) (h : fX7_doers N M a v1 v2 = some o) : CtI l z yX7_doers cX7_doers 8 (some .int) { frames := 3, cells := 0, slots := 0, locals := 75 } [.ref (gad z a), .int v1, .int v2] M o.1 o.2 := by
  refine Ct_of rfl (Nat.le_of_ble_eq_true rfl) ?_
  intro p e s m below meth c ls X hr hlk hG hS hl
  have X : gX p m c _ _ s _ RX7 z := X
  have hl : lv_has ls 8 [(0, .ref (gad z a)), (1, .int v1), (2, .int v2)] := hl
  have hx := X.1
  have hb := X.2.1
  unfold fX7_doers at h
  refine lv_aload_n hx hb dX7_doers_0 rfl (lv_at hl 0 rfl) ?_
  refine lv_iload_n hx hb dX7_doers_1 rfl (lv_at hl 1 rfl) ?_
  obtain ⟨r1, hcr1, h⟩ := bd_y h
  refine g_cVI (a := a) (ci := 7) (T := TX7) (N := 37) (av := [.int v1]) (rest := []) X hG hS (ct_X7_isStreet l z k_a n_a hcr1) mt_X7_isStreet ml_X7_92 rfl ⟨rfl, rfl, Nat.le_of_ble_eq_true rfl, Nat.le_of_ble_eq_true rfl⟩ ⟨Nat.le_refl 0, Nat.le_refl 0⟩ (nx_0 n_a) k_a (by decide) rfl hl.1 (Nat.le_of_ble_eq_true rfl) rfl dX7_doers_2 (fun H locs hG hS => ?_)
  refine lv_if_eq (tgt := 20) hx hb dX7_doers_5 (by decide) (fun q2 => ?_) (fun q2 => ?_)
  · have h := ite_y h q2
    refine lv_aload_n hx hb dX7_doers_20 rfl (lv_at hl 0 rfl) ?_
    refine lv_bipush (v := (-2)) hx hb dX7_doers_21 (by decide) ?_
    obtain ⟨r3, hcr3, h⟩ := bd_y h
    refine g_cVI (a := a) (ci := 7) (T := TX7) (N := 37) (av := [.int (-2)]) (rest := []) X hG hS (ct_X7_refuse l z k_a n_a hcr3) mt_X7_refuse ml_X7_106 rfl ⟨rfl, rfl, Nat.le_of_ble_eq_true rfl, Nat.le_of_ble_eq_true rfl⟩ ⟨Nat.le_refl 0, Nat.le_refl 0⟩ (nx_0 n_a) k_a (by decide) rfl hl.1 (Nat.le_of_ble_eq_true rfl) rfl dX7_doers_23 (fun H locs hG hS => ?_)
    obtain rfl := Option.some.inj h
    exact g_iret X hr hlk hG hS dX7_doers_26
  · have h := ite_n h q2
    refine lv_iload_n hx hb dX7_doers_8 rfl (lv_at hl 2 rfl) ?_
    refine lv_i2l hx hb dX7_doers_9 rfl ?_
    refine lv_lconst (v := 0) hx hb dX7_doers_10 (by decide) ?_
    refine lv_ldc2 (v := 999) hx hb X.2.2.2.1 (X.2.2.2.2.1 _ cn_X7_311) dX7_doers_11 ?_
    obtain ⟨r4, hcr4, h⟩ := bd_y h
    refine g_cSI (av := [.long ((v2 : Int32).toInt64), .long 0, .long 999]) (rest := []) X hG hS (ct_X7_in l z  hcr4) mt_X7_in ml_X7_88 rfl ⟨rfl, rfl, Nat.le_of_ble_eq_true rfl, Nat.le_of_ble_eq_true rfl⟩ ⟨Nat.le_refl 0, Nat.le_refl 0⟩ hl.1 (Nat.le_of_ble_eq_true rfl) rfl dX7_doers_14 (fun H locs hG hS => ?_)
    refine lv_if_ne (tgt := 27) hx hb dX7_doers_17 (by decide) (fun q5 => ?_) (fun q5 => ?_)
    · have h := ite_n h q5
      refine lv_iconst (v := 0) hx hb dX7_doers_27 (by decide) ?_
      refine lv_istore_n (lv' := [(3, .int 0), (0, .ref (gad z a)), (1, .int v1), (2, .int v2)]) hx hb dX7_doers_28 rfl hl (by decide) rfl (fun ls hl => ?_)
      refine lv_iconst (v := 0) hx hb dX7_doers_29 (by decide) ?_
      refine lv_istore (lv' := [(4, .int 0), (3, .int 0), (0, .ref (gad z a)), (1, .int v1), (2, .int v2)]) hx hb dX7_doers_30 hl (by decide) rfl (fun ls hl => ?_)
      refine wX7_doers_32 X hr hlk k_a n_a _ _ _ _ _ _ _ h hG hS (lv_sub hl [2, 3, 4, 1, 0] rfl)
    · have h := ite_y h q5
      refine lv_aload_n hx hb dX7_doers_20 rfl (lv_at hl 0 rfl) ?_
      refine lv_bipush (v := (-2)) hx hb dX7_doers_21 (by decide) ?_
      obtain ⟨r55, hcr55, h⟩ := bd_y h
      refine g_cVI (a := a) (ci := 7) (T := TX7) (N := 37) (av := [.int (-2)]) (rest := []) X hG hS (ct_X7_refuse l z k_a n_a hcr55) mt_X7_refuse ml_X7_106 rfl ⟨rfl, rfl, Nat.le_of_ble_eq_true rfl, Nat.le_of_ble_eq_true rfl⟩ ⟨Nat.le_refl 0, Nat.le_refl 0⟩ (nx_0 n_a) k_a (by decide) rfl hl.1 (Nat.le_of_ble_eq_true rfl) rfl dX7_doers_23 (fun H locs hG hS => ?_)
      obtain rfl := Option.some.inj h
      exact g_iret X hr hlk hG hS dX7_doers_26
set_option maxRecDepth 100000 in
set_option maxHeartbeats 4000000 in
theorem wX7_hourOf_6 {N : Nat} {p : Program} {l : Launch} {e : Env} {s : State} {m : MethodId} {args : Array Value} {below : List Frame} {meth : Method} {c : Code} {z : gZ} {M : Mem} {a : Nat} {u1 : Int32} {u3 : Int32} {o : Int32} (X : gX p m c cX7_hourOf 6 s args RX7 z) (hr : meth.sig.returnType = (some .int)) (hlk : meth.locks = false) (k_a : kd a = 7) (n_a : a + 59 ≤ gn z)  : ∀ (n : Nat) (w4 : Int32) (w5 : Int32) (H : Heap) (locs : List Loc) (ls : Array Slot), fX7_hourOf_6 N M a u1 u3  n w4 w5 = some o → gW z M H → va_S (gA z) s.heap H locs → lv_has ls 6 [(0, .ref (gad z a)), (1, .int u1), (3, .int u3), (4, .int w4), (5, .int w5)] → W p l e { frames := 3, cells := 0, slots := 0, locals := 75 } s m args below meth c H locs 0 0 (MQ below (va_Qi (fun r' (_ : Unit) => r' = o) (fun _ t => gW z M t.heap) (gA z)) args s 0 0 (gA z)) (F0 m 6 ls []) := by
  have hx := X.1
  have hb := X.2.1
  intro n
  induction n with
  | zero => intro w4 w5 H locs ls h; cases h
  | succ n ih =>
    intro w4 w5 H locs ls h hG hS hl
    rw [fX7_hourOf_6] at h
    refine lv_iload hx hb dX7_hourOf_6 (lv_at hl 4 rfl) ?_
    refine lv_aload_n hx hb dX7_hourOf_8 rfl (lv_at hl 0 rfl) ?_
    refine gf_X7_11 X hG (nx_0 n_a) k_a fl_X7_40 dX7_hourOf_9 ?_
    refine lv_iload_n hx hb dX7_hourOf_12 rfl (lv_at hl 1 rfl) ?_
    obtain ⟨i1, h⟩ := gd_y h
    refine g_iald X hG (nx_a (a := a) (k := 18) (n := 59) n_a (Nat.le_of_ble_eq_true rfl)) (kx_7_18 k_a) (by decide) i1 dX7_hourOf_13 ?_
    refine lv_icmp_ge (tgt := 47) hx hb dX7_hourOf_14 (by decide) (fun q2 => ?_) (fun q2 => ?_)
    · have h := ite_y h q2
      refine lv_iload hx hb dX7_hourOf_47 (lv_at hl 3 rfl) ?_
      obtain rfl := Option.some.inj h
      exact g_iret X hr hlk hG hS dX7_hourOf_49
    · have h := ite_n h q2
      refine lv_iload hx hb dX7_hourOf_17 (lv_at hl 3 rfl) ?_
      refine lv_i2l hx hb dX7_hourOf_19 rfl ?_
      refine lv_sipush (v := 1000) hx hb dX7_hourOf_20 (by decide) ?_
      refine lv_aload_n hx hb dX7_hourOf_23 rfl (lv_at hl 0 rfl) ?_
      refine lv_iload_n hx hb dX7_hourOf_24 rfl (lv_at hl 1 rfl) ?_
      refine lv_iload hx hb dX7_hourOf_25 (lv_at hl 4 rfl) ?_
      refine lv_iload_n hx hb dX7_hourOf_27 rfl (lv_at hl 2 rfl) ?_
      obtain ⟨r3, hcr3, h⟩ := bd_y h
      refine g_cVI (a := a) (ci := 7) (T := TX7) (N := 37) (av := [.int u1, .int w5, .int u3]) (rest := [.int 1000, .long ((w4 : Int32).toInt64)]) X hG hS (ct_X7_thousandths l z k_a n_a hcr3) mt_X7_thousandths ml_X7_313 rfl ⟨rfl, rfl, Nat.le_of_ble_eq_true rfl, Nat.le_of_ble_eq_true rfl⟩ ⟨Nat.le_refl 0, Nat.le_refl 0⟩ (nx_0 n_a) k_a (by decide) rfl hl.1 (Nat.le_of_ble_eq_true rfl) rfl dX7_hourOf_28 (fun H locs hG hS => ?_)
      refine lv_isub hx hb dX7_hourOf_31 ?_
      refine lv_i2l hx hb dX7_hourOf_32 rfl ?_
      refine lv_lmul hx hb dX7_hourOf_33 ?_
      refine lv_ldc2 (v := 1000) hx hb X.2.2.2.1 (X.2.2.2.2.1 _ cn_X7_113) dX7_hourOf_34 ?_
      refine lv_ldiv hx hb dX7_hourOf_37 (by decide) ?_
      refine lv_l2i hx hb dX7_hourOf_38 rfl ?_
      refine lv_topi (fun x4 ex4 => ?_)
      have h := nm_y h x4 ex4
      refine lv_istore (lv' := [(4, .int x4), (0, .ref (gad z a)), (1, .int u1), (3, .int u3), (5, .int w5)]) hx hb dX7_hourOf_39 hl (by decide) rfl (fun ls hl => ?_)
      refine lv_iinc (v := (w5 + 1)) (lv' := [(5, .int (w5 + 1)), (4, .int x4), (0, .ref (gad z a)), (1, .int u1), (3, .int u3)]) hx hb dX7_hourOf_41 hl (k := 4) rfl rfl (by decide) rfl (fun ls hl => ?_)
      refine lv_goto (tgt := 6) hx hb dX7_hourOf_44 (by decide) ?_
      exact ih x4 (w5 + 1) _ _ _ h hG hS (lv_sub hl [2, 3, 4, 1, 0] rfl)
set_option maxRecDepth 100000 in
set_option maxHeartbeats 4000000 in
theorem ct_X7_hourOf (l : Launch) (z : gZ) {N : Nat} {M : Mem} {a : Nat} {v1 : Int32} {v2 : Int32} {v3 : Int32} {o : Int32} (k_a : kd a = 7) (n_a : a + 59 ≤ gn z) (h : fX7_hourOf N M a v1 v2 v3 = some o) : CtI l z yX7_hourOf cX7_hourOf 6 (some .int) { frames := 3, cells := 0, slots := 0, locals := 75 } [.ref (gad z a), .int v1, .int v2, .int v3] M o M := by
  refine Ct_of rfl (Nat.le_of_ble_eq_true rfl) ?_
  intro p e s m below meth c ls X hr hlk hG hS hl
  have X : gX p m c _ _ s _ RX7 z := X
  have hl : lv_has ls 6 [(0, .ref (gad z a)), (1, .int v1), (2, .int v2), (3, .int v3)] := hl
  have hx := X.1
  have hb := X.2.1
  unfold fX7_hourOf at h
  refine lv_iload_n hx hb dX7_hourOf_0 rfl (lv_at hl 2 rfl) ?_
  refine lv_istore (lv' := [(4, .int v2), (0, .ref (gad z a)), (1, .int v1), (2, .int v2), (3, .int v3)]) hx hb dX7_hourOf_1 hl (by decide) rfl (fun ls hl => ?_)
  refine lv_iconst (v := 0) hx hb dX7_hourOf_3 (by decide) ?_
  refine lv_istore (lv' := [(5, .int 0), (4, .int v2), (0, .ref (gad z a)), (1, .int v1), (2, .int v2), (3, .int v3)]) hx hb dX7_hourOf_4 hl (by decide) rfl (fun ls hl => ?_)
  refine wX7_hourOf_6 X hr hlk k_a n_a _ _ _ _ _ _ h hG hS (lv_sub hl [2, 3, 5, 1, 0] rfl)
set_option maxRecDepth 100000 in
set_option maxHeartbeats 4000000 in
theorem wX7_light_34 {N : Nat} {p : Program} {l : Launch} {e : Env} {s : State} {m : MethodId} {args : Array Value} {below : List Frame} {meth : Method} {c : Code} {z : gZ} {M : Mem} {a : Nat} {u1 : Int32} {u2 : Int32} {o : Int32 × Mem} (X : gX p m c cX7_light 5 s args RX7 z) (hr : meth.sig.returnType = (some .int)) (hlk : meth.locks = false) (k_a : kd a = 7) (n_a : a + 59 ≤ gn z)  : ∀ (n : Nat) (w3 : Int32) (w4 : Int32) (H : Heap) (locs : List Loc) (ls : Array Slot), fX7_light_34 N M a u1 u2  n w3 w4 = some o → gW z M H → va_S (gA z) s.heap H locs → lv_has ls 5 [(0, .ref (gad z a)), (1, .int u1), (2, .int u2), (3, .int w3), (4, .int w4)] → W p l e { frames := 4, cells := 0, slots := 0, locals := 100 } s m args below meth c H locs 0 0 (MQ below (va_Qi (fun r' (_ : Unit) => r' = o.1) (fun _ t => gW z o.2 t.heap) (gA z)) args s 0 0 (gA z)) (F0 m 34 ls []) := by
  have hx := X.1
  have hb := X.2.1
  intro n
  induction n with
  | zero => intro w3 w4 H locs ls h; cases h
  | succ n ih =>
    intro w3 w4 H locs ls h hG hS hl
    rw [fX7_light_34] at h
    refine lv_iload hx hb dX7_light_34 (lv_at hl 4 rfl) ?_
    refine lv_iload_n hx hb dX7_light_36 rfl (lv_at hl 2 rfl) ?_
    refine lv_icmp_gt (tgt := 55) hx hb dX7_light_37 (by decide) (fun q1 => ?_) (fun q1 => ?_)
    · have h := ite_y h q1
      refine lv_iload_n hx hb dX7_light_55 rfl (lv_at hl 3 rfl) ?_
      obtain rfl := Option.some.inj h
      exact g_iret X hr hlk hG hS dX7_light_56
    · have h := ite_n h q1
      refine lv_aload_n hx hb dX7_light_40 rfl (lv_at hl 0 rfl) ?_
      refine lv_iload_n hx hb dX7_light_41 rfl (lv_at hl 1 rfl) ?_
      refine lv_iload_n hx hb dX7_light_42 rfl (lv_at hl 3 rfl) ?_
      refine lv_iload hx hb dX7_light_43 (lv_at hl 4 rfl) ?_
      obtain ⟨r2, hcr2, h⟩ := bd_y h
      refine g_cVI (a := a) (ci := 7) (T := TX7) (N := 37) (av := [.int u1, .int w3, .int w4]) (rest := []) X hG hS (ct_X7_hourOf l z k_a n_a hcr2) mt_X7_hourOf ml_X7_320 rfl ⟨rfl, rfl, Nat.le_of_ble_eq_true rfl, Nat.le_of_ble_eq_true rfl⟩ ⟨Nat.le_refl 0, Nat.le_refl 0⟩ (nx_0 n_a) k_a (by decide) rfl hl.1 (Nat.le_of_ble_eq_true rfl) rfl dX7_light_45 (fun H locs hG hS => ?_)
      refine lv_istore_n (lv' := [(3, .int r2), (0, .ref (gad z a)), (1, .int u1), (2, .int u2), (4, .int w4)]) hx hb dX7_light_48 rfl hl (by decide) rfl (fun ls hl => ?_)
      refine lv_iinc (v := (w4 + 1)) (lv' := [(4, .int (w4 + 1)), (3, .int r2), (0, .ref (gad z a)), (1, .int u1), (2, .int u2)]) hx hb dX7_light_49 hl (k := 4) rfl rfl (by decide) rfl (fun ls hl => ?_)
      refine lv_goto (tgt := 34) hx hb dX7_light_52 (by decide) ?_
      exact ih r2 (w4 + 1) _ _ _ h hG hS (lv_sub hl [2, 3, 4, 1, 0] rfl)
set_option maxRecDepth 100000 in
set_option maxHeartbeats 4000000 in
theorem ct_X7_light (l : Launch) (z : gZ) {N : Nat} {M : Mem} {a : Nat} {v1 : Int32} {v2 : Int32} {o : Int32 × Mem} (k_a : kd a = 7) (n_a : a + 59 ≤ gn z) (h : fX7_light N M a v1 v2 = some o) : CtI l z yX7_light cX7_light 5 (some .int) { frames := 4, cells := 0, slots := 0, locals := 100 } [.ref (gad z a), .int v1, .int v2] M o.1 o.2 := by
  refine Ct_of rfl (Nat.le_of_ble_eq_true rfl) ?_
  intro p e s m below meth c ls X hr hlk hG hS hl
  have X : gX p m c _ _ s _ RX7 z := X
  have hl : lv_has ls 5 [(0, .ref (gad z a)), (1, .int v1), (2, .int v2)] := hl
  have hx := X.1
  have hb := X.2.1
  unfold fX7_light at h
  refine lv_aload_n hx hb dX7_light_0 rfl (lv_at hl 0 rfl) ?_
  refine lv_iload_n hx hb dX7_light_1 rfl (lv_at hl 1 rfl) ?_
  obtain ⟨r1, hcr1, h⟩ := bd_y h
  refine g_cVI (a := a) (ci := 7) (T := TX7) (N := 37) (av := [.int v1]) (rest := []) X hG hS (ct_X7_isStreet l z k_a n_a hcr1) mt_X7_isStreet ml_X7_92 rfl ⟨rfl, rfl, Nat.le_of_ble_eq_true rfl, Nat.le_of_ble_eq_true rfl⟩ ⟨Nat.le_refl 0, Nat.le_refl 0⟩ (nx_0 n_a) k_a (by decide) rfl hl.1 (Nat.le_of_ble_eq_true rfl) rfl dX7_light_2 (fun H locs hG hS => ?_)
  refine lv_if_eq (tgt := 20) hx hb dX7_light_5 (by decide) (fun q2 => ?_) (fun q2 => ?_)
  · have h := ite_y h q2
    refine lv_aload_n hx hb dX7_light_20 rfl (lv_at hl 0 rfl) ?_
    refine lv_bipush (v := (-2)) hx hb dX7_light_21 (by decide) ?_
    obtain ⟨r3, hcr3, h⟩ := bd_y h
    refine g_cVI (a := a) (ci := 7) (T := TX7) (N := 37) (av := [.int (-2)]) (rest := []) X hG hS (ct_X7_refuse l z k_a n_a hcr3) mt_X7_refuse ml_X7_106 rfl ⟨rfl, rfl, Nat.le_of_ble_eq_true rfl, Nat.le_of_ble_eq_true rfl⟩ ⟨Nat.le_refl 0, Nat.le_refl 0⟩ (nx_0 n_a) k_a (by decide) rfl hl.1 (Nat.le_of_ble_eq_true rfl) rfl dX7_light_23 (fun H locs hG hS => ?_)
    obtain rfl := Option.some.inj h
    exact g_iret X hr hlk hG hS dX7_light_26
  · have h := ite_n h q2
    refine lv_iload_n hx hb dX7_light_8 rfl (lv_at hl 2 rfl) ?_
    refine lv_i2l hx hb dX7_light_9 rfl ?_
    refine lv_lconst (v := 1) hx hb dX7_light_10 (by decide) ?_
    refine lv_ldc2 (v := 99) hx hb X.2.2.2.1 (X.2.2.2.2.1 _ cn_X7_233) dX7_light_11 ?_
    obtain ⟨r4, hcr4, h⟩ := bd_y h
    refine g_cSI (av := [.long ((v2 : Int32).toInt64), .long 1, .long 99]) (rest := []) X hG hS (ct_X7_in l z  hcr4) mt_X7_in ml_X7_88 rfl ⟨rfl, rfl, Nat.le_of_ble_eq_true rfl, Nat.le_of_ble_eq_true rfl⟩ ⟨Nat.le_refl 0, Nat.le_refl 0⟩ hl.1 (Nat.le_of_ble_eq_true rfl) rfl dX7_light_14 (fun H locs hG hS => ?_)
    refine lv_if_ne (tgt := 27) hx hb dX7_light_17 (by decide) (fun q5 => ?_) (fun q5 => ?_)
    · have h := ite_n h q5
      refine lv_ldcw (v := 1000000) hx hb X.2.2.2.1 (X.2.2.2.2.1 _ cn_X7_319) dX7_light_27 ?_
      refine lv_istore_n (lv' := [(3, .int 1000000), (0, .ref (gad z a)), (1, .int v1), (2, .int v2)]) hx hb dX7_light_30 rfl hl (by decide) rfl (fun ls hl => ?_)
      refine lv_iconst (v := 1) hx hb dX7_light_31 (by decide) ?_
      refine lv_istore (lv' := [(4, .int 1), (3, .int 1000000), (0, .ref (gad z a)), (1, .int v1), (2, .int v2)]) hx hb dX7_light_32 hl (by decide) rfl (fun ls hl => ?_)
      refine wX7_light_34 X hr hlk k_a n_a _ _ _ _ _ _ h hG hS (lv_sub hl [2, 3, 4, 1, 0] rfl)
    · have h := ite_y h q5
      refine lv_aload_n hx hb dX7_light_20 rfl (lv_at hl 0 rfl) ?_
      refine lv_bipush (v := (-2)) hx hb dX7_light_21 (by decide) ?_
      obtain ⟨r6, hcr6, h⟩ := bd_y h
      refine g_cVI (a := a) (ci := 7) (T := TX7) (N := 37) (av := [.int (-2)]) (rest := []) X hG hS (ct_X7_refuse l z k_a n_a hcr6) mt_X7_refuse ml_X7_106 rfl ⟨rfl, rfl, Nat.le_of_ble_eq_true rfl, Nat.le_of_ble_eq_true rfl⟩ ⟨Nat.le_refl 0, Nat.le_refl 0⟩ (nx_0 n_a) k_a (by decide) rfl hl.1 (Nat.le_of_ble_eq_true rfl) rfl dX7_light_23 (fun H locs hG hS => ?_)
      obtain rfl := Option.some.inj h
      exact g_iret X hr hlk hG hS dX7_light_26
set_option maxRecDepth 100000 in
set_option maxHeartbeats 4000000 in
theorem wX7_late_34 {N : Nat} {p : Program} {l : Launch} {e : Env} {s : State} {m : MethodId} {args : Array Value} {below : List Frame} {meth : Method} {c : Code} {z : gZ} {M : Mem} {a : Nat} {u1 : Int32} {u2 : Int32} {o : Int32 × Mem} (X : gX p m c cX7_late 5 s args RX7 z) (hr : meth.sig.returnType = (some .int)) (hlk : meth.locks = false) (k_a : kd a = 7) (n_a : a + 59 ≤ gn z)  : ∀ (n : Nat) (w3 : Int32) (w4 : Int32) (H : Heap) (locs : List Loc) (ls : Array Slot), fX7_late_34 N M a u1 u2  n w3 w4 = some o → gW z M H → va_S (gA z) s.heap H locs → lv_has ls 5 [(0, .ref (gad z a)), (1, .int u1), (2, .int u2), (3, .int w3), (4, .int w4)] → W p l e { frames := 4, cells := 0, slots := 0, locals := 100 } s m args below meth c H locs 0 0 (MQ below (va_Qi (fun r' (_ : Unit) => r' = o.1) (fun _ t => gW z o.2 t.heap) (gA z)) args s 0 0 (gA z)) (F0 m 34 ls []) := by
  have hx := X.1
  have hb := X.2.1
  intro n
  induction n with
  | zero => intro w3 w4 H locs ls h; cases h
  | succ n ih =>
    intro w3 w4 H locs ls h hG hS hl
    rw [fX7_late_34] at h
    refine lv_iload hx hb dX7_late_34 (lv_at hl 4 rfl) ?_
    refine lv_bipush (v := 99) hx hb dX7_late_36 (by decide) ?_
    refine lv_icmp_gt (tgt := 64) hx hb dX7_late_38 (by decide) (fun q1 => ?_) (fun q1 => ?_)
    · have h := ite_y h q1
      refine lv_iconst (v := (-1)) hx hb dX7_late_64 (by decide) ?_
      obtain rfl := Option.some.inj h
      exact g_iret X hr hlk hG hS dX7_late_65
    · have h := ite_n h q1
      refine lv_aload_n hx hb dX7_late_41 rfl (lv_at hl 0 rfl) ?_
      refine lv_iload_n hx hb dX7_late_42 rfl (lv_at hl 1 rfl) ?_
      refine lv_iload_n hx hb dX7_late_43 rfl (lv_at hl 3 rfl) ?_
      refine lv_iload hx hb dX7_late_44 (lv_at hl 4 rfl) ?_
      obtain ⟨r2, hcr2, h⟩ := bd_y h
      refine g_cVI (a := a) (ci := 7) (T := TX7) (N := 37) (av := [.int u1, .int w3, .int w4]) (rest := []) X hG hS (ct_X7_hourOf l z k_a n_a hcr2) mt_X7_hourOf ml_X7_320 rfl ⟨rfl, rfl, Nat.le_of_ble_eq_true rfl, Nat.le_of_ble_eq_true rfl⟩ ⟨Nat.le_refl 0, Nat.le_refl 0⟩ (nx_0 n_a) k_a (by decide) rfl hl.1 (Nat.le_of_ble_eq_true rfl) rfl dX7_late_46 (fun H locs hG hS => ?_)
      refine lv_istore_n (lv' := [(3, .int r2), (0, .ref (gad z a)), (1, .int u1), (2, .int u2), (4, .int w4)]) hx hb dX7_late_49 rfl hl (by decide) rfl (fun ls hl => ?_)
      refine lv_iload_n hx hb dX7_late_50 rfl (lv_at hl 0 rfl) ?_
      refine lv_iload_n hx hb dX7_late_51 rfl (lv_at hl 3 rfl) ?_
      refine lv_icmp_gt (tgt := 58) hx hb dX7_late_52 (by decide) (fun q3 => ?_) (fun q3 => ?_)
      · have h := ite_y h q3
        refine lv_iinc (v := (w4 + 1)) (lv' := [(4, .int (w4 + 1)), (3, .int r2), (0, .ref (gad z a)), (1, .int u1), (2, .int u2)]) hx hb dX7_late_58 hl (k := 4) rfl rfl (by decide) rfl (fun ls hl => ?_)
        refine lv_goto (tgt := 34) hx hb dX7_late_61 (by decide) ?_
        exact ih r2 (w4 + 1) _ _ _ h hG hS (lv_sub hl [2, 3, 4, 1, 0] rfl)
      · have h := ite_n h q3
        refine lv_iload hx hb dX7_late_55 (lv_at hl 4 rfl) ?_
        obtain rfl := Option.some.inj h
        exact g_iret X hr hlk hG hS dX7_late_57
set_option maxRecDepth 100000 in
set_option maxHeartbeats 4000000 in
theorem ct_X7_late (l : Launch) (z : gZ) {N : Nat} {M : Mem} {a : Nat} {v1 : Int32} {v2 : Int32} {o : Int32 × Mem} (k_a : kd a = 7) (n_a : a + 59 ≤ gn z) (h : fX7_late N M a v1 v2 = some o) : CtI l z yX7_late cX7_late 5 (some .int) { frames := 4, cells := 0, slots := 0, locals := 100 } [.ref (gad z a), .int v1, .int v2] M o.1 o.2 := by
  refine Ct_of rfl (Nat.le_of_ble_eq_true rfl) ?_
  intro p e s m below meth c ls X hr hlk hG hS hl
  have X : gX p m c _ _ s _ RX7 z := X
  have hl : lv_has ls 5 [(0, .ref (gad z a)), (1, .int v1), (2, .int v2)] := hl
  have hx := X.1
  have hb := X.2.1
  unfold fX7_late at h
  refine lv_aload_n hx hb dX7_late_0 rfl (lv_at hl 0 rfl) ?_
  refine lv_iload_n hx hb dX7_late_1 rfl (lv_at hl 1 rfl) ?_
  obtain ⟨r1, hcr1, h⟩ := bd_y h
  refine g_cVI (a := a) (ci := 7) (T := TX7) (N := 37) (av := [.int v1]) (rest := []) X hG hS (ct_X7_isStreet l z k_a n_a hcr1) mt_X7_isStreet ml_X7_92 rfl ⟨rfl, rfl, Nat.le_of_ble_eq_true rfl, Nat.le_of_ble_eq_true rfl⟩ ⟨Nat.le_refl 0, Nat.le_refl 0⟩ (nx_0 n_a) k_a (by decide) rfl hl.1 (Nat.le_of_ble_eq_true rfl) rfl dX7_late_2 (fun H locs hG hS => ?_)
  refine lv_if_eq (tgt := 20) hx hb dX7_late_5 (by decide) (fun q2 => ?_) (fun q2 => ?_)
  · have h := ite_y h q2
    refine lv_aload_n hx hb dX7_late_20 rfl (lv_at hl 0 rfl) ?_
    refine lv_bipush (v := (-2)) hx hb dX7_late_21 (by decide) ?_
    obtain ⟨r3, hcr3, h⟩ := bd_y h
    refine g_cVI (a := a) (ci := 7) (T := TX7) (N := 37) (av := [.int (-2)]) (rest := []) X hG hS (ct_X7_refuse l z k_a n_a hcr3) mt_X7_refuse ml_X7_106 rfl ⟨rfl, rfl, Nat.le_of_ble_eq_true rfl, Nat.le_of_ble_eq_true rfl⟩ ⟨Nat.le_refl 0, Nat.le_refl 0⟩ (nx_0 n_a) k_a (by decide) rfl hl.1 (Nat.le_of_ble_eq_true rfl) rfl dX7_late_23 (fun H locs hG hS => ?_)
    obtain rfl := Option.some.inj h
    exact g_iret X hr hlk hG hS dX7_late_26
  · have h := ite_n h q2
    refine lv_iload_n hx hb dX7_late_8 rfl (lv_at hl 2 rfl) ?_
    refine lv_i2l hx hb dX7_late_9 rfl ?_
    refine lv_lconst (v := 0) hx hb dX7_late_10 (by decide) ?_
    refine lv_ldc2 (v := 1000000) hx hb X.2.2.2.1 (X.2.2.2.2.1 _ cn_X7_323) dX7_late_11 ?_
    obtain ⟨r4, hcr4, h⟩ := bd_y h
    refine g_cSI (av := [.long ((v2 : Int32).toInt64), .long 0, .long 1000000]) (rest := []) X hG hS (ct_X7_in l z  hcr4) mt_X7_in ml_X7_88 rfl ⟨rfl, rfl, Nat.le_of_ble_eq_true rfl, Nat.le_of_ble_eq_true rfl⟩ ⟨Nat.le_refl 0, Nat.le_refl 0⟩ hl.1 (Nat.le_of_ble_eq_true rfl) rfl dX7_late_14 (fun H locs hG hS => ?_)
    refine lv_if_ne (tgt := 27) hx hb dX7_late_17 (by decide) (fun q5 => ?_) (fun q5 => ?_)
    · have h := ite_n h q5
      refine lv_ldcw (v := 1000000) hx hb X.2.2.2.1 (X.2.2.2.2.1 _ cn_X7_319) dX7_late_27 ?_
      refine lv_istore_n (lv' := [(3, .int 1000000), (0, .ref (gad z a)), (1, .int v1), (2, .int v2)]) hx hb dX7_late_30 rfl hl (by decide) rfl (fun ls hl => ?_)
      refine lv_iconst (v := 1) hx hb dX7_late_31 (by decide) ?_
      refine lv_istore (lv' := [(4, .int 1), (3, .int 1000000), (0, .ref (gad z a)), (1, .int v1), (2, .int v2)]) hx hb dX7_late_32 hl (by decide) rfl (fun ls hl => ?_)
      refine wX7_late_34 X hr hlk k_a n_a _ _ _ _ _ _ h hG hS (lv_sub hl [2, 3, 4, 1, 0] rfl)
    · have h := ite_y h q5
      refine lv_aload_n hx hb dX7_late_20 rfl (lv_at hl 0 rfl) ?_
      refine lv_bipush (v := (-2)) hx hb dX7_late_21 (by decide) ?_
      obtain ⟨r6, hcr6, h⟩ := bd_y h
      refine g_cVI (a := a) (ci := 7) (T := TX7) (N := 37) (av := [.int (-2)]) (rest := []) X hG hS (ct_X7_refuse l z k_a n_a hcr6) mt_X7_refuse ml_X7_106 rfl ⟨rfl, rfl, Nat.le_of_ble_eq_true rfl, Nat.le_of_ble_eq_true rfl⟩ ⟨Nat.le_refl 0, Nat.le_refl 0⟩ (nx_0 n_a) k_a (by decide) rfl hl.1 (Nat.le_of_ble_eq_true rfl) rfl dX7_late_23 (fun H locs hG hS => ?_)
      obtain rfl := Option.some.inj h
      exact g_iret X hr hlk hG hS dX7_late_26
set_option maxRecDepth 100000 in
set_option maxHeartbeats 4000000 in
theorem wX7_over_2 {N : Nat} {p : Program} {l : Launch} {e : Env} {s : State} {m : MethodId} {args : Array Value} {below : List Frame} {meth : Method} {c : Code} {z : gZ} {b0 : Nat} {b1 : Nat} {len0 : Nat} {len1 : Nat} {o : Mem} (X : gX p m c cX7_over 3 s args RX7 z) (hr : meth.sig.returnType = none) (hlk : meth.locks = false) (k_b0 : kd b0 = 10000 + len0) (n_b0 : b0 < gn z) (l_b0 : len0 < 10000) (k_b1 : kd b1 = 10000 + len1) (n_b1 : b1 < gn z) (l_b1 : len1 < 10000)  : ∀ (n : Nat) (Mw : Mem) (w2 : Int32) (H : Heap) (locs : List Loc) (ls : Array Slot), fX7_over_2 N b0 b1 len0 len1  n Mw w2 = some o → gW z Mw H → va_S (gA z) s.heap H locs → lv_has ls 3 [(0, .ref (gad z b0)), (1, .ref (gad z b1)), (2, .int w2)] → W p l e { frames := 0, cells := 0, slots := 0, locals := 0 } s m args below meth c H locs 0 0 (MQ below (va_Qv (fun (_ : Unit) => True) (fun _ t => gW z o t.heap) (gA z)) args s 0 0 (gA z)) (F0 m 2 ls []) := by
  have hx := X.1
  have hb := X.2.1
  intro n
  induction n with
  | zero => intro Mw w2 H locs ls h; cases h
  | succ n ih =>
    intro Mw w2 H locs ls h hG hS hl
    rw [fX7_over_2] at h
    refine lv_iload_n hx hb dX7_over_2 rfl (lv_at hl 2 rfl) ?_
    refine lv_aload_n hx hb dX7_over_3 rfl (lv_at hl 0 rfl) ?_
    refine g_alenI X hG n_b0 k_b0 l_b0 dX7_over_4 ?_
    refine lv_icmp_ge (tgt := 20) hx hb dX7_over_5 (by decide) (fun q1 => ?_) (fun q1 => ?_)
    · have h := ite_y h q1
      obtain rfl := Option.some.inj h
      exact g_vret X hr hlk hG hS dX7_over_20
    · have h := ite_n h q1
      refine lv_aload_n hx hb dX7_over_8 rfl (lv_at hl 1 rfl) ?_
      refine lv_iload_n hx hb dX7_over_9 rfl (lv_at hl 2 rfl) ?_
      refine lv_aload_n hx hb dX7_over_10 rfl (lv_at hl 0 rfl) ?_
      refine lv_iload_n hx hb dX7_over_11 rfl (lv_at hl 2 rfl) ?_
      obtain ⟨i2, h⟩ := gd_y h
      refine g_iald X hG n_b0 k_b0 l_b0 i2 dX7_over_12 ?_
      obtain ⟨i3, h⟩ := gd_y h
      refine g_iast X hG hS n_b1 k_b1 l_b1 i3 dX7_over_13 (fun H locs hG hS => ?_)
      obtain ⟨M4, eM4⟩ : ∃ y, y = sI Mw b1 (w2 : Int32).toNatClampNeg (Mw.1 b0 (w2 : Int32).toNatClampNeg) := ⟨_, rfl⟩
      rw [← eM4] at hG
      have h := nm_y h M4 eM4
      refine lv_iinc (v := (w2 + 1)) (lv' := [(2, .int (w2 + 1)), (0, .ref (gad z b0)), (1, .ref (gad z b1))]) hx hb dX7_over_14 hl (k := 2) rfl rfl (by decide) rfl (fun ls hl => ?_)
      refine lv_goto (tgt := 2) hx hb dX7_over_17 (by decide) ?_
      exact ih M4 (w2 + 1) _ _ _ h hG hS (lv_sub hl [1, 2, 0] rfl)
set_option maxRecDepth 100000 in
set_option maxHeartbeats 4000000 in
theorem ct_X7_over (l : Launch) (z : gZ) {N : Nat} {M : Mem} {len0 : Nat} {b0 : Nat} {len1 : Nat} {b1 : Nat} {o : Mem} (k_b0 : kd b0 = 10000 + len0) (n_b0 : b0 < gn z) (l_b0 : len0 < 10000) (k_b1 : kd b1 = 10000 + len1) (n_b1 : b1 < gn z) (l_b1 : len1 < 10000) (h : fX7_over N M len0 b0 len1 b1 = some o) : CtV l z yX7_over cX7_over 3 none { frames := 0, cells := 0, slots := 0, locals := 0 } [.ref (gad z b0), .ref (gad z b1)] M o := by
  refine Ct_of rfl (Nat.le_of_ble_eq_true rfl) ?_
  intro p e s m below meth c ls X hr hlk hG hS hl
  have X : gX p m c _ _ s _ RX7 z := X
  have hl : lv_has ls 3 [(0, .ref (gad z b0)), (1, .ref (gad z b1))] := hl
  have hx := X.1
  have hb := X.2.1
  unfold fX7_over at h
  refine lv_iconst (v := 0) hx hb dX7_over_0 (by decide) ?_
  refine lv_istore_n (lv' := [(2, .int 0), (0, .ref (gad z b0)), (1, .ref (gad z b1))]) hx hb dX7_over_1 rfl hl (by decide) rfl (fun ls hl => ?_)
  refine wX7_over_2 X hr hlk k_b0 n_b0 l_b0 k_b1 n_b1 l_b1 _ _ _ _ _ _ h hG hS (lv_sub hl [1, 2, 0] rfl)
set_option maxRecDepth 100000 in
set_option maxHeartbeats 4000000 in
theorem ct_X7_begin (l : Launch) (z : gZ) {N : Nat} {M : Mem} {a : Nat} {v1 : Int32} {o : Int32 × Mem} (k_a : kd a = 7) (n_a : a + 59 ≤ gn z) (h : fX7_begin N M a v1 = some o) : CtI l z yX7_begin cX7_begin 2 (some .int) { frames := 2, cells := 0, slots := 0, locals := 46 } [.ref (gad z a), .int v1] M o.1 o.2 := by
  refine Ct_of rfl (Nat.le_of_ble_eq_true rfl) ?_
  intro p e s m below meth c ls X hr hlk hG hS hl
  have X : gX p m c _ _ s _ RX7 z := X
  have hl : lv_has ls 2 [(0, .ref (gad z a)), (1, .int v1)] := hl
  have hx := X.1
  have hb := X.2.1
  unfold fX7_begin at h
  refine lv_aload_n hx hb dX7_begin_0 rfl (lv_at hl 0 rfl) ?_
  refine lv_iload_n hx hb dX7_begin_1 rfl (lv_at hl 1 rfl) ?_
  obtain ⟨r1, hcr1, h⟩ := bd_y h
  refine g_cVI (a := a) (ci := 7) (T := TX7) (N := 37) (av := [.int v1]) (rest := []) X hG hS (ct_X7_isStreet l z k_a n_a hcr1) mt_X7_isStreet ml_X7_92 rfl ⟨rfl, rfl, Nat.le_of_ble_eq_true rfl, Nat.le_of_ble_eq_true rfl⟩ ⟨Nat.le_refl 0, Nat.le_refl 0⟩ (nx_0 n_a) k_a (by decide) rfl hl.1 (Nat.le_of_ble_eq_true rfl) rfl dX7_begin_2 (fun H locs hG hS => ?_)
  refine lv_if_ne (tgt := 15) hx hb dX7_begin_5 (by decide) (fun q2 => ?_) (fun q2 => ?_)
  · have h := ite_n h q2
    refine lv_aload_n hx hb dX7_begin_15 rfl (lv_at hl 0 rfl) ?_
    refine gf_X7_11 X hG (nx_0 n_a) k_a fl_X7_40 dX7_begin_16 ?_
    refine lv_iconst (v := 4) hx hb dX7_begin_19 (by decide) ?_
    refine lv_aload_n hx hb dX7_begin_20 rfl (lv_at hl 0 rfl) ?_
    refine gf_X7_11 X hG (nx_0 n_a) k_a fl_X7_40 dX7_begin_21 ?_
    refine lv_iload_n hx hb dX7_begin_24 rfl (lv_at hl 1 rfl) ?_
    obtain ⟨i3, h⟩ := gd_y h
    refine g_iald X hG (nx_a (a := a) (k := 18) (n := 59) n_a (Nat.le_of_ble_eq_true rfl)) (kx_7_18 k_a) (by decide) i3 dX7_begin_25 ?_
    refine g_iast X hG hS (nx_a (a := a) (k := 18) (n := 59) n_a (Nat.le_of_ble_eq_true rfl)) (kx_7_18 k_a) (by decide) (vin_lit (i := 4) (n := 5) (by decide)) dX7_begin_26 (fun H locs hG hS => ?_)
    obtain ⟨M4, eM4⟩ : ∃ y, y = sI M (a + 18) (4 : Int32).toNatClampNeg (M.1 (a + 18) (v1 : Int32).toNatClampNeg) := ⟨_, rfl⟩
    rw [← eM4] at hG
    have h := nm_y h M4 eM4
    refine lv_aload_n hx hb dX7_begin_27 rfl (lv_at hl 0 rfl) ?_
    refine gf_X7_12 X hG (nx_0 n_a) k_a fl_X7_43 dX7_begin_28 ?_
    refine lv_iconst (v := 4) hx hb dX7_begin_31 (by decide) ?_
    refine lv_aload_n hx hb dX7_begin_32 rfl (lv_at hl 0 rfl) ?_
    refine gf_X7_12 X hG (nx_0 n_a) k_a fl_X7_43 dX7_begin_33 ?_
    refine lv_iload_n hx hb dX7_begin_36 rfl (lv_at hl 1 rfl) ?_
    refine g_iald X hG (nx_a (a := a) (k := 19) (n := 59) n_a (Nat.le_of_ble_eq_true rfl)) (kx_7_19 k_a) (by decide) i3 dX7_begin_37 ?_
    refine g_iast X hG hS (nx_a (a := a) (k := 19) (n := 59) n_a (Nat.le_of_ble_eq_true rfl)) (kx_7_19 k_a) (by decide) (vin_lit (i := 4) (n := 5) (by decide)) dX7_begin_38 (fun H locs hG hS => ?_)
    obtain ⟨M5, eM5⟩ : ∃ y, y = sI M4 (a + 19) (4 : Int32).toNatClampNeg (M4.1 (a + 19) (v1 : Int32).toNatClampNeg) := ⟨_, rfl⟩
    rw [← eM5] at hG
    have h := nm_y h M5 eM5
    refine lv_aload_n hx hb dX7_begin_39 rfl (lv_at hl 0 rfl) ?_
    refine gf_X7_13 X hG (nx_0 n_a) k_a fl_X7_46 dX7_begin_40 ?_
    refine lv_iconst (v := 4) hx hb dX7_begin_43 (by decide) ?_
    refine lv_aload_n hx hb dX7_begin_44 rfl (lv_at hl 0 rfl) ?_
    refine gf_X7_13 X hG (nx_0 n_a) k_a fl_X7_46 dX7_begin_45 ?_
    refine lv_iload_n hx hb dX7_begin_48 rfl (lv_at hl 1 rfl) ?_
    refine g_iald X hG (nx_a (a := a) (k := 20) (n := 59) n_a (Nat.le_of_ble_eq_true rfl)) (kx_7_20 k_a) (by decide) i3 dX7_begin_49 ?_
    refine g_iast X hG hS (nx_a (a := a) (k := 20) (n := 59) n_a (Nat.le_of_ble_eq_true rfl)) (kx_7_20 k_a) (by decide) (vin_lit (i := 4) (n := 5) (by decide)) dX7_begin_50 (fun H locs hG hS => ?_)
    obtain ⟨M6, eM6⟩ : ∃ y, y = sI M5 (a + 20) (4 : Int32).toNatClampNeg (M5.1 (a + 20) (v1 : Int32).toNatClampNeg) := ⟨_, rfl⟩
    rw [← eM6] at hG
    have h := nm_y h M6 eM6
    refine lv_aload_n hx hb dX7_begin_51 rfl (lv_at hl 0 rfl) ?_
    refine gf_X7_14 X hG (nx_0 n_a) k_a fl_X7_51 dX7_begin_52 ?_
    refine lv_iload_n hx hb dX7_begin_55 rfl (lv_at hl 1 rfl) ?_
    refine g_aldII X hG (nx_a (a := a) (k := 21) (n := 59) n_a (Nat.le_of_ble_eq_true rfl)) (kx_7_21 k_a) (by decide) i3 dX7_begin_56 ?_
    refine lv_aload_n hx hb dX7_begin_57 rfl (lv_at hl 0 rfl) ?_
    refine gf_X7_14 X hG (nx_0 n_a) k_a fl_X7_51 dX7_begin_58 ?_
    refine lv_iconst (v := 4) hx hb dX7_begin_61 (by decide) ?_
    refine g_aldII X hG (nx_a (a := a) (k := 21) (n := 59) n_a (Nat.le_of_ble_eq_true rfl)) (kx_7_21 k_a) (by decide) (vin_lit (i := 4) (n := 5) (by decide)) dX7_begin_62 ?_
    obtain ⟨r7, hcr7, h⟩ := bd_y h
    refine g_cSV (av := [.ref (gad z ((a + 21) + 1 + (v1 : Int32).toNatClampNeg)), .ref (gad z ((a + 21) + 1 + (4 : Int32).toNatClampNeg))]) (rest := []) X hG hS (ct_X7_over l z (ke_7_21 k_a i3) (nE n_a i3 (Nat.le_of_ble_eq_true rfl)) (by decide) (ke_7_21 k_a (vin_lit (i := 4) (n := 5) (by decide))) (nE n_a (vin_lit (i := 4) (n := 5) (by decide)) (Nat.le_of_ble_eq_true rfl)) (by decide) hcr7) mt_X7_over ml_X7_325 rfl ⟨rfl, rfl, Nat.le_of_ble_eq_true rfl, Nat.le_of_ble_eq_true rfl⟩ ⟨Nat.le_refl 0, Nat.le_refl 0⟩ hl.1 (Nat.le_of_ble_eq_true rfl) rfl dX7_begin_63 (fun H locs hG hS => ?_)
    refine lv_aload_n hx hb dX7_begin_66 rfl (lv_at hl 0 rfl) ?_
    refine gf_X7_15 X hG (nx_0 n_a) k_a fl_X7_54 dX7_begin_67 ?_
    refine lv_iload_n hx hb dX7_begin_70 rfl (lv_at hl 1 rfl) ?_
    refine g_aldII X hG (nx_a (a := a) (k := 27) (n := 59) n_a (Nat.le_of_ble_eq_true rfl)) (kx_7_27 k_a) (by decide) i3 dX7_begin_71 ?_
    refine lv_aload_n hx hb dX7_begin_72 rfl (lv_at hl 0 rfl) ?_
    refine gf_X7_15 X hG (nx_0 n_a) k_a fl_X7_54 dX7_begin_73 ?_
    refine lv_iconst (v := 4) hx hb dX7_begin_76 (by decide) ?_
    refine g_aldII X hG (nx_a (a := a) (k := 27) (n := 59) n_a (Nat.le_of_ble_eq_true rfl)) (kx_7_27 k_a) (by decide) (vin_lit (i := 4) (n := 5) (by decide)) dX7_begin_77 ?_
    obtain ⟨r8, hcr8, h⟩ := bd_y h
    refine g_cSV (av := [.ref (gad z ((a + 27) + 1 + (v1 : Int32).toNatClampNeg)), .ref (gad z ((a + 27) + 1 + (4 : Int32).toNatClampNeg))]) (rest := []) X hG hS (ct_X7_over l z (ke_7_27 k_a i3) (nE n_a i3 (Nat.le_of_ble_eq_true rfl)) (by decide) (ke_7_27 k_a (vin_lit (i := 4) (n := 5) (by decide))) (nE n_a (vin_lit (i := 4) (n := 5) (by decide)) (Nat.le_of_ble_eq_true rfl)) (by decide) hcr8) mt_X7_over ml_X7_325 rfl ⟨rfl, rfl, Nat.le_of_ble_eq_true rfl, Nat.le_of_ble_eq_true rfl⟩ ⟨Nat.le_refl 0, Nat.le_refl 0⟩ hl.1 (Nat.le_of_ble_eq_true rfl) rfl dX7_begin_78 (fun H locs hG hS => ?_)
    refine lv_aload_n hx hb dX7_begin_81 rfl (lv_at hl 0 rfl) ?_
    refine gf_X7_16 X hG (nx_0 n_a) k_a fl_X7_57 dX7_begin_82 ?_
    refine lv_iload_n hx hb dX7_begin_85 rfl (lv_at hl 1 rfl) ?_
    refine g_aldII X hG (nx_a (a := a) (k := 33) (n := 59) n_a (Nat.le_of_ble_eq_true rfl)) (kx_7_33 k_a) (by decide) i3 dX7_begin_86 ?_
    refine lv_aload_n hx hb dX7_begin_87 rfl (lv_at hl 0 rfl) ?_
    refine gf_X7_16 X hG (nx_0 n_a) k_a fl_X7_57 dX7_begin_88 ?_
    refine lv_iconst (v := 4) hx hb dX7_begin_91 (by decide) ?_
    refine g_aldII X hG (nx_a (a := a) (k := 33) (n := 59) n_a (Nat.le_of_ble_eq_true rfl)) (kx_7_33 k_a) (by decide) (vin_lit (i := 4) (n := 5) (by decide)) dX7_begin_92 ?_
    obtain ⟨r9, hcr9, h⟩ := bd_y h
    refine g_cSV (av := [.ref (gad z ((a + 33) + 1 + (v1 : Int32).toNatClampNeg)), .ref (gad z ((a + 33) + 1 + (4 : Int32).toNatClampNeg))]) (rest := []) X hG hS (ct_X7_over l z (ke_7_33 k_a i3) (nE n_a i3 (Nat.le_of_ble_eq_true rfl)) (by decide) (ke_7_33 k_a (vin_lit (i := 4) (n := 5) (by decide))) (nE n_a (vin_lit (i := 4) (n := 5) (by decide)) (Nat.le_of_ble_eq_true rfl)) (by decide) hcr9) mt_X7_over ml_X7_325 rfl ⟨rfl, rfl, Nat.le_of_ble_eq_true rfl, Nat.le_of_ble_eq_true rfl⟩ ⟨Nat.le_refl 0, Nat.le_refl 0⟩ hl.1 (Nat.le_of_ble_eq_true rfl) rfl dX7_begin_93 (fun H locs hG hS => ?_)
    refine lv_aload_n hx hb dX7_begin_96 rfl (lv_at hl 0 rfl) ?_
    refine gf_X7_17 X hG (nx_0 n_a) k_a fl_X7_60 dX7_begin_97 ?_
    refine lv_iload_n hx hb dX7_begin_100 rfl (lv_at hl 1 rfl) ?_
    refine g_aldII X hG (nx_a (a := a) (k := 39) (n := 59) n_a (Nat.le_of_ble_eq_true rfl)) (kx_7_39 k_a) (by decide) i3 dX7_begin_101 ?_
    refine lv_aload_n hx hb dX7_begin_102 rfl (lv_at hl 0 rfl) ?_
    refine gf_X7_17 X hG (nx_0 n_a) k_a fl_X7_60 dX7_begin_103 ?_
    refine lv_iconst (v := 4) hx hb dX7_begin_106 (by decide) ?_
    refine g_aldII X hG (nx_a (a := a) (k := 39) (n := 59) n_a (Nat.le_of_ble_eq_true rfl)) (kx_7_39 k_a) (by decide) (vin_lit (i := 4) (n := 5) (by decide)) dX7_begin_107 ?_
    obtain ⟨r10, hcr10, h⟩ := bd_y h
    refine g_cSV (av := [.ref (gad z ((a + 39) + 1 + (v1 : Int32).toNatClampNeg)), .ref (gad z ((a + 39) + 1 + (4 : Int32).toNatClampNeg))]) (rest := []) X hG hS (ct_X7_over l z (ke_7_39 k_a i3) (nE n_a i3 (Nat.le_of_ble_eq_true rfl)) (by decide) (ke_7_39 k_a (vin_lit (i := 4) (n := 5) (by decide))) (nE n_a (vin_lit (i := 4) (n := 5) (by decide)) (Nat.le_of_ble_eq_true rfl)) (by decide) hcr10) mt_X7_over ml_X7_325 rfl ⟨rfl, rfl, Nat.le_of_ble_eq_true rfl, Nat.le_of_ble_eq_true rfl⟩ ⟨Nat.le_refl 0, Nat.le_refl 0⟩ hl.1 (Nat.le_of_ble_eq_true rfl) rfl dX7_begin_108 (fun H locs hG hS => ?_)
    refine lv_aload_n hx hb dX7_begin_111 rfl (lv_at hl 0 rfl) ?_
    refine lv_iload_n hx hb dX7_begin_112 rfl (lv_at hl 1 rfl) ?_
    refine pf_X7_22 X hG hS (nx_0 n_a) k_a fl_X7_76 dX7_begin_113 (fun H locs hG hS => ?_)
    obtain ⟨M11, eM11⟩ : ∃ y, y = sI r10 a 22 v1 := ⟨_, rfl⟩
    rw [← eM11] at hG
    have h := nm_y h M11 eM11
    refine lv_aload_n hx hb dX7_begin_116 rfl (lv_at hl 0 rfl) ?_
    refine lv_iconst (v := 0) hx hb dX7_begin_117 (by decide) ?_
    refine pf_X7_23 X hG hS (nx_0 n_a) k_a fl_X7_329 dX7_begin_118 (fun H locs hG hS => ?_)
    obtain ⟨M12, eM12⟩ : ∃ y, y = sI M11 a 23 0 := ⟨_, rfl⟩
    rw [← eM12] at hG
    have h := nm_y h M12 eM12
    refine lv_aload_n hx hb dX7_begin_121 rfl (lv_at hl 0 rfl) ?_
    refine lv_iconst (v := 0) hx hb dX7_begin_122 (by decide) ?_
    refine pf_X7_24 X hG hS (nx_0 n_a) k_a fl_X7_332 dX7_begin_123 (fun H locs hG hS => ?_)
    obtain ⟨M13, eM13⟩ : ∃ y, y = sI M12 a 24 0 := ⟨_, rfl⟩
    rw [← eM13] at hG
    have h := nm_y h M13 eM13
    refine lv_aload_n hx hb dX7_begin_126 rfl (lv_at hl 0 rfl) ?_
    refine lv_iconst (v := (-1)) hx hb dX7_begin_127 (by decide) ?_
    refine pf_X7_25 X hG hS (nx_0 n_a) k_a fl_X7_79 dX7_begin_128 (fun H locs hG hS => ?_)
    obtain ⟨M14, eM14⟩ : ∃ y, y = sI M13 a 25 (-1) := ⟨_, rfl⟩
    rw [← eM14] at hG
    have h := nm_y h M14 eM14
    refine lv_iconst (v := 1) hx hb dX7_begin_131 (by decide) ?_
    refine lv_aload_n hx hb dX7_begin_132 rfl (lv_at hl 0 rfl) ?_
    refine gf_X7_11 X hG (nx_0 n_a) k_a fl_X7_40 dX7_begin_133 ?_
    refine lv_iload_n hx hb dX7_begin_136 rfl (lv_at hl 1 rfl) ?_
    refine g_iald X hG (nx_a (a := a) (k := 18) (n := 59) n_a (Nat.le_of_ble_eq_true rfl)) (kx_7_18 k_a) (by decide) i3 dX7_begin_137 ?_
    refine lv_ishl hx hb dX7_begin_138 ?_
    obtain rfl := Option.some.inj h
    exact g_iret X hr hlk hG hS dX7_begin_139
  · have h := ite_y h q2
    refine lv_aload_n hx hb dX7_begin_8 rfl (lv_at hl 0 rfl) ?_
    refine lv_bipush (v := (-2)) hx hb dX7_begin_9 (by decide) ?_
    obtain ⟨r15, hcr15, h⟩ := bd_y h
    refine g_cVI (a := a) (ci := 7) (T := TX7) (N := 37) (av := [.int (-2)]) (rest := []) X hG hS (ct_X7_refuse l z k_a n_a hcr15) mt_X7_refuse ml_X7_106 rfl ⟨rfl, rfl, Nat.le_of_ble_eq_true rfl, Nat.le_of_ble_eq_true rfl⟩ ⟨Nat.le_refl 0, Nat.le_refl 0⟩ (nx_0 n_a) k_a (by decide) rfl hl.1 (Nat.le_of_ble_eq_true rfl) rfl dX7_begin_11 (fun H locs hG hS => ?_)
    obtain rfl := Option.some.inj h
    exact g_iret X hr hlk hG hS dX7_begin_14
set_option maxRecDepth 100000 in
set_option maxHeartbeats 4000000 in
theorem ct_X7_isDone (l : Launch) (z : gZ) {N : Nat} {M : Mem} {a : Nat} {o : Int32} (k_a : kd a = 7) (n_a : a + 59 ≤ gn z) (h : fX7_isDone N M a = some o) : CtI l z yX7_isDone cX7_isDone 1 (some .boolean) { frames := 1, cells := 0, slots := 0, locals := 21 } [.ref (gad z a)] M o M := by
  refine Ct_of rfl (Nat.le_of_ble_eq_true rfl) ?_
  intro p e s m below meth c ls X hr hlk hG hS hl
  have X : gX p m c _ _ s _ RX7 z := X
  have hl : lv_has ls 1 [(0, .ref (gad z a))] := hl
  have hx := X.1
  have hb := X.2.1
  unfold fX7_isDone at h
  refine lv_aload_n hx hb dX7_isDone_0 rfl (lv_at hl 0 rfl) ?_
  refine gf_X7_23 X hG (nx_0 n_a) k_a fl_X7_329 dX7_isDone_1 ?_
  refine lv_aload_n hx hb dX7_isDone_4 rfl (lv_at hl 0 rfl) ?_
  refine lv_iconst (v := 4) hx hb dX7_isDone_5 (by decide) ?_
  obtain ⟨r1, hcr1, h⟩ := bd_y h
  refine g_cVI (a := a) (ci := 7) (T := TX7) (N := 37) (av := [.int 4]) (rest := [.int (M.1 a 23)]) X hG hS (ct_X7_all l z k_a n_a hcr1) mt_X7_all ml_X7_96 rfl ⟨rfl, rfl, Nat.le_of_ble_eq_true rfl, Nat.le_of_ble_eq_true rfl⟩ ⟨Nat.le_refl 0, Nat.le_refl 0⟩ (nx_0 n_a) k_a (by decide) rfl hl.1 (Nat.le_of_ble_eq_true rfl) rfl dX7_isDone_6 (fun H locs hG hS => ?_)
  refine lv_icmp_le (tgt := 16) hx hb dX7_isDone_9 (by decide) (fun q2 => ?_) (fun q2 => ?_)
  · have h := ite_y h q2
    refine lv_iconst (v := 0) hx hb dX7_isDone_16 (by decide) ?_
    obtain rfl := Option.some.inj h
    exact g_zret (zn (Or.inl rfl)) X hr hlk hG hS dX7_isDone_17
  · have h := ite_n h q2
    refine lv_iconst (v := 1) hx hb dX7_isDone_12 (by decide) ?_
    refine lv_goto (tgt := 17) hx hb dX7_isDone_13 (by decide) ?_
    obtain rfl := Option.some.inj h
    exact g_zret (zn (Or.inr rfl)) X hr hlk hG hS dX7_isDone_17
set_option maxRecDepth 100000 in
set_option maxHeartbeats 4000000 in
theorem wX7_step_45 {N : Nat} {p : Program} {l : Launch} {e : Env} {s : State} {m : MethodId} {args : Array Value} {below : List Frame} {meth : Method} {c : Code} {z : gZ} {a : Nat} {u1 : Int32} {o : Int32 × Mem} (X : gX p m c cX7_step 4 s args RX7 z) (hr : meth.sig.returnType = (some .int)) (hlk : meth.locks = false) (k_a : kd a = 7) (n_a : a + 59 ≤ gn z)  : ∀ (n : Nat) (Mw : Mem) (w2 : Int32) (w3 : Int32) (H : Heap) (locs : List Loc) (ls : Array Slot), fX7_step_45 N a u1  n Mw w2 w3 = some o → gW z Mw H → va_S (gA z) s.heap H locs → lv_has ls 4 [(0, .ref (gad z a)), (1, .int u1), (2, .int w2), (3, .int w3)] → W p l e { frames := 5, cells := 0, slots := 0, locals := 118 } s m args below meth c H locs 0 0 (MQ below (va_Qi (fun r' (_ : Unit) => r' = o.1) (fun _ t => gW z o.2 t.heap) (gA z)) args s 0 0 (gA z)) (F0 m 45 ls []) := by
  have hx := X.1
  have hb := X.2.1
  intro n
  induction n with
  | zero => intro Mw w2 w3 H locs ls h; cases h
  | succ n ih =>
    intro Mw w2 w3 H locs ls h hG hS hl
    rw [fX7_step_45] at h
    refine lv_iload_n hx hb dX7_step_45 rfl (lv_at hl 3 rfl) ?_
    refine lv_iload_n hx hb dX7_step_46 rfl (lv_at hl 1 rfl) ?_
    refine lv_icmp_ge (tgt := 96) hx hb dX7_step_47 (by decide) (fun q1 => ?_) (fun q1 => ?_)
    · have h := ite_y h q1
      refine lv_aload_n hx hb dX7_step_96 rfl (lv_at hl 0 rfl) ?_
      refine lv_dup hx hb dX7_step_97 rfl ?_
      refine gf_X7_24 X hG (nx_0 n_a) k_a fl_X7_332 dX7_step_98 ?_
      refine lv_iload_n hx hb dX7_step_101 rfl (lv_at hl 2 rfl) ?_
      refine lv_iadd hx hb dX7_step_102 ?_
      refine pf_X7_24 X hG hS (nx_0 n_a) k_a fl_X7_332 dX7_step_103 (fun H locs hG hS => ?_)
      obtain ⟨M2, eM2⟩ : ∃ y, y = sI Mw a 24 ((Mw.1 a 24) + w2) := ⟨_, rfl⟩
      rw [← eM2] at hG
      have h := nm_y h M2 eM2
      refine lv_iload_n hx hb dX7_step_106 rfl (lv_at hl 2 rfl) ?_
      obtain rfl := Option.some.inj h
      exact g_iret X hr hlk hG hS dX7_step_107
    · have h := ite_n h q1
      refine lv_aload_n hx hb dX7_step_50 rfl (lv_at hl 0 rfl) ?_
      obtain ⟨r3, hcr3, h⟩ := bd_y h
      refine g_cVI (a := a) (ci := 7) (T := TX7) (N := 37) (av := []) (rest := []) X hG hS (ct_X7_isDone l z k_a n_a hcr3) mt_X7_isDone ml_X7_335 rfl ⟨rfl, rfl, Nat.le_of_ble_eq_true rfl, Nat.le_of_ble_eq_true rfl⟩ ⟨Nat.le_refl 0, Nat.le_refl 0⟩ (nx_0 n_a) k_a (by decide) rfl hl.1 (Nat.le_of_ble_eq_true rfl) rfl dX7_step_51 (fun H locs hG hS => ?_)
      refine lv_if_ne (tgt := 96) hx hb dX7_step_54 (by decide) (fun q4 => ?_) (fun q4 => ?_)
      · have h := ite_n h q4
        refine lv_aload_n hx hb dX7_step_96 rfl (lv_at hl 0 rfl) ?_
        refine lv_dup hx hb dX7_step_97 rfl ?_
        refine gf_X7_24 X hG (nx_0 n_a) k_a fl_X7_332 dX7_step_98 ?_
        refine lv_iload_n hx hb dX7_step_101 rfl (lv_at hl 2 rfl) ?_
        refine lv_iadd hx hb dX7_step_102 ?_
        refine pf_X7_24 X hG hS (nx_0 n_a) k_a fl_X7_332 dX7_step_103 (fun H locs hG hS => ?_)
        obtain ⟨M5, eM5⟩ : ∃ y, y = sI Mw a 24 ((Mw.1 a 24) + w2) := ⟨_, rfl⟩
        rw [← eM5] at hG
        have h := nm_y h M5 eM5
        refine lv_iload_n hx hb dX7_step_106 rfl (lv_at hl 2 rfl) ?_
        obtain rfl := Option.some.inj h
        exact g_iret X hr hlk hG hS dX7_step_107
      · have h := ite_y h q4
        refine lv_aload_n hx hb dX7_step_57 rfl (lv_at hl 0 rfl) ?_
        refine lv_iconst (v := 4) hx hb dX7_step_58 (by decide) ?_
        refine lv_aload_n hx hb dX7_step_59 rfl (lv_at hl 0 rfl) ?_
        refine gf_X7_23 X hG (nx_0 n_a) k_a fl_X7_329 dX7_step_60 ?_
        obtain ⟨r6, hcr6, h⟩ := bd_y h
        refine g_cVI (a := a) (ci := 7) (T := TX7) (N := 37) (av := [.int 4, .int (Mw.1 a 23)]) (rest := []) X hG hS (ct_X7_isRest l z k_a n_a hcr6) mt_X7_isRest ml_X7_256 rfl ⟨rfl, rfl, Nat.le_of_ble_eq_true rfl, Nat.le_of_ble_eq_true rfl⟩ ⟨Nat.le_refl 0, Nat.le_refl 0⟩ (nx_0 n_a) k_a (by decide) rfl hl.1 (Nat.le_of_ble_eq_true rfl) rfl dX7_step_63 (fun H locs hG hS => ?_)
        refine lv_if_eq (tgt := 80) hx hb dX7_step_66 (by decide) (fun q7 => ?_) (fun q7 => ?_)
        · have h := ite_y h q7
          refine lv_aload_n hx hb dX7_step_80 rfl (lv_at hl 0 rfl) ?_
          refine lv_dup hx hb dX7_step_81 rfl ?_
          refine gf_X7_23 X hG (nx_0 n_a) k_a fl_X7_329 dX7_step_82 ?_
          refine lv_iconst (v := 1) hx hb dX7_step_85 (by decide) ?_
          refine lv_iadd hx hb dX7_step_86 ?_
          refine pf_X7_23 X hG hS (nx_0 n_a) k_a fl_X7_329 dX7_step_87 (fun H locs hG hS => ?_)
          obtain ⟨M8, eM8⟩ : ∃ y, y = sI Mw a 23 ((Mw.1 a 23) + 1) := ⟨_, rfl⟩
          rw [← eM8] at hG
          have h := nm_y h M8 eM8
          refine lv_iinc (v := (w3 + 1)) (lv' := [(3, .int (w3 + 1)), (0, .ref (gad z a)), (1, .int u1), (2, .int w2)]) hx hb dX7_step_90 hl (k := 3) rfl rfl (by decide) rfl (fun ls hl => ?_)
          refine lv_goto (tgt := 45) hx hb dX7_step_93 (by decide) ?_
          exact ih M8 w2 (w3 + 1) _ _ _ h hG hS (lv_sub hl [1, 2, 3, 0] rfl)
        · have h := ite_n h q7
          refine lv_iinc (v := (w2 + 1)) (lv' := [(2, .int (w2 + 1)), (0, .ref (gad z a)), (1, .int u1), (3, .int w3)]) hx hb dX7_step_69 hl (k := 2) rfl rfl (by decide) rfl (fun ls hl => ?_)
          refine lv_aload_n hx hb dX7_step_72 rfl (lv_at hl 1 rfl) ?_
          refine lv_aload_n hx hb dX7_step_73 rfl (lv_at hl 1 rfl) ?_
          refine gf_X7_23 X hG (nx_0 n_a) k_a fl_X7_329 dX7_step_74 ?_
          refine pf_X7_25 X hG hS (nx_0 n_a) k_a fl_X7_79 dX7_step_77 (fun H locs hG hS => ?_)
          obtain ⟨M9, eM9⟩ : ∃ y, y = sI Mw a 25 (Mw.1 a 23) := ⟨_, rfl⟩
          rw [← eM9] at hG
          have h := nm_y h M9 eM9
          refine lv_aload_n hx hb dX7_step_80 rfl (lv_at hl 1 rfl) ?_
          refine lv_dup hx hb dX7_step_81 rfl ?_
          refine gf_X7_23 X hG (nx_0 n_a) k_a fl_X7_329 dX7_step_82 ?_
          refine lv_iconst (v := 1) hx hb dX7_step_85 (by decide) ?_
          refine lv_iadd hx hb dX7_step_86 ?_
          refine pf_X7_23 X hG hS (nx_0 n_a) k_a fl_X7_329 dX7_step_87 (fun H locs hG hS => ?_)
          obtain ⟨M10, eM10⟩ : ∃ y, y = sI M9 a 23 ((M9.1 a 23) + 1) := ⟨_, rfl⟩
          rw [← eM10] at hG
          have h := nm_y h M10 eM10
          refine lv_iinc (v := (w3 + 1)) (lv' := [(3, .int (w3 + 1)), (2, .int (w2 + 1)), (0, .ref (gad z a)), (1, .int u1)]) hx hb dX7_step_90 hl (k := 3) rfl rfl (by decide) rfl (fun ls hl => ?_)
          refine lv_goto (tgt := 45) hx hb dX7_step_93 (by decide) ?_
          exact ih M10 (w2 + 1) (w3 + 1) _ _ _ h hG hS (lv_sub hl [2, 3, 1, 0] rfl)
set_option maxRecDepth 100000 in
set_option maxHeartbeats 4000000 in
theorem ct_X7_step (l : Launch) (z : gZ) {N : Nat} {M : Mem} {a : Nat} {v1 : Int32} {o : Int32 × Mem} (k_a : kd a = 7) (n_a : a + 59 ≤ gn z) (h : fX7_step N M a v1 = some o) : CtI l z yX7_step cX7_step 4 (some .int) { frames := 5, cells := 0, slots := 0, locals := 118 } [.ref (gad z a), .int v1] M o.1 o.2 := by
  refine Ct_of rfl (Nat.le_of_ble_eq_true rfl) ?_
  intro p e s m below meth c ls X hr hlk hG hS hl
  have X : gX p m c _ _ s _ RX7 z := X
  have hl : lv_has ls 4 [(0, .ref (gad z a)), (1, .int v1)] := hl
  have hx := X.1
  have hb := X.2.1
  unfold fX7_step at h
  refine lv_iload_n hx hb dX7_step_0 rfl (lv_at hl 1 rfl) ?_
  refine lv_i2l hx hb dX7_step_1 rfl ?_
  refine lv_lconst (v := 1) hx hb dX7_step_2 (by decide) ?_
  refine lv_ldc2 (v := 999) hx hb X.2.2.2.1 (X.2.2.2.2.1 _ cn_X7_311) dX7_step_3 ?_
  obtain ⟨r1, hcr1, h⟩ := bd_y h
  refine g_cSI (av := [.long ((v1 : Int32).toInt64), .long 1, .long 999]) (rest := []) X hG hS (ct_X7_in l z  hcr1) mt_X7_in ml_X7_88 rfl ⟨rfl, rfl, Nat.le_of_ble_eq_true rfl, Nat.le_of_ble_eq_true rfl⟩ ⟨Nat.le_refl 0, Nat.le_refl 0⟩ hl.1 (Nat.le_of_ble_eq_true rfl) rfl dX7_step_6 (fun H locs hG hS => ?_)
  refine lv_if_ne (tgt := 19) hx hb dX7_step_9 (by decide) (fun q2 => ?_) (fun q2 => ?_)
  · have h := ite_n h q2
    refine lv_aload_n hx hb dX7_step_19 rfl (lv_at hl 0 rfl) ?_
    refine gf_X7_22 X hG (nx_0 n_a) k_a fl_X7_76 dX7_step_20 ?_
    refine lv_iconst (v := (-1)) hx hb dX7_step_23 (by decide) ?_
    refine lv_icmp_eq (tgt := 34) hx hb dX7_step_24 (by decide) (fun q3 => ?_) (fun q3 => ?_)
    · have h := ite_y h q3
      refine lv_aload_n hx hb dX7_step_34 rfl (lv_at hl 0 rfl) ?_
      refine lv_bipush (v := (-5)) hx hb dX7_step_35 (by decide) ?_
      obtain ⟨r4, hcr4, h⟩ := bd_y h
      refine g_cVI (a := a) (ci := 7) (T := TX7) (N := 37) (av := [.int (-5)]) (rest := []) X hG hS (ct_X7_refuse l z k_a n_a hcr4) mt_X7_refuse ml_X7_106 rfl ⟨rfl, rfl, Nat.le_of_ble_eq_true rfl, Nat.le_of_ble_eq_true rfl⟩ ⟨Nat.le_refl 0, Nat.le_refl 0⟩ (nx_0 n_a) k_a (by decide) rfl hl.1 (Nat.le_of_ble_eq_true rfl) rfl dX7_step_37 (fun H locs hG hS => ?_)
      obtain rfl := Option.some.inj h
      exact g_iret X hr hlk hG hS dX7_step_40
    · have h := ite_n h q3
      refine lv_aload_n hx hb dX7_step_27 rfl (lv_at hl 0 rfl) ?_
      obtain ⟨r5, hcr5, h⟩ := bd_y h
      refine g_cVI (a := a) (ci := 7) (T := TX7) (N := 37) (av := []) (rest := []) X hG hS (ct_X7_isDone l z k_a n_a hcr5) mt_X7_isDone ml_X7_335 rfl ⟨rfl, rfl, Nat.le_of_ble_eq_true rfl, Nat.le_of_ble_eq_true rfl⟩ ⟨Nat.le_refl 0, Nat.le_refl 0⟩ (nx_0 n_a) k_a (by decide) rfl hl.1 (Nat.le_of_ble_eq_true rfl) rfl dX7_step_28 (fun H locs hG hS => ?_)
      refine lv_if_eq (tgt := 41) hx hb dX7_step_31 (by decide) (fun q6 => ?_) (fun q6 => ?_)
      · have h := ite_y h q6
        refine lv_iconst (v := 0) hx hb dX7_step_41 (by decide) ?_
        refine lv_istore_n (lv' := [(2, .int 0), (0, .ref (gad z a)), (1, .int v1)]) hx hb dX7_step_42 rfl hl (by decide) rfl (fun ls hl => ?_)
        refine lv_iconst (v := 0) hx hb dX7_step_43 (by decide) ?_
        refine lv_istore_n (lv' := [(3, .int 0), (2, .int 0), (0, .ref (gad z a)), (1, .int v1)]) hx hb dX7_step_44 rfl hl (by decide) rfl (fun ls hl => ?_)
        refine wX7_step_45 X hr hlk k_a n_a _ _ _ _ _ _ _ h hG hS (lv_sub hl [2, 3, 1, 0] rfl)
      · have h := ite_n h q6
        refine lv_aload_n hx hb dX7_step_34 rfl (lv_at hl 0 rfl) ?_
        refine lv_bipush (v := (-5)) hx hb dX7_step_35 (by decide) ?_
        obtain ⟨r11, hcr11, h⟩ := bd_y h
        refine g_cVI (a := a) (ci := 7) (T := TX7) (N := 37) (av := [.int (-5)]) (rest := []) X hG hS (ct_X7_refuse l z k_a n_a hcr11) mt_X7_refuse ml_X7_106 rfl ⟨rfl, rfl, Nat.le_of_ble_eq_true rfl, Nat.le_of_ble_eq_true rfl⟩ ⟨Nat.le_refl 0, Nat.le_refl 0⟩ (nx_0 n_a) k_a (by decide) rfl hl.1 (Nat.le_of_ble_eq_true rfl) rfl dX7_step_37 (fun H locs hG hS => ?_)
        obtain rfl := Option.some.inj h
        exact g_iret X hr hlk hG hS dX7_step_40
  · have h := ite_y h q2
    refine lv_aload_n hx hb dX7_step_12 rfl (lv_at hl 0 rfl) ?_
    refine lv_bipush (v := (-2)) hx hb dX7_step_13 (by decide) ?_
    obtain ⟨r12, hcr12, h⟩ := bd_y h
    refine g_cVI (a := a) (ci := 7) (T := TX7) (N := 37) (av := [.int (-2)]) (rest := []) X hG hS (ct_X7_refuse l z k_a n_a hcr12) mt_X7_refuse ml_X7_106 rfl ⟨rfl, rfl, Nat.le_of_ble_eq_true rfl, Nat.le_of_ble_eq_true rfl⟩ ⟨Nat.le_refl 0, Nat.le_refl 0⟩ (nx_0 n_a) k_a (by decide) rfl hl.1 (Nat.le_of_ble_eq_true rfl) rfl dX7_step_15 (fun H locs hG hS => ?_)
    obtain rfl := Option.some.inj h
    exact g_iret X hr hlk hG hS dX7_step_18
set_option maxRecDepth 100000 in
set_option maxHeartbeats 4000000 in
theorem ct_X7_search (l : Launch) (z : gZ) {N : Nat} {M : Mem} {a : Nat} {v1 : Int32} {o : Int32 × Mem} (k_a : kd a = 7) (n_a : a + 59 ≤ gn z) (h : fX7_search N M a v1 = some o) : CtI l z yX7_search cX7_search 2 (some .int) { frames := 2, cells := 0, slots := 0, locals := 41 } [.ref (gad z a), .int v1] M o.1 o.2 := by
  refine Ct_of rfl (Nat.le_of_ble_eq_true rfl) ?_
  intro p e s m below meth c ls X hr hlk hG hS hl
  have X : gX p m c _ _ s _ RX7 z := X
  have hl : lv_has ls 2 [(0, .ref (gad z a)), (1, .int v1)] := hl
  have hx := X.1
  have hb := X.2.1
  unfold fX7_search at h
  refine lv_iload_n hx hb dX7_search_0 rfl (lv_at hl 1 rfl) ?_
  refine lv_i2l hx hb dX7_search_1 rfl ?_
  refine lv_lconst (v := 0) hx hb dX7_search_2 (by decide) ?_
  refine lv_ldc2 (v := 4) hx hb X.2.2.2.1 (X.2.2.2.2.1 _ cn_X7_102) dX7_search_3 ?_
  obtain ⟨r1, hcr1, h⟩ := bd_y h
  refine g_cSI (av := [.long ((v1 : Int32).toInt64), .long 0, .long 4]) (rest := []) X hG hS (ct_X7_in l z  hcr1) mt_X7_in ml_X7_88 rfl ⟨rfl, rfl, Nat.le_of_ble_eq_true rfl, Nat.le_of_ble_eq_true rfl⟩ ⟨Nat.le_refl 0, Nat.le_refl 0⟩ hl.1 (Nat.le_of_ble_eq_true rfl) rfl dX7_search_6 (fun H locs hG hS => ?_)
  refine lv_if_ne (tgt := 19) hx hb dX7_search_9 (by decide) (fun q2 => ?_) (fun q2 => ?_)
  · have h := ite_n h q2
    refine lv_aload_n hx hb dX7_search_19 rfl (lv_at hl 0 rfl) ?_
    refine gf_X7_22 X hG (nx_0 n_a) k_a fl_X7_76 dX7_search_20 ?_
    refine lv_iconst (v := (-1)) hx hb dX7_search_23 (by decide) ?_
    refine lv_icmp_ne (tgt := 34) hx hb dX7_search_24 (by decide) (fun q3 => ?_) (fun q3 => ?_)
    · have h := ite_n h q3
      refine lv_iload_n hx hb dX7_search_34 rfl (lv_at hl 1 rfl) ?_
      by_cases q4 : v1 = 0
      · have h := ite_y h q4
        refine lv_tableIn (tgt := 64) hx hb dX7_search_35 (by rw [q4]; decide) (by rw [q4]; decide) (by rw [q4]; rfl) (by decide) ?_
        refine lv_aload_n hx hb dX7_search_64 rfl (lv_at hl 0 rfl) ?_
        refine gf_X7_22 X hG (nx_0 n_a) k_a fl_X7_76 dX7_search_65 ?_
        obtain rfl := Option.some.inj h
        exact g_iret X hr hlk hG hS dX7_search_68
      · have h := ite_n h q4
        by_cases q5 : v1 = 1
        · have h := ite_y h q5
          refine lv_tableIn (tgt := 69) hx hb dX7_search_35 (by rw [q5]; decide) (by rw [q5]; decide) (by rw [q5]; rfl) (by decide) ?_
          refine lv_aload_n hx hb dX7_search_69 rfl (lv_at hl 0 rfl) ?_
          refine gf_X7_23 X hG (nx_0 n_a) k_a fl_X7_329 dX7_search_70 ?_
          obtain rfl := Option.some.inj h
          exact g_iret X hr hlk hG hS dX7_search_73
        · have h := ite_n h q5
          by_cases q6 : v1 = 2
          · have h := ite_y h q6
            refine lv_tableIn (tgt := 74) hx hb dX7_search_35 (by rw [q6]; decide) (by rw [q6]; decide) (by rw [q6]; rfl) (by decide) ?_
            refine lv_aload_n hx hb dX7_search_74 rfl (lv_at hl 0 rfl) ?_
            refine gf_X7_24 X hG (nx_0 n_a) k_a fl_X7_332 dX7_search_75 ?_
            obtain rfl := Option.some.inj h
            exact g_iret X hr hlk hG hS dX7_search_78
          · have h := ite_n h q6
            by_cases q7 : v1 = 3
            · have h := ite_y h q7
              refine lv_tableIn (tgt := 79) hx hb dX7_search_35 (by rw [q7]; decide) (by rw [q7]; decide) (by rw [q7]; rfl) (by decide) ?_
              refine lv_aload_n hx hb dX7_search_79 rfl (lv_at hl 0 rfl) ?_
              refine gf_X7_25 X hG (nx_0 n_a) k_a fl_X7_79 dX7_search_80 ?_
              obtain rfl := Option.some.inj h
              exact g_iret X hr hlk hG hS dX7_search_83
            · have h := ite_n h q7
              refine lv_tableOut (tgt := 84) hx hb dX7_search_35 (by have eq4 := lv_neT (a := 0) q4 (by decide); have eq5 := lv_neT (a := 1) q5 (by decide); have eq6 := lv_neT (a := 2) q6 (by decide); have eq7 := lv_neT (a := 3) q7 (by decide); omega) (by decide) ?_
              refine lv_aload_n hx hb dX7_search_84 rfl (lv_at hl 0 rfl) ?_
              obtain ⟨r8, hcr8, h⟩ := bd_y h
              refine g_cVI (a := a) (ci := 7) (T := TX7) (N := 37) (av := []) (rest := []) X hG hS (ct_X7_isDone l z k_a n_a hcr8) mt_X7_isDone ml_X7_335 rfl ⟨rfl, rfl, Nat.le_of_ble_eq_true rfl, Nat.le_of_ble_eq_true rfl⟩ ⟨Nat.le_refl 0, Nat.le_refl 0⟩ (nx_0 n_a) k_a (by decide) rfl hl.1 (Nat.le_of_ble_eq_true rfl) rfl dX7_search_85 (fun H locs hG hS => ?_)
              refine lv_if_eq (tgt := 95) hx hb dX7_search_88 (by decide) (fun q9 => ?_) (fun q9 => ?_)
              · have h := ite_y h q9
                refine lv_iconst (v := 0) hx hb dX7_search_95 (by decide) ?_
                obtain rfl := Option.some.inj h
                exact g_iret X hr hlk hG hS dX7_search_96
              · have h := ite_n h q9
                refine lv_iconst (v := 1) hx hb dX7_search_91 (by decide) ?_
                refine lv_goto (tgt := 96) hx hb dX7_search_92 (by decide) ?_
                obtain rfl := Option.some.inj h
                exact g_iret X hr hlk hG hS dX7_search_96
    · have h := ite_y h q3
      refine lv_aload_n hx hb dX7_search_27 rfl (lv_at hl 0 rfl) ?_
      refine lv_bipush (v := (-5)) hx hb dX7_search_28 (by decide) ?_
      obtain ⟨r10, hcr10, h⟩ := bd_y h
      refine g_cVI (a := a) (ci := 7) (T := TX7) (N := 37) (av := [.int (-5)]) (rest := []) X hG hS (ct_X7_refuse l z k_a n_a hcr10) mt_X7_refuse ml_X7_106 rfl ⟨rfl, rfl, Nat.le_of_ble_eq_true rfl, Nat.le_of_ble_eq_true rfl⟩ ⟨Nat.le_refl 0, Nat.le_refl 0⟩ (nx_0 n_a) k_a (by decide) rfl hl.1 (Nat.le_of_ble_eq_true rfl) rfl dX7_search_30 (fun H locs hG hS => ?_)
      obtain rfl := Option.some.inj h
      exact g_iret X hr hlk hG hS dX7_search_33
  · have h := ite_y h q2
    refine lv_aload_n hx hb dX7_search_12 rfl (lv_at hl 0 rfl) ?_
    refine lv_bipush (v := (-2)) hx hb dX7_search_13 (by decide) ?_
    obtain ⟨r11, hcr11, h⟩ := bd_y h
    refine g_cVI (a := a) (ci := 7) (T := TX7) (N := 37) (av := [.int (-2)]) (rest := []) X hG hS (ct_X7_refuse l z k_a n_a hcr11) mt_X7_refuse ml_X7_106 rfl ⟨rfl, rfl, Nat.le_of_ble_eq_true rfl, Nat.le_of_ble_eq_true rfl⟩ ⟨Nat.le_refl 0, Nat.le_refl 0⟩ (nx_0 n_a) k_a (by decide) rfl hl.1 (Nat.le_of_ble_eq_true rfl) rfl dX7_search_15 (fun H locs hG hS => ?_)
    obtain rfl := Option.some.inj h
    exact g_iret X hr hlk hG hS dX7_search_18
set_option maxRecDepth 100000 in
set_option maxHeartbeats 4000000 in
theorem wX7_takeFrom_43 {N : Nat} {p : Program} {l : Launch} {e : Env} {s : State} {m : MethodId} {args : Array Value} {below : List Frame} {meth : Method} {c : Code} {z : gZ} {a : Nat} {b1 : Nat} {o : Mem} (X : gX p m c cX7_takeFrom 3 s args RX7 z) (hr : meth.sig.returnType = none) (hlk : meth.locks = false) (k_a : kd a = 7) (n_a : a + 59 ≤ gn z) (k_b1 : kd b1 = 7) (n_b1 : b1 + 59 ≤ gn z)  : ∀ (n : Nat) (Mw : Mem) (w2 : Int32) (H : Heap) (locs : List Loc) (ls : Array Slot), fX7_takeFrom_43 N a b1  n Mw w2 = some o → gW z Mw H → va_S (gA z) s.heap H locs → lv_has ls 3 [(0, .ref (gad z a)), (1, .ref (gad z b1)), (2, .int w2)] → W p l e { frames := 1, cells := 0, slots := 0, locals := 22 } s m args below meth c H locs 0 0 (MQ below (va_Qv (fun (_ : Unit) => True) (fun _ t => gW z o t.heap) (gA z)) args s 0 0 (gA z)) (F0 m 43 ls []) := by
  have hx := X.1
  have hb := X.2.1
  intro n
  induction n with
  | zero => intro Mw w2 H locs ls h; cases h
  | succ n ih =>
    intro Mw w2 H locs ls h hG hS hl
    rw [fX7_takeFrom_43] at h
    refine lv_iload_n hx hb dX7_takeFrom_43 rfl (lv_at hl 2 rfl) ?_
    refine lv_iconst (v := 5) hx hb dX7_takeFrom_44 (by decide) ?_
    refine lv_icmp_ge (tgt := 144) hx hb dX7_takeFrom_45 (by decide) (fun q1 => ?_) (fun q1 => ?_)
    · have h := ite_y h q1
      refine lv_aload_n hx hb dX7_takeFrom_144 rfl (lv_at hl 1 rfl) ?_
      refine gf_X7_20 X hG (nx_0 n_b1) k_b1 fl_X7_69 dX7_takeFrom_145 ?_
      refine lv_aload_n hx hb dX7_takeFrom_148 rfl (lv_at hl 0 rfl) ?_
      refine gf_X7_20 X hG (nx_0 n_a) k_a fl_X7_69 dX7_takeFrom_149 ?_
      obtain ⟨r2, hcr2, h⟩ := bd_y h
      refine g_cSV (av := [.ref (gad z (b1 + 57)), .ref (gad z (a + 57))]) (rest := []) X hG hS (ct_X7_over l z (kx_7_57 k_b1) (nx_a (a := b1) (k := 57) (n := 59) n_b1 (Nat.le_of_ble_eq_true rfl)) (by decide) (kx_7_57 k_a) (nx_a (a := a) (k := 57) (n := 59) n_a (Nat.le_of_ble_eq_true rfl)) (by decide) hcr2) mt_X7_over ml_X7_325 rfl ⟨rfl, rfl, Nat.le_of_ble_eq_true rfl, Nat.le_of_ble_eq_true rfl⟩ ⟨Nat.le_refl 0, Nat.le_refl 0⟩ hl.1 (Nat.le_of_ble_eq_true rfl) rfl dX7_takeFrom_152 (fun H locs hG hS => ?_)
      refine lv_aload_n hx hb dX7_takeFrom_155 rfl (lv_at hl 0 rfl) ?_
      refine lv_aload_n hx hb dX7_takeFrom_156 rfl (lv_at hl 1 rfl) ?_
      refine gf_X7_21 X hG (nx_0 n_b1) k_b1 fl_X7_72 dX7_takeFrom_157 ?_
      refine pf_X7_21 X hG hS (nx_0 n_a) k_a fl_X7_72 dX7_takeFrom_160 (fun H locs hG hS => ?_)
      obtain ⟨M3, eM3⟩ : ∃ y, y = sI r2 a 21 (r2.1 b1 21) := ⟨_, rfl⟩
      rw [← eM3] at hG
      have h := nm_y h M3 eM3
      refine lv_aload_n hx hb dX7_takeFrom_163 rfl (lv_at hl 0 rfl) ?_
      refine lv_aload_n hx hb dX7_takeFrom_164 rfl (lv_at hl 1 rfl) ?_
      refine gf_X7_22 X hG (nx_0 n_b1) k_b1 fl_X7_76 dX7_takeFrom_165 ?_
      refine pf_X7_22 X hG hS (nx_0 n_a) k_a fl_X7_76 dX7_takeFrom_168 (fun H locs hG hS => ?_)
      obtain ⟨M4, eM4⟩ : ∃ y, y = sI M3 a 22 (M3.1 b1 22) := ⟨_, rfl⟩
      rw [← eM4] at hG
      have h := nm_y h M4 eM4
      refine lv_aload_n hx hb dX7_takeFrom_171 rfl (lv_at hl 0 rfl) ?_
      refine lv_aload_n hx hb dX7_takeFrom_172 rfl (lv_at hl 1 rfl) ?_
      refine gf_X7_23 X hG (nx_0 n_b1) k_b1 fl_X7_329 dX7_takeFrom_173 ?_
      refine pf_X7_23 X hG hS (nx_0 n_a) k_a fl_X7_329 dX7_takeFrom_176 (fun H locs hG hS => ?_)
      obtain ⟨M5, eM5⟩ : ∃ y, y = sI M4 a 23 (M4.1 b1 23) := ⟨_, rfl⟩
      rw [← eM5] at hG
      have h := nm_y h M5 eM5
      refine lv_aload_n hx hb dX7_takeFrom_179 rfl (lv_at hl 0 rfl) ?_
      refine lv_aload_n hx hb dX7_takeFrom_180 rfl (lv_at hl 1 rfl) ?_
      refine gf_X7_24 X hG (nx_0 n_b1) k_b1 fl_X7_332 dX7_takeFrom_181 ?_
      refine pf_X7_24 X hG hS (nx_0 n_a) k_a fl_X7_332 dX7_takeFrom_184 (fun H locs hG hS => ?_)
      obtain ⟨M6, eM6⟩ : ∃ y, y = sI M5 a 24 (M5.1 b1 24) := ⟨_, rfl⟩
      rw [← eM6] at hG
      have h := nm_y h M6 eM6
      refine lv_aload_n hx hb dX7_takeFrom_187 rfl (lv_at hl 0 rfl) ?_
      refine lv_aload_n hx hb dX7_takeFrom_188 rfl (lv_at hl 1 rfl) ?_
      refine gf_X7_25 X hG (nx_0 n_b1) k_b1 fl_X7_79 dX7_takeFrom_189 ?_
      refine pf_X7_25 X hG hS (nx_0 n_a) k_a fl_X7_79 dX7_takeFrom_192 (fun H locs hG hS => ?_)
      obtain ⟨M7, eM7⟩ : ∃ y, y = sI M6 a 25 (M6.1 b1 25) := ⟨_, rfl⟩
      rw [← eM7] at hG
      have h := nm_y h M7 eM7
      obtain rfl := Option.some.inj h
      exact g_vret X hr hlk hG hS dX7_takeFrom_195
    · have h := ite_n h q1
      refine lv_aload_n hx hb dX7_takeFrom_48 rfl (lv_at hl 1 rfl) ?_
      refine gf_X7_14 X hG (nx_0 n_b1) k_b1 fl_X7_51 dX7_takeFrom_49 ?_
      refine lv_iload_n hx hb dX7_takeFrom_52 rfl (lv_at hl 2 rfl) ?_
      obtain ⟨i8, h⟩ := gd_y h
      refine g_aldII X hG (nx_a (a := b1) (k := 21) (n := 59) n_b1 (Nat.le_of_ble_eq_true rfl)) (kx_7_21 k_b1) (by decide) i8 dX7_takeFrom_53 ?_
      refine lv_aload_n hx hb dX7_takeFrom_54 rfl (lv_at hl 0 rfl) ?_
      refine gf_X7_14 X hG (nx_0 n_a) k_a fl_X7_51 dX7_takeFrom_55 ?_
      refine lv_iload_n hx hb dX7_takeFrom_58 rfl (lv_at hl 2 rfl) ?_
      refine g_aldII X hG (nx_a (a := a) (k := 21) (n := 59) n_a (Nat.le_of_ble_eq_true rfl)) (kx_7_21 k_a) (by decide) i8 dX7_takeFrom_59 ?_
      obtain ⟨r9, hcr9, h⟩ := bd_y h
      refine g_cSV (av := [.ref (gad z ((b1 + 21) + 1 + (w2 : Int32).toNatClampNeg)), .ref (gad z ((a + 21) + 1 + (w2 : Int32).toNatClampNeg))]) (rest := []) X hG hS (ct_X7_over l z (ke_7_21 k_b1 i8) (nE n_b1 i8 (Nat.le_of_ble_eq_true rfl)) (by decide) (ke_7_21 k_a i8) (nE n_a i8 (Nat.le_of_ble_eq_true rfl)) (by decide) hcr9) mt_X7_over ml_X7_325 rfl ⟨rfl, rfl, Nat.le_of_ble_eq_true rfl, Nat.le_of_ble_eq_true rfl⟩ ⟨Nat.le_refl 0, Nat.le_refl 0⟩ hl.1 (Nat.le_of_ble_eq_true rfl) rfl dX7_takeFrom_60 (fun H locs hG hS => ?_)
      refine lv_aload_n hx hb dX7_takeFrom_63 rfl (lv_at hl 1 rfl) ?_
      refine gf_X7_15 X hG (nx_0 n_b1) k_b1 fl_X7_54 dX7_takeFrom_64 ?_
      refine lv_iload_n hx hb dX7_takeFrom_67 rfl (lv_at hl 2 rfl) ?_
      refine g_aldII X hG (nx_a (a := b1) (k := 27) (n := 59) n_b1 (Nat.le_of_ble_eq_true rfl)) (kx_7_27 k_b1) (by decide) i8 dX7_takeFrom_68 ?_
      refine lv_aload_n hx hb dX7_takeFrom_69 rfl (lv_at hl 0 rfl) ?_
      refine gf_X7_15 X hG (nx_0 n_a) k_a fl_X7_54 dX7_takeFrom_70 ?_
      refine lv_iload_n hx hb dX7_takeFrom_73 rfl (lv_at hl 2 rfl) ?_
      refine g_aldII X hG (nx_a (a := a) (k := 27) (n := 59) n_a (Nat.le_of_ble_eq_true rfl)) (kx_7_27 k_a) (by decide) i8 dX7_takeFrom_74 ?_
      obtain ⟨r10, hcr10, h⟩ := bd_y h
      refine g_cSV (av := [.ref (gad z ((b1 + 27) + 1 + (w2 : Int32).toNatClampNeg)), .ref (gad z ((a + 27) + 1 + (w2 : Int32).toNatClampNeg))]) (rest := []) X hG hS (ct_X7_over l z (ke_7_27 k_b1 i8) (nE n_b1 i8 (Nat.le_of_ble_eq_true rfl)) (by decide) (ke_7_27 k_a i8) (nE n_a i8 (Nat.le_of_ble_eq_true rfl)) (by decide) hcr10) mt_X7_over ml_X7_325 rfl ⟨rfl, rfl, Nat.le_of_ble_eq_true rfl, Nat.le_of_ble_eq_true rfl⟩ ⟨Nat.le_refl 0, Nat.le_refl 0⟩ hl.1 (Nat.le_of_ble_eq_true rfl) rfl dX7_takeFrom_75 (fun H locs hG hS => ?_)
      refine lv_aload_n hx hb dX7_takeFrom_78 rfl (lv_at hl 1 rfl) ?_
      refine gf_X7_16 X hG (nx_0 n_b1) k_b1 fl_X7_57 dX7_takeFrom_79 ?_
      refine lv_iload_n hx hb dX7_takeFrom_82 rfl (lv_at hl 2 rfl) ?_
      refine g_aldII X hG (nx_a (a := b1) (k := 33) (n := 59) n_b1 (Nat.le_of_ble_eq_true rfl)) (kx_7_33 k_b1) (by decide) i8 dX7_takeFrom_83 ?_
      refine lv_aload_n hx hb dX7_takeFrom_84 rfl (lv_at hl 0 rfl) ?_
      refine gf_X7_16 X hG (nx_0 n_a) k_a fl_X7_57 dX7_takeFrom_85 ?_
      refine lv_iload_n hx hb dX7_takeFrom_88 rfl (lv_at hl 2 rfl) ?_
      refine g_aldII X hG (nx_a (a := a) (k := 33) (n := 59) n_a (Nat.le_of_ble_eq_true rfl)) (kx_7_33 k_a) (by decide) i8 dX7_takeFrom_89 ?_
      obtain ⟨r11, hcr11, h⟩ := bd_y h
      refine g_cSV (av := [.ref (gad z ((b1 + 33) + 1 + (w2 : Int32).toNatClampNeg)), .ref (gad z ((a + 33) + 1 + (w2 : Int32).toNatClampNeg))]) (rest := []) X hG hS (ct_X7_over l z (ke_7_33 k_b1 i8) (nE n_b1 i8 (Nat.le_of_ble_eq_true rfl)) (by decide) (ke_7_33 k_a i8) (nE n_a i8 (Nat.le_of_ble_eq_true rfl)) (by decide) hcr11) mt_X7_over ml_X7_325 rfl ⟨rfl, rfl, Nat.le_of_ble_eq_true rfl, Nat.le_of_ble_eq_true rfl⟩ ⟨Nat.le_refl 0, Nat.le_refl 0⟩ hl.1 (Nat.le_of_ble_eq_true rfl) rfl dX7_takeFrom_90 (fun H locs hG hS => ?_)
      refine lv_aload_n hx hb dX7_takeFrom_93 rfl (lv_at hl 1 rfl) ?_
      refine gf_X7_17 X hG (nx_0 n_b1) k_b1 fl_X7_60 dX7_takeFrom_94 ?_
      refine lv_iload_n hx hb dX7_takeFrom_97 rfl (lv_at hl 2 rfl) ?_
      refine g_aldII X hG (nx_a (a := b1) (k := 39) (n := 59) n_b1 (Nat.le_of_ble_eq_true rfl)) (kx_7_39 k_b1) (by decide) i8 dX7_takeFrom_98 ?_
      refine lv_aload_n hx hb dX7_takeFrom_99 rfl (lv_at hl 0 rfl) ?_
      refine gf_X7_17 X hG (nx_0 n_a) k_a fl_X7_60 dX7_takeFrom_100 ?_
      refine lv_iload_n hx hb dX7_takeFrom_103 rfl (lv_at hl 2 rfl) ?_
      refine g_aldII X hG (nx_a (a := a) (k := 39) (n := 59) n_a (Nat.le_of_ble_eq_true rfl)) (kx_7_39 k_a) (by decide) i8 dX7_takeFrom_104 ?_
      obtain ⟨r12, hcr12, h⟩ := bd_y h
      refine g_cSV (av := [.ref (gad z ((b1 + 39) + 1 + (w2 : Int32).toNatClampNeg)), .ref (gad z ((a + 39) + 1 + (w2 : Int32).toNatClampNeg))]) (rest := []) X hG hS (ct_X7_over l z (ke_7_39 k_b1 i8) (nE n_b1 i8 (Nat.le_of_ble_eq_true rfl)) (by decide) (ke_7_39 k_a i8) (nE n_a i8 (Nat.le_of_ble_eq_true rfl)) (by decide) hcr12) mt_X7_over ml_X7_325 rfl ⟨rfl, rfl, Nat.le_of_ble_eq_true rfl, Nat.le_of_ble_eq_true rfl⟩ ⟨Nat.le_refl 0, Nat.le_refl 0⟩ hl.1 (Nat.le_of_ble_eq_true rfl) rfl dX7_takeFrom_105 (fun H locs hG hS => ?_)
      refine lv_aload_n hx hb dX7_takeFrom_108 rfl (lv_at hl 1 rfl) ?_
      refine gf_X7_18 X hG (nx_0 n_b1) k_b1 fl_X7_63 dX7_takeFrom_109 ?_
      refine lv_iload_n hx hb dX7_takeFrom_112 rfl (lv_at hl 2 rfl) ?_
      refine g_aldII X hG (nx_a (a := b1) (k := 45) (n := 59) n_b1 (Nat.le_of_ble_eq_true rfl)) (kx_7_45 k_b1) (by decide) i8 dX7_takeFrom_113 ?_
      refine lv_aload_n hx hb dX7_takeFrom_114 rfl (lv_at hl 0 rfl) ?_
      refine gf_X7_18 X hG (nx_0 n_a) k_a fl_X7_63 dX7_takeFrom_115 ?_
      refine lv_iload_n hx hb dX7_takeFrom_118 rfl (lv_at hl 2 rfl) ?_
      refine g_aldII X hG (nx_a (a := a) (k := 45) (n := 59) n_a (Nat.le_of_ble_eq_true rfl)) (kx_7_45 k_a) (by decide) i8 dX7_takeFrom_119 ?_
      obtain ⟨r13, hcr13, h⟩ := bd_y h
      refine g_cSV (av := [.ref (gad z ((b1 + 45) + 1 + (w2 : Int32).toNatClampNeg)), .ref (gad z ((a + 45) + 1 + (w2 : Int32).toNatClampNeg))]) (rest := []) X hG hS (ct_X7_over l z (ke_7_45 k_b1 i8) (nE n_b1 i8 (Nat.le_of_ble_eq_true rfl)) (by decide) (ke_7_45 k_a i8) (nE n_a i8 (Nat.le_of_ble_eq_true rfl)) (by decide) hcr13) mt_X7_over ml_X7_325 rfl ⟨rfl, rfl, Nat.le_of_ble_eq_true rfl, Nat.le_of_ble_eq_true rfl⟩ ⟨Nat.le_refl 0, Nat.le_refl 0⟩ hl.1 (Nat.le_of_ble_eq_true rfl) rfl dX7_takeFrom_120 (fun H locs hG hS => ?_)
      refine lv_aload_n hx hb dX7_takeFrom_123 rfl (lv_at hl 1 rfl) ?_
      refine gf_X7_19 X hG (nx_0 n_b1) k_b1 fl_X7_66 dX7_takeFrom_124 ?_
      refine lv_iload_n hx hb dX7_takeFrom_127 rfl (lv_at hl 2 rfl) ?_
      refine g_aldII X hG (nx_a (a := b1) (k := 51) (n := 59) n_b1 (Nat.le_of_ble_eq_true rfl)) (kx_7_51 k_b1) (by decide) i8 dX7_takeFrom_128 ?_
      refine lv_aload_n hx hb dX7_takeFrom_129 rfl (lv_at hl 0 rfl) ?_
      refine gf_X7_19 X hG (nx_0 n_a) k_a fl_X7_66 dX7_takeFrom_130 ?_
      refine lv_iload_n hx hb dX7_takeFrom_133 rfl (lv_at hl 2 rfl) ?_
      refine g_aldII X hG (nx_a (a := a) (k := 51) (n := 59) n_a (Nat.le_of_ble_eq_true rfl)) (kx_7_51 k_a) (by decide) i8 dX7_takeFrom_134 ?_
      obtain ⟨r14, hcr14, h⟩ := bd_y h
      refine g_cSV (av := [.ref (gad z ((b1 + 51) + 1 + (w2 : Int32).toNatClampNeg)), .ref (gad z ((a + 51) + 1 + (w2 : Int32).toNatClampNeg))]) (rest := []) X hG hS (ct_X7_over l z (ke_7_51 k_b1 i8) (nE n_b1 i8 (Nat.le_of_ble_eq_true rfl)) (by decide) (ke_7_51 k_a i8) (nE n_a i8 (Nat.le_of_ble_eq_true rfl)) (by decide) hcr14) mt_X7_over ml_X7_325 rfl ⟨rfl, rfl, Nat.le_of_ble_eq_true rfl, Nat.le_of_ble_eq_true rfl⟩ ⟨Nat.le_refl 0, Nat.le_refl 0⟩ hl.1 (Nat.le_of_ble_eq_true rfl) rfl dX7_takeFrom_135 (fun H locs hG hS => ?_)
      refine lv_iinc (v := (w2 + 1)) (lv' := [(2, .int (w2 + 1)), (0, .ref (gad z a)), (1, .ref (gad z b1))]) hx hb dX7_takeFrom_138 hl (k := 2) rfl rfl (by decide) rfl (fun ls hl => ?_)
      refine lv_goto (tgt := 43) hx hb dX7_takeFrom_141 (by decide) ?_
      exact ih r14 (w2 + 1) _ _ _ h hG hS (lv_sub hl [1, 2, 0] rfl)
set_option maxRecDepth 100000 in
set_option maxHeartbeats 4000000 in
theorem ct_X7_takeFrom (l : Launch) (z : gZ) {N : Nat} {M : Mem} {a : Nat} {b1 : Nat} {o : Mem} (k_a : kd a = 7) (n_a : a + 59 ≤ gn z) (k_b1 : kd b1 = 7) (n_b1 : b1 + 59 ≤ gn z) (h : fX7_takeFrom N M a b1 = some o) : CtV l z yX7_takeFrom cX7_takeFrom 3 none { frames := 1, cells := 0, slots := 0, locals := 22 } [.ref (gad z a), .ref (gad z b1)] M o := by
  refine Ct_of rfl (Nat.le_of_ble_eq_true rfl) ?_
  intro p e s m below meth c ls X hr hlk hG hS hl
  have X : gX p m c _ _ s _ RX7 z := X
  have hl : lv_has ls 3 [(0, .ref (gad z a)), (1, .ref (gad z b1))] := hl
  have hx := X.1
  have hb := X.2.1
  unfold fX7_takeFrom at h
  refine lv_aload_n hx hb dX7_takeFrom_0 rfl (lv_at hl 0 rfl) ?_
  refine lv_aload_n hx hb dX7_takeFrom_1 rfl (lv_at hl 1 rfl) ?_
  refine gf_X7_10 X hG (nx_0 n_b1) k_b1 fl_X7_85 dX7_takeFrom_2 ?_
  refine pf_X7_10 X hG hS (nx_0 n_a) k_a fl_X7_85 dX7_takeFrom_5 (fun H locs hG hS => ?_)
  obtain ⟨M1, eM1⟩ : ∃ y, y = sI M a 10 (M.1 b1 10) := ⟨_, rfl⟩
  rw [← eM1] at hG
  have h := nm_y h M1 eM1
  refine lv_aload_n hx hb dX7_takeFrom_8 rfl (lv_at hl 1 rfl) ?_
  refine gf_X7_11 X hG (nx_0 n_b1) k_b1 fl_X7_40 dX7_takeFrom_9 ?_
  refine lv_aload_n hx hb dX7_takeFrom_12 rfl (lv_at hl 0 rfl) ?_
  refine gf_X7_11 X hG (nx_0 n_a) k_a fl_X7_40 dX7_takeFrom_13 ?_
  obtain ⟨r2, hcr2, h⟩ := bd_y h
  refine g_cSV (av := [.ref (gad z (b1 + 18)), .ref (gad z (a + 18))]) (rest := []) X hG hS (ct_X7_over l z (kx_7_18 k_b1) (nx_a (a := b1) (k := 18) (n := 59) n_b1 (Nat.le_of_ble_eq_true rfl)) (by decide) (kx_7_18 k_a) (nx_a (a := a) (k := 18) (n := 59) n_a (Nat.le_of_ble_eq_true rfl)) (by decide) hcr2) mt_X7_over ml_X7_325 rfl ⟨rfl, rfl, Nat.le_of_ble_eq_true rfl, Nat.le_of_ble_eq_true rfl⟩ ⟨Nat.le_refl 0, Nat.le_refl 0⟩ hl.1 (Nat.le_of_ble_eq_true rfl) rfl dX7_takeFrom_16 (fun H locs hG hS => ?_)
  refine lv_aload_n hx hb dX7_takeFrom_19 rfl (lv_at hl 1 rfl) ?_
  refine gf_X7_12 X hG (nx_0 n_b1) k_b1 fl_X7_43 dX7_takeFrom_20 ?_
  refine lv_aload_n hx hb dX7_takeFrom_23 rfl (lv_at hl 0 rfl) ?_
  refine gf_X7_12 X hG (nx_0 n_a) k_a fl_X7_43 dX7_takeFrom_24 ?_
  obtain ⟨r3, hcr3, h⟩ := bd_y h
  refine g_cSV (av := [.ref (gad z (b1 + 19)), .ref (gad z (a + 19))]) (rest := []) X hG hS (ct_X7_over l z (kx_7_19 k_b1) (nx_a (a := b1) (k := 19) (n := 59) n_b1 (Nat.le_of_ble_eq_true rfl)) (by decide) (kx_7_19 k_a) (nx_a (a := a) (k := 19) (n := 59) n_a (Nat.le_of_ble_eq_true rfl)) (by decide) hcr3) mt_X7_over ml_X7_325 rfl ⟨rfl, rfl, Nat.le_of_ble_eq_true rfl, Nat.le_of_ble_eq_true rfl⟩ ⟨Nat.le_refl 0, Nat.le_refl 0⟩ hl.1 (Nat.le_of_ble_eq_true rfl) rfl dX7_takeFrom_27 (fun H locs hG hS => ?_)
  refine lv_aload_n hx hb dX7_takeFrom_30 rfl (lv_at hl 1 rfl) ?_
  refine gf_X7_13 X hG (nx_0 n_b1) k_b1 fl_X7_46 dX7_takeFrom_31 ?_
  refine lv_aload_n hx hb dX7_takeFrom_34 rfl (lv_at hl 0 rfl) ?_
  refine gf_X7_13 X hG (nx_0 n_a) k_a fl_X7_46 dX7_takeFrom_35 ?_
  obtain ⟨r4, hcr4, h⟩ := bd_y h
  refine g_cSV (av := [.ref (gad z (b1 + 20)), .ref (gad z (a + 20))]) (rest := []) X hG hS (ct_X7_over l z (kx_7_20 k_b1) (nx_a (a := b1) (k := 20) (n := 59) n_b1 (Nat.le_of_ble_eq_true rfl)) (by decide) (kx_7_20 k_a) (nx_a (a := a) (k := 20) (n := 59) n_a (Nat.le_of_ble_eq_true rfl)) (by decide) hcr4) mt_X7_over ml_X7_325 rfl ⟨rfl, rfl, Nat.le_of_ble_eq_true rfl, Nat.le_of_ble_eq_true rfl⟩ ⟨Nat.le_refl 0, Nat.le_refl 0⟩ hl.1 (Nat.le_of_ble_eq_true rfl) rfl dX7_takeFrom_38 (fun H locs hG hS => ?_)
  refine lv_iconst (v := 0) hx hb dX7_takeFrom_41 (by decide) ?_
  refine lv_istore_n (lv' := [(2, .int 0), (0, .ref (gad z a)), (1, .ref (gad z b1))]) hx hb dX7_takeFrom_42 rfl hl (by decide) rfl (fun ls hl => ?_)
  refine wX7_takeFrom_43 X hr hlk k_a n_a k_b1 n_b1 _ _ _ _ _ _ h hG hS (lv_sub hl [1, 2, 0] rfl)
set_option maxRecDepth 100000 in
set_option maxHeartbeats 4000000 in
theorem ct_X7_back (l : Launch) (z : gZ) {N : Nat} {M : Mem} {a : Nat} {o : Int32 × Mem} (k_a : kd a = 7) (n_a : a + 59 ≤ gn z) (k_k : kd (a + 59) = 7) (n_k : M.1 a 26 = 0 ∨ a + 59 + 59 ≤ gn z) (h : fX7_back N M a = some o) : CtI l z yX7_back cX7_back 1 (some .int) { frames := 2, cells := 0, slots := 0, locals := 44 } [.ref (gad z a)] M o.1 o.2 := by
  refine Ct_of rfl (Nat.le_of_ble_eq_true rfl) ?_
  intro p e s m below meth c ls X hr hlk hG hS hl
  have X : gX p m c _ _ s _ RX7 z := X
  have hl : lv_has ls 1 [(0, .ref (gad z a))] := hl
  have hx := X.1
  have hb := X.2.1
  unfold fX7_back at h
  refine lv_aload_n hx hb dX7_back_0 rfl (lv_at hl 0 rfl) ?_
  refine gf_X7_26 X hG (nx_0 n_a) k_a fl_X7_338 dX7_back_1 ?_
  by_cases q1 : M.1 a 26 = 0
  · have h := ite_y h q1
    rw [if_pos q1]
    refine g_rf0 ?_
    refine lv_ifnonnullN hx hb dX7_back_4 ?_
    refine lv_aload_n hx hb dX7_back_7 rfl (lv_at hl 0 rfl) ?_
    refine lv_bipush (v := (-5)) hx hb dX7_back_8 (by decide) ?_
    obtain ⟨r2, hcr2, h⟩ := bd_y h
    refine g_cVI (a := a) (ci := 7) (T := TX7) (N := 37) (av := [.int (-5)]) (rest := []) X hG hS (ct_X7_refuse l z k_a n_a hcr2) mt_X7_refuse ml_X7_106 rfl ⟨rfl, rfl, Nat.le_of_ble_eq_true rfl, Nat.le_of_ble_eq_true rfl⟩ ⟨Nat.le_refl 0, Nat.le_refl 0⟩ (nx_0 n_a) k_a (by decide) rfl hl.1 (Nat.le_of_ble_eq_true rfl) rfl dX7_back_10 (fun H locs hG hS => ?_)
    obtain rfl := Option.some.inj h
    exact g_iret X hr hlk hG hS dX7_back_13
  · have h := ite_n h q1
    rw [if_neg q1]
    refine g_rf1 ?_
    have n_kk : a + 59 + 59 ≤ gn z := (n_k.resolve_left q1)
    refine lv_ifnonnull (tgt := 14) hx hb dX7_back_4 (by decide) ?_
    refine lv_aload_n hx hb dX7_back_14 rfl (lv_at hl 0 rfl) ?_
    refine lv_aload_n hx hb dX7_back_15 rfl (lv_at hl 0 rfl) ?_
    refine gf_X7_26 X hG (nx_0 n_a) k_a fl_X7_338 dX7_back_16 ?_
    rw [if_neg q1]
    refine g_rf1 ?_
    have n_kk : a + 59 + 59 ≤ gn z := (n_k.resolve_left q1)
    obtain ⟨r4, hcr4, h⟩ := bd_y h
    refine g_cVV (a := a) (ci := 7) (T := TX7) (N := 37) (av := [.ref (gad z (a + 59))]) (rest := []) X hG hS (ct_X7_takeFrom l z k_a n_a k_k n_kk hcr4) mt_X7_takeFrom ml_X7_343 rfl ⟨rfl, rfl, Nat.le_of_ble_eq_true rfl, Nat.le_of_ble_eq_true rfl⟩ ⟨Nat.le_refl 0, Nat.le_refl 0⟩ (nx_0 n_a) k_a (by decide) rfl hl.1 (Nat.le_of_ble_eq_true rfl) rfl dX7_back_19 (fun H locs hG hS => ?_)
    refine lv_iconst (v := 1) hx hb dX7_back_22 (by decide) ?_
    obtain rfl := Option.some.inj h
    exact g_iret X hr hlk hG hS dX7_back_23
set_option maxRecDepth 100000 in
set_option maxHeartbeats 4000000 in
theorem wX7_status_51 {N : Nat} {p : Program} {l : Launch} {e : Env} {s : State} {m : MethodId} {args : Array Value} {below : List Frame} {meth : Method} {c : Code} {z : gZ} {M : Mem} {a : Nat} {o : Int32} (X : gX p m c cX7_status 4 s args RX7 z) (hr : meth.sig.returnType = (some .int)) (hlk : meth.locks = false) (k_a : kd a = 7) (n_a : a + 59 ≤ gn z)  : ∀ (n : Nat) (w2 : Int32) (w3 : Int32) (H : Heap) (locs : List Loc) (ls : Array Slot), fX7_status_51 N M a  n w2 w3 = some o → gW z M H → va_S (gA z) s.heap H locs → lv_has ls 4 [(0, .ref (gad z a)), (2, .int w2), (3, .int w3)] → W p l e { frames := 1, cells := 0, slots := 0, locals := 25 } s m args below meth c H locs 0 0 (MQ below (va_Qi (fun r' (_ : Unit) => r' = o) (fun _ t => gW z M t.heap) (gA z)) args s 0 0 (gA z)) (F0 m 51 ls []) := by
  have hx := X.1
  have hb := X.2.1
  intro n
  induction n with
  | zero => intro w2 w3 H locs ls h; cases h
  | succ n ih =>
    intro w2 w3 H locs ls h hG hS hl
    rw [fX7_status_51] at h
    refine lv_iload_n hx hb dX7_status_51 rfl (lv_at hl 2 rfl) ?_
    refine lv_bipush (v := 8) hx hb dX7_status_52 (by decide) ?_
    refine lv_icmp_ge (tgt := 80) hx hb dX7_status_54 (by decide) (fun q1 => ?_) (fun q1 => ?_)
    · have h := ite_y h q1
      refine lv_iload_n hx hb dX7_status_80 rfl (lv_at hl 1 rfl) ?_
      obtain rfl := Option.some.inj h
      exact g_iret X hr hlk hG hS dX7_status_81
    · have h := ite_n h q1
      refine lv_iload_n hx hb dX7_status_57 rfl (lv_at hl 1 rfl) ?_
      refine lv_aload_n hx hb dX7_status_58 rfl (lv_at hl 0 rfl) ?_
      refine gf_X7_0 X hG (nx_0 n_a) k_a fl_X7_7 dX7_status_59 ?_
      refine lv_iload_n hx hb dX7_status_62 rfl (lv_at hl 2 rfl) ?_
      obtain ⟨i2, h⟩ := gd_y h
      refine g_iald X hG (nx_a (a := a) (k := 1) (n := 59) n_a (Nat.le_of_ble_eq_true rfl)) (kx_7_1 k_a) (by decide) i2 dX7_status_63 ?_
      refine lv_if_eq (tgt := 71) hx hb dX7_status_64 (by decide) (fun q3 => ?_) (fun q3 => ?_)
      · have h := ite_y h q3
        refine lv_iconst (v := 0) hx hb dX7_status_71 (by decide) ?_
        refine lv_iadd hx hb dX7_status_72 ?_
        refine lv_topi (fun x4 ex4 => ?_)
        have h := nm_y h x4 ex4
        refine lv_istore_n (lv' := [(2, .int x4), (0, .ref (gad z a)), (3, .int w3)]) hx hb dX7_status_73 rfl hl (by decide) rfl (fun ls hl => ?_)
        refine lv_iinc (v := (w3 + 1)) (lv' := [(3, .int (w3 + 1)), (2, .int x4), (0, .ref (gad z a))]) hx hb dX7_status_74 hl (k := 2) rfl rfl (by decide) rfl (fun ls hl => ?_)
        refine lv_goto (tgt := 51) hx hb dX7_status_77 (by decide) ?_
        exact ih x4 (w3 + 1) _ _ _ h hG hS (lv_sub hl [2, 1, 0] rfl)
      · have h := ite_n h q3
        refine lv_iconst (v := 1) hx hb dX7_status_67 (by decide) ?_
        refine lv_goto (tgt := 72) hx hb dX7_status_68 (by decide) ?_
        refine lv_iadd hx hb dX7_status_72 ?_
        refine lv_topi (fun x5 ex5 => ?_)
        have h := nm_y h x5 ex5
        refine lv_istore_n (lv' := [(2, .int x5), (0, .ref (gad z a)), (3, .int w3)]) hx hb dX7_status_73 rfl hl (by decide) rfl (fun ls hl => ?_)
        refine lv_iinc (v := (w3 + 1)) (lv' := [(3, .int (w3 + 1)), (2, .int x5), (0, .ref (gad z a))]) hx hb dX7_status_74 hl (k := 2) rfl rfl (by decide) rfl (fun ls hl => ?_)
        refine lv_goto (tgt := 51) hx hb dX7_status_77 (by decide) ?_
        exact ih x5 (w3 + 1) _ _ _ h hG hS (lv_sub hl [2, 1, 0] rfl)
set_option maxRecDepth 100000 in
set_option maxHeartbeats 4000000 in
theorem ct_X7_status (l : Launch) (z : gZ) {N : Nat} {M : Mem} {a : Nat} {v1 : Int32} {o : Int32} (k_a : kd a = 7) (n_a : a + 59 ≤ gn z) (h : fX7_status N M a v1 = some o) : CtI l z yX7_status cX7_status 4 (some .int) { frames := 1, cells := 0, slots := 0, locals := 25 } [.ref (gad z a), .int v1] M o M := by
  refine Ct_of rfl (Nat.le_of_ble_eq_true rfl) ?_
  intro p e s m below meth c ls X hr hlk hG hS hl
  have X : gX p m c _ _ s _ RX7 z := X
  have hl : lv_has ls 4 [(0, .ref (gad z a)), (1, .int v1)] := hl
  have hx := X.1
  have hb := X.2.1
  unfold fX7_status at h
  refine lv_iload_n hx hb dX7_status_0 rfl (lv_at hl 1 rfl) ?_
  by_cases q1 : v1 = 0
  · have h := ite_y h q1
    refine lv_tableIn (tgt := 32) hx hb dX7_status_1 (by rw [q1]; decide) (by rw [q1]; decide) (by rw [q1]; rfl) (by decide) ?_
    refine lv_aload_n hx hb dX7_status_32 rfl (lv_at hl 0 rfl) ?_
    refine gf_X7_10 X hG (nx_0 n_a) k_a fl_X7_85 dX7_status_33 ?_
    obtain rfl := Option.some.inj h
    exact g_iret X hr hlk hG hS dX7_status_36
  · have h := ite_n h q1
    by_cases q2 : v1 = 1
    · have h := ite_y h q2
      refine lv_tableIn (tgt := 37) hx hb dX7_status_1 (by rw [q2]; decide) (by rw [q2]; decide) (by rw [q2]; rfl) (by decide) ?_
      refine lv_aload_n hx hb dX7_status_37 rfl (lv_at hl 0 rfl) ?_
      refine gf_X7_8 X hG (nx_0 n_a) k_a fl_X7_128 dX7_status_38 ?_
      obtain rfl := Option.some.inj h
      exact g_iret X hr hlk hG hS dX7_status_41
    · have h := ite_n h q2
      by_cases q3 : v1 = 2
      · have h := ite_y h q3
        refine lv_tableIn (tgt := 42) hx hb dX7_status_1 (by rw [q3]; decide) (by rw [q3]; decide) (by rw [q3]; rfl) (by decide) ?_
        refine lv_aload_n hx hb dX7_status_42 rfl (lv_at hl 0 rfl) ?_
        refine gf_X7_21 X hG (nx_0 n_a) k_a fl_X7_72 dX7_status_43 ?_
        obtain rfl := Option.some.inj h
        exact g_iret X hr hlk hG hS dX7_status_46
      · have h := ite_n h q3
        by_cases q4 : v1 = 3
        · have h := ite_y h q4
          refine lv_tableIn (tgt := 47) hx hb dX7_status_1 (by rw [q4]; decide) (by rw [q4]; decide) (by rw [q4]; rfl) (by decide) ?_
          refine lv_iconst (v := 0) hx hb dX7_status_47 (by decide) ?_
          refine lv_istore_n (lv' := [(2, .int 0), (0, .ref (gad z a)), (1, .int v1)]) hx hb dX7_status_48 rfl hl (by decide) rfl (fun ls hl => ?_)
          refine lv_iconst (v := 0) hx hb dX7_status_49 (by decide) ?_
          refine lv_istore_n (lv' := [(3, .int 0), (2, .int 0), (0, .ref (gad z a)), (1, .int v1)]) hx hb dX7_status_50 rfl hl (by decide) rfl (fun ls hl => ?_)
          refine wX7_status_51 X hr hlk k_a n_a _ _ _ _ _ _ h hG hS (lv_sub hl [2, 1, 0] rfl)
        · have h := ite_n h q4
          refine lv_tableOut (tgt := 82) hx hb dX7_status_1 (by have eq1 := lv_neT (a := 0) q1 (by decide); have eq2 := lv_neT (a := 1) q2 (by decide); have eq3 := lv_neT (a := 2) q3 (by decide); have eq4 := lv_neT (a := 3) q4 (by decide); omega) (by decide) ?_
          refine lv_iload_n hx hb dX7_status_82 rfl (lv_at hl 1 rfl) ?_
          refine lv_i2l hx hb dX7_status_83 rfl ?_
          refine lv_ldc2 (v := 12) hx hb X.2.2.2.1 (X.2.2.2.2.1 _ cn_X7_347) dX7_status_84 ?_
          refine lv_ldc2 (v := 16) hx hb X.2.2.2.1 (X.2.2.2.2.1 _ cn_X7_349) dX7_status_87 ?_
          obtain ⟨r6, hcr6, h⟩ := bd_y h
          refine g_cSI (av := [.long ((v1 : Int32).toInt64), .long 12, .long 16]) (rest := []) X hG hS (ct_X7_in l z  hcr6) mt_X7_in ml_X7_88 rfl ⟨rfl, rfl, Nat.le_of_ble_eq_true rfl, Nat.le_of_ble_eq_true rfl⟩ ⟨Nat.le_refl 0, Nat.le_refl 0⟩ hl.1 (Nat.le_of_ble_eq_true rfl) rfl dX7_status_90 (fun H locs hG hS => ?_)
          refine lv_if_eq (tgt := 108) hx hb dX7_status_93 (by decide) (fun q7 => ?_) (fun q7 => ?_)
          · have h := ite_y h q7
            refine lv_iconst (v := (-1)) hx hb dX7_status_108 (by decide) ?_
            obtain rfl := Option.some.inj h
            exact g_iret X hr hlk hG hS dX7_status_109
          · have h := ite_n h q7
            refine lv_aload_n hx hb dX7_status_96 rfl (lv_at hl 0 rfl) ?_
            refine gf_X7_9 X hG (nx_0 n_a) k_a fl_X7_37 dX7_status_97 ?_
            refine lv_iload_n hx hb dX7_status_100 rfl (lv_at hl 1 rfl) ?_
            refine lv_bipush (v := 10) hx hb dX7_status_101 (by decide) ?_
            refine lv_isub hx hb dX7_status_103 ?_
            obtain ⟨i8, h⟩ := gd_y h
            refine g_iald X hG (nx_a (a := a) (k := 17) (n := 59) n_a (Nat.le_of_ble_eq_true rfl)) (kx_7_17 k_a) (by decide) i8 dX7_status_104 ?_
            refine lv_goto (tgt := 109) hx hb dX7_status_105 (by decide) ?_
            obtain rfl := Option.some.inj h
            exact g_iret X hr hlk hG hS dX7_status_109
