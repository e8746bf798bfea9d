set_option maxRecDepth 100000 in
set_option maxHeartbeats 4000000 in
theorem wJ7_fill_d0a16_6 {N : Nat} {p : Program} {l : Launch} {e : Env} {s : State} {m : MethodId} {args : Array Value} {below : List Frame} {meth : Method} {c : Code} {z : gZ} {b0 : Nat} {len0 : Nat} {u1 : Int64} {u4 : Int32} {o : Mem} (X : gX p m c cJ7_fill_d0a16 5 s args RJ7 z) (hr : meth.sig.returnType = none) (hlk : meth.locks = false) (k_b0 : kd b0 = 20000 + len0) (n_b0 : b0 < gn z) (l_b0 : len0 < 10000)  : ∀ (n : Nat) (Mw : Mem) (w3 : Int32) (H : Heap) (locs : List Loc) (ls : Array Slot), fJ7_fill_d0a16_6 N b0 len0 u1 u4  n Mw w3 = some o → gW z Mw H → va_S (gA z) s.heap H locs → lv_has ls 5 [(0, .ref (gad z b0)), (1, .long u1), (3, .int w3), (4, .int u4)] → W p l e { frames := 0, cells := 0, slots := 0, locals := 0 } s m args below meth c H locs 0 0 (MQ below (va_Qv (fun (_ : Unit) => True) (fun _ t => gW z o t.heap) (gA z)) args s 0 0 (gA z)) (F0 m 6 ls []) := by
  have hx := X.1
  have hb := X.2.1
  intro n
  induction n with
  | zero => intro Mw w3 H locs ls h; cases h
  | succ n ih =>
    intro Mw w3 H locs ls h hG hS hl
    rw [fJ7_fill_d0a16_6] at h
    refine lv_iload_n hx hb dJ7_fill_d0a16_6 rfl (lv_at hl 2 rfl) ?_
    refine lv_iload hx hb dJ7_fill_d0a16_7 (lv_at hl 3 rfl) ?_
    refine lv_icmp_ge (tgt := 22) hx hb dJ7_fill_d0a16_9 (by decide) (fun q1 => ?_) (fun q1 => ?_)
    · have h := ite_y h q1
      obtain rfl := Option.some.inj h
      exact g_vret X hr hlk hG hS dJ7_fill_d0a16_22
    · have h := ite_n h q1
      refine lv_aload_n hx hb dJ7_fill_d0a16_12 rfl (lv_at hl 0 rfl) ?_
      refine lv_iload_n hx hb dJ7_fill_d0a16_13 rfl (lv_at hl 2 rfl) ?_
      refine lv_lload_n hx hb dJ7_fill_d0a16_14 rfl (lv_at hl 1 rfl) ?_
      obtain ⟨i2, h⟩ := gd_y h
      refine g_last X hG hS n_b0 k_b0 l_b0 i2 dJ7_fill_d0a16_15 (fun H locs hG hS => ?_)
      obtain ⟨M3, eM3⟩ : ∃ y, y = sJ Mw b0 (w3 : Int32).toNatClampNeg u1 := ⟨_, rfl⟩
      rw [← eM3] at hG
      have h := nm_y h M3 eM3
      refine lv_iinc (v := (w3 + 1)) (lv' := [(3, .int (w3 + 1)), (0, .ref (gad z b0)), (1, .long u1), (4, .int u4)]) hx hb dJ7_fill_d0a16_16 hl (k := 2) rfl rfl (by decide) rfl (fun ls hl => ?_)
      refine lv_goto (tgt := 6) hx hb dJ7_fill_d0a16_19 (by decide) ?_
      exact ih M3 (w3 + 1) _ _ _ h hG hS (lv_sub hl [1, 2, 0, 3] rfl)
set_option maxRecDepth 100000 in
set_option maxHeartbeats 4000000 in
theorem ct_J7_fill_d0a16 (l : Launch) (z : gZ) {N : Nat} {M : Mem} {len0 : Nat} {b0 : Nat} {v1 : Int64} {o : Mem} (k_b0 : kd b0 = 20000 + len0) (n_b0 : b0 < gn z) (l_b0 : len0 < 10000) (h : fJ7_fill_d0a16 N M len0 b0 v1 = some o) : CtV l z yJ7_fill_d0a16 cJ7_fill_d0a16 5 none { frames := 0, cells := 0, slots := 0, locals := 0 } [.ref (gad z b0), .long v1] M o := by
  refine Ct_of rfl (Nat.le_of_ble_eq_true rfl) ?_
  intro p e s m below meth c ls X hr hlk hG hS hl
  have X : gX p m c _ _ s _ RJ7 z := X
  have hl : lv_has ls 5 [(0, .ref (gad z b0)), (1, .long v1)] := hl
  have hx := X.1
  have hb := X.2.1
  unfold fJ7_fill_d0a16 at h
  refine lv_iconst (v := 0) hx hb dJ7_fill_d0a16_0 (by decide) ?_
  refine lv_istore_n (lv' := [(3, .int 0), (0, .ref (gad z b0)), (1, .long v1)]) hx hb dJ7_fill_d0a16_1 rfl hl (by decide) rfl (fun ls hl => ?_)
  refine lv_aload_n hx hb dJ7_fill_d0a16_2 rfl (lv_at hl 1 rfl) ?_
  refine g_alenJ X hG n_b0 k_b0 l_b0 dJ7_fill_d0a16_3 ?_
  refine lv_topi (fun x1 ex1 => ?_)
  have h := nm_y h x1 ex1
  refine lv_istore (lv' := [(4, .int x1), (3, .int 0), (0, .ref (gad z b0)), (1, .long v1)]) hx hb dJ7_fill_d0a16_4 hl (by decide) rfl (fun ls hl => ?_)
  refine wJ7_fill_d0a16_6 X hr hlk k_b0 n_b0 l_b0 _ _ _ _ _ _ h hG hS (lv_sub hl [2, 3, 1, 0] rfl)
set_option maxRecDepth 100000 in
set_option maxHeartbeats 4000000 in
theorem ct_X3_putRow (l : Launch) (z : gZ) {N : Nat} {M : Mem} {a : Nat} {v1 : Int32} {v2 : Int32} {o : Mem} (k_a : kd a = 3) (n_a : a + 2 ≤ gn z) (h : fX3_putRow N M a v1 v2 = some o) : CtV l z yX3_putRow cX3_putRow 3 none { frames := 1, cells := 0, slots := 0, locals := 24 } [.ref (gad z a), .int v1, .int v2] M o := by
  refine Ct_of rfl (Nat.le_of_ble_eq_true rfl) ?_
  intro p e s m below meth c ls X hr hlk hG hS hl
  have X : gX p m c _ _ s _ RX3 z := X
  have hl : lv_has ls 3 [(0, .ref (gad z a)), (1, .int v1), (2, .int v2)] := hl
  have hx := X.1
  have hb := X.2.1
  unfold fX3_putRow at h
  refine lv_aload_n hx hb dX3_putRow_0 rfl (lv_at hl 0 rfl) ?_
  refine lv_iload_n hx hb dX3_putRow_1 rfl (lv_at hl 1 rfl) ?_
  refine pf_X3_1 X hG hS (nx_0 n_a) k_a fl_X3_15 dX3_putRow_2 (fun H locs hG hS => ?_)
  obtain ⟨M1, eM1⟩ : ∃ y, y = sI M a 1 v1 := ⟨_, rfl⟩
  rw [← eM1] at hG
  have h := nm_y h M1 eM1
  refine lv_aload_n hx hb dX3_putRow_5 rfl (lv_at hl 0 rfl) ?_
  refine lv_iload_n hx hb dX3_putRow_6 rfl (lv_at hl 2 rfl) ?_
  refine pf_X3_2 X hG hS (nx_0 n_a) k_a fl_X3_19 dX3_putRow_7 (fun H locs hG hS => ?_)
  obtain ⟨M2, eM2⟩ : ∃ y, y = sI M1 a 2 v2 := ⟨_, rfl⟩
  rw [← eM2] at hG
  have h := nm_y h M2 eM2
  refine lv_aload_n hx hb dX3_putRow_10 rfl (lv_at hl 0 rfl) ?_
  refine gf_X3_0 X hG (nx_0 n_a) k_a fl_X3_9 dX3_putRow_11 ?_
  refine lv_lconst (v := 0) hx hb dX3_putRow_14 (by decide) ?_
  obtain ⟨r3, hcr3, h⟩ := bd_y h
  refine g_cSV (av := [.ref (gad z (a + 1)), .long 0]) (rest := []) X hG hS (ct_J7_fill_d0a16 l z (kx_3_1 k_a) (nx_a (a := a) (k := 1) (n := 2) n_a (Nat.le_of_ble_eq_true rfl)) (by decide) hcr3) mt_J7_fill_d0a16 ml_X3_22 rfl ⟨rfl, rfl, Nat.le_of_ble_eq_true rfl, Nat.le_of_ble_eq_true rfl⟩ ⟨Nat.le_refl 0, Nat.le_refl 0⟩ hl.1 (Nat.le_of_ble_eq_true rfl) rfl dX3_putRow_15 (fun H locs hG hS => ?_)
  obtain rfl := Option.some.inj h
  exact g_vret X hr hlk hG hS dX3_putRow_18
set_option maxRecDepth 100000 in
set_option maxHeartbeats 4000000 in
theorem ct_X3_isWay (l : Launch) (z : gZ) {N : Nat} {M : Mem} {a : Nat} {o : Int32} (k_a : kd a = 3) (n_a : a + 2 ≤ gn z) (h : fX3_isWay N M a = some o) : CtI l z yX3_isWay cX3_isWay 1 (some .boolean) { frames := 0, cells := 0, slots := 0, locals := 0 } [.ref (gad z a)] M o M := by
  refine Ct_of rfl (Nat.le_of_ble_eq_true rfl) ?_
  intro p e s m below meth c ls X hr hlk hG hS hl
  have X : gX p m c _ _ s _ RX3 z := X
  have hl : lv_has ls 1 [(0, .ref (gad z a))] := hl
  have hx := X.1
  have hb := X.2.1
  unfold fX3_isWay at h
  refine lv_aload_n hx hb dX3_isWay_0 rfl (lv_at hl 0 rfl) ?_
  refine gf_X3_1 X hG (nx_0 n_a) k_a fl_X3_15 dX3_isWay_1 ?_
  refine lv_bipush (v := 10) hx hb dX3_isWay_4 (by decide) ?_
  refine lv_icmp_lt (tgt := 13) hx hb dX3_isWay_6 (by decide) (fun q1 => ?_) (fun q1 => ?_)
  · have h := ite_y h q1
    refine lv_iconst (v := 0) hx hb dX3_isWay_13 (by decide) ?_
    obtain rfl := Option.some.inj h
    exact g_zret (zn (Or.inl rfl)) X hr hlk hG hS dX3_isWay_14
  · have h := ite_n h q1
    refine lv_iconst (v := 1) hx hb dX3_isWay_9 (by decide) ?_
    refine lv_goto (tgt := 14) hx hb dX3_isWay_10 (by decide) ?_
    obtain rfl := Option.some.inj h
    exact g_zret (zn (Or.inr rfl)) X hr hlk hG hS dX3_isWay_14
set_option maxRecDepth 100000 in
set_option maxHeartbeats 4000000 in
theorem ct_X3_isRow (l : Launch) (z : gZ) {N : Nat} {M : Mem} {a : Nat} {o : Int32} (k_a : kd a = 3) (n_a : a + 2 ≤ gn z) (h : fX3_isRow N M a = some o) : CtI l z yX3_isRow cX3_isRow 1 (some .boolean) { frames := 0, cells := 0, slots := 0, locals := 0 } [.ref (gad z a)] M o M := by
  refine Ct_of rfl (Nat.le_of_ble_eq_true rfl) ?_
  intro p e s m below meth c ls X hr hlk hG hS hl
  have X : gX p m c _ _ s _ RX3 z := X
  have hl : lv_has ls 1 [(0, .ref (gad z a))] := hl
  have hx := X.1
  have hb := X.2.1
  unfold fX3_isRow at h
  refine lv_aload_n hx hb dX3_isRow_0 rfl (lv_at hl 0 rfl) ?_
  refine gf_X3_1 X hG (nx_0 n_a) k_a fl_X3_15 dX3_isRow_1 ?_
  refine lv_if_lt (tgt := 19) hx hb dX3_isRow_4 (by decide) (fun q1 => ?_) (fun q1 => ?_)
  · have h := ite_y h q1
    refine lv_iconst (v := 0) hx hb dX3_isRow_19 (by decide) ?_
    obtain rfl := Option.some.inj h
    exact g_zret (zn (Or.inl rfl)) X hr hlk hG hS dX3_isRow_20
  · have h := ite_n h q1
    refine lv_aload_n hx hb dX3_isRow_7 rfl (lv_at hl 0 rfl) ?_
    refine gf_X3_1 X hG (nx_0 n_a) k_a fl_X3_15 dX3_isRow_8 ?_
    refine lv_iconst (v := 4) hx hb dX3_isRow_11 (by decide) ?_
    refine lv_icmp_gt (tgt := 19) hx hb dX3_isRow_12 (by decide) (fun q2 => ?_) (fun q2 => ?_)
    · have h := ite_y h q2
      refine lv_iconst (v := 0) hx hb dX3_isRow_19 (by decide) ?_
      obtain rfl := Option.some.inj h
      exact g_zret (zn (Or.inl rfl)) X hr hlk hG hS dX3_isRow_20
    · have h := ite_n h q2
      refine lv_iconst (v := 1) hx hb dX3_isRow_15 (by decide) ?_
      refine lv_goto (tgt := 20) hx hb dX3_isRow_16 (by decide) ?_
      obtain rfl := Option.some.inj h
      exact g_zret (zn (Or.inr rfl)) X hr hlk hG hS dX3_isRow_20
set_option maxRecDepth 100000 in
set_option maxHeartbeats 4000000 in
theorem ct_X3_hasPlaces (l : Launch) (z : gZ) {N : Nat} {M : Mem} {a : Nat} {v1 : Int32} {v2 : Int32} {o : Int32} (k_a : kd a = 3) (n_a : a + 2 ≤ gn z) (h : fX3_hasPlaces N M a v1 v2 = some o) : CtI l z yX3_hasPlaces cX3_hasPlaces 3 (some .boolean) { frames := 0, cells := 0, slots := 0, locals := 0 } [.ref (gad z a), .int v1, .int v2] M o M := by
  refine Ct_of rfl (Nat.le_of_ble_eq_true rfl) ?_
  intro p e s m below meth c ls X hr hlk hG hS hl
  have X : gX p m c _ _ s _ RX3 z := X
  have hl : lv_has ls 3 [(0, .ref (gad z a)), (1, .int v1), (2, .int v2)] := hl
  have hx := X.1
  have hb := X.2.1
  unfold fX3_hasPlaces at h
  refine lv_iload_n hx hb dX3_hasPlaces_0 rfl (lv_at hl 1 rfl) ?_
  refine lv_if_lt (tgt := 30) hx hb dX3_hasPlaces_1 (by decide) (fun q1 => ?_) (fun q1 => ?_)
  · have h := ite_y h q1
    refine lv_iconst (v := 0) hx hb dX3_hasPlaces_30 (by decide) ?_
    obtain rfl := Option.some.inj h
    exact g_zret (zn (Or.inl rfl)) X hr hlk hG hS dX3_hasPlaces_31
  · have h := ite_n h q1
    refine lv_iload_n hx hb dX3_hasPlaces_4 rfl (lv_at hl 2 rfl) ?_
    refine lv_if_lt (tgt := 30) hx hb dX3_hasPlaces_5 (by decide) (fun q2 => ?_) (fun q2 => ?_)
    · have h := ite_y h q2
      refine lv_iconst (v := 0) hx hb dX3_hasPlaces_30 (by decide) ?_
      obtain rfl := Option.some.inj h
      exact g_zret (zn (Or.inl rfl)) X hr hlk hG hS dX3_hasPlaces_31
    · have h := ite_n h q2
      refine lv_iload_n hx hb dX3_hasPlaces_8 rfl (lv_at hl 1 rfl) ?_
      refine lv_aload_n hx hb dX3_hasPlaces_9 rfl (lv_at hl 0 rfl) ?_
      refine gf_X3_2 X hG (nx_0 n_a) k_a fl_X3_19 dX3_hasPlaces_10 ?_
      refine lv_icmp_gt (tgt := 30) hx hb dX3_hasPlaces_13 (by decide) (fun q3 => ?_) (fun q3 => ?_)
      · have h := ite_y h q3
        refine lv_iconst (v := 0) hx hb dX3_hasPlaces_30 (by decide) ?_
        obtain rfl := Option.some.inj h
        exact g_zret (zn (Or.inl rfl)) X hr hlk hG hS dX3_hasPlaces_31
      · have h := ite_n h q3
        refine lv_iload_n hx hb dX3_hasPlaces_16 rfl (lv_at hl 2 rfl) ?_
        refine lv_aload_n hx hb dX3_hasPlaces_17 rfl (lv_at hl 0 rfl) ?_
        refine gf_X3_2 X hG (nx_0 n_a) k_a fl_X3_19 dX3_hasPlaces_18 ?_
        refine lv_iload_n hx hb dX3_hasPlaces_21 rfl (lv_at hl 1 rfl) ?_
        refine lv_isub hx hb dX3_hasPlaces_22 ?_
        refine lv_icmp_gt (tgt := 30) hx hb dX3_hasPlaces_23 (by decide) (fun q4 => ?_) (fun q4 => ?_)
        · have h := ite_y h q4
          refine lv_iconst (v := 0) hx hb dX3_hasPlaces_30 (by decide) ?_
          obtain rfl := Option.some.inj h
          exact g_zret (zn (Or.inl rfl)) X hr hlk hG hS dX3_hasPlaces_31
        · have h := ite_n h q4
          refine lv_iconst (v := 1) hx hb dX3_hasPlaces_26 (by decide) ?_
          refine lv_goto (tgt := 31) hx hb dX3_hasPlaces_27 (by decide) ?_
          obtain rfl := Option.some.inj h
          exact g_zret (zn (Or.inr rfl)) X hr hlk hG hS dX3_hasPlaces_31
set_option maxRecDepth 100000 in
set_option maxHeartbeats 4000000 in
theorem ct_X3_put (l : Launch) (z : gZ) {N : Nat} {M : Mem} {a : Nat} {v1 : Int32} {v2 : Int64} {o : Mem} (k_a : kd a = 3) (n_a : a + 2 ≤ gn z) (h : fX3_put N M a v1 v2 = some o) : CtV l z yX3_put cX3_put 4 none { frames := 0, cells := 0, slots := 0, locals := 0 } [.ref (gad z a), .int v1, .long v2] M o := by
  refine Ct_of rfl (Nat.le_of_ble_eq_true rfl) ?_
  intro p e s m below meth c ls X hr hlk hG hS hl
  have X : gX p m c _ _ s _ RX3 z := X
  have hl : lv_has ls 4 [(0, .ref (gad z a)), (1, .int v1), (2, .long v2)] := hl
  have hx := X.1
  have hb := X.2.1
  unfold fX3_put at h
  refine lv_iload_n hx hb dX3_put_0 rfl (lv_at hl 1 rfl) ?_
  refine lv_if_lt (tgt := 10) hx hb dX3_put_1 (by decide) (fun q1 => ?_) (fun q1 => ?_)
  · have h := ite_y h q1
    obtain rfl := Option.some.inj h
    exact g_vret X hr hlk hG hS dX3_put_10
  · have h := ite_n h q1
    refine lv_iload_n hx hb dX3_put_4 rfl (lv_at hl 1 rfl) ?_
    refine lv_bipush (v := 40) hx hb dX3_put_5 (by decide) ?_
    refine lv_icmp_lt (tgt := 11) hx hb dX3_put_7 (by decide) (fun q2 => ?_) (fun q2 => ?_)
    · have h := ite_y h q2
      refine lv_aload_n hx hb dX3_put_11 rfl (lv_at hl 0 rfl) ?_
      refine gf_X3_1 X hG (nx_0 n_a) k_a fl_X3_15 dX3_put_12 ?_
      by_cases q3 : (M.1 a 1) = 0
      · have h := ite_y h q3
        refine lv_tableIn (tgt := 48) hx hb dX3_put_15 (by rw [q3]; decide) (by rw [q3]; decide) (by rw [q3]; rfl) (by decide) ?_
        refine lv_aload_n hx hb dX3_put_48 rfl (lv_at hl 0 rfl) ?_
        refine gf_X3_0 X hG (nx_0 n_a) k_a fl_X3_9 dX3_put_49 ?_
        refine lv_iload_n hx hb dX3_put_52 rfl (lv_at hl 1 rfl) ?_
        refine lv_lload_n hx hb dX3_put_53 rfl (lv_at hl 2 rfl) ?_
        refine lv_l2i hx hb dX3_put_54 rfl ?_
        refine lv_i2b hx hb dX3_put_55 rfl ?_
        refine lv_i2l hx hb dX3_put_56 rfl ?_
        obtain ⟨i4, h⟩ := gd_y h
        refine g_last X hG hS (nx_a (a := a) (k := 1) (n := 2) n_a (Nat.le_of_ble_eq_true rfl)) (kx_3_1 k_a) (by decide) i4 dX3_put_57 (fun H locs hG hS => ?_)
        obtain ⟨M5, eM5⟩ : ∃ y, y = sJ M (a + 1) (v1 : Int32).toNatClampNeg ((((v2 : Int64).toInt32 : Int32).toInt8.toInt32 : Int32).toInt64) := ⟨_, rfl⟩
        rw [← eM5] at hG
        have h := nm_y h M5 eM5
        refine lv_goto (tgt := 113) hx hb dX3_put_58 (by decide) ?_
        obtain rfl := Option.some.inj h
        exact g_vret X hr hlk hG hS dX3_put_113
      · have h := ite_n h q3
        by_cases q6 : (M.1 a 1) = 1
        · have h := ite_y h q6
          refine lv_tableIn (tgt := 61) hx hb dX3_put_15 (by rw [q6]; decide) (by rw [q6]; decide) (by rw [q6]; rfl) (by decide) ?_
          refine lv_aload_n hx hb dX3_put_61 rfl (lv_at hl 0 rfl) ?_
          refine gf_X3_0 X hG (nx_0 n_a) k_a fl_X3_9 dX3_put_62 ?_
          refine lv_iload_n hx hb dX3_put_65 rfl (lv_at hl 1 rfl) ?_
          refine lv_lload_n hx hb dX3_put_66 rfl (lv_at hl 2 rfl) ?_
          refine lv_l2i hx hb dX3_put_67 rfl ?_
          refine lv_i2s hx hb dX3_put_68 rfl ?_
          refine lv_i2l hx hb dX3_put_69 rfl ?_
          obtain ⟨i7, h⟩ := gd_y h
          refine g_last X hG hS (nx_a (a := a) (k := 1) (n := 2) n_a (Nat.le_of_ble_eq_true rfl)) (kx_3_1 k_a) (by decide) i7 dX3_put_70 (fun H locs hG hS => ?_)
          obtain ⟨M8, eM8⟩ : ∃ y, y = sJ M (a + 1) (v1 : Int32).toNatClampNeg ((((v2 : Int64).toInt32 : Int32).toInt16.toInt32 : Int32).toInt64) := ⟨_, rfl⟩
          rw [← eM8] at hG
          have h := nm_y h M8 eM8
          refine lv_goto (tgt := 113) hx hb dX3_put_71 (by decide) ?_
          obtain rfl := Option.some.inj h
          exact g_vret X hr hlk hG hS dX3_put_113
        · have h := ite_n h q6
          by_cases q9 : (M.1 a 1) = 2
          · have h := ite_y h q9
            refine lv_tableIn (tgt := 74) hx hb dX3_put_15 (by rw [q9]; decide) (by rw [q9]; decide) (by rw [q9]; rfl) (by decide) ?_
            refine lv_aload_n hx hb dX3_put_74 rfl (lv_at hl 0 rfl) ?_
            refine gf_X3_0 X hG (nx_0 n_a) k_a fl_X3_9 dX3_put_75 ?_
            refine lv_iload_n hx hb dX3_put_78 rfl (lv_at hl 1 rfl) ?_
            refine lv_lload_n hx hb dX3_put_79 rfl (lv_at hl 2 rfl) ?_
            refine lv_l2i hx hb dX3_put_80 rfl ?_
            refine lv_i2l hx hb dX3_put_81 rfl ?_
            obtain ⟨i10, h⟩ := gd_y h
            refine g_last X hG hS (nx_a (a := a) (k := 1) (n := 2) n_a (Nat.le_of_ble_eq_true rfl)) (kx_3_1 k_a) (by decide) i10 dX3_put_82 (fun H locs hG hS => ?_)
            obtain ⟨M11, eM11⟩ : ∃ y, y = sJ M (a + 1) (v1 : Int32).toNatClampNeg (((v2 : Int64).toInt32 : Int32).toInt64) := ⟨_, rfl⟩
            rw [← eM11] at hG
            have h := nm_y h M11 eM11
            refine lv_goto (tgt := 113) hx hb dX3_put_83 (by decide) ?_
            obtain rfl := Option.some.inj h
            exact g_vret X hr hlk hG hS dX3_put_113
          · have h := ite_n h q9
            by_cases q12 : (M.1 a 1) = 3
            · have h := ite_y h q12
              refine lv_tableIn (tgt := 106) hx hb dX3_put_15 (by rw [q12]; decide) (by rw [q12]; decide) (by rw [q12]; rfl) (by decide) ?_
              refine lv_aload_n hx hb dX3_put_106 rfl (lv_at hl 0 rfl) ?_
              refine gf_X3_0 X hG (nx_0 n_a) k_a fl_X3_9 dX3_put_107 ?_
              refine lv_iload_n hx hb dX3_put_110 rfl (lv_at hl 1 rfl) ?_
              refine lv_lload_n hx hb dX3_put_111 rfl (lv_at hl 2 rfl) ?_
              obtain ⟨i13, h⟩ := gd_y h
              refine g_last X hG hS (nx_a (a := a) (k := 1) (n := 2) n_a (Nat.le_of_ble_eq_true rfl)) (kx_3_1 k_a) (by decide) i13 dX3_put_112 (fun H locs hG hS => ?_)
              obtain ⟨M14, eM14⟩ : ∃ y, y = sJ M (a + 1) (v1 : Int32).toNatClampNeg v2 := ⟨_, rfl⟩
              rw [← eM14] at hG
              have h := nm_y h M14 eM14
              obtain rfl := Option.some.inj h
              exact g_vret X hr hlk hG hS dX3_put_113
            · have h := ite_n h q12
              by_cases q15 : (M.1 a 1) = 4
              · have h := ite_y h q15
                refine lv_tableIn (tgt := 86) hx hb dX3_put_15 (by rw [q15]; decide) (by rw [q15]; decide) (by rw [q15]; rfl) (by decide) ?_
                refine lv_aload_n hx hb dX3_put_86 rfl (lv_at hl 0 rfl) ?_
                refine gf_X3_0 X hG (nx_0 n_a) k_a fl_X3_9 dX3_put_87 ?_
                refine lv_iload_n hx hb dX3_put_90 rfl (lv_at hl 1 rfl) ?_
                refine lv_lload_n hx hb dX3_put_91 rfl (lv_at hl 2 rfl) ?_
                refine lv_lconst (v := 0) hx hb dX3_put_92 (by decide) ?_
                refine W.lcmp hx hb dX3_put_93 ?_
                refine lv_if_eq (tgt := 101) hx hb dX3_put_94 (by decide) (fun q16 => ?_) (fun q16 => ?_)
                · have h := ite_y h q16
                  refine lv_lconst (v := 0) hx hb dX3_put_101 (by decide) ?_
                  obtain ⟨i17, h⟩ := gd_y h
                  refine g_last X hG hS (nx_a (a := a) (k := 1) (n := 2) n_a (Nat.le_of_ble_eq_true rfl)) (kx_3_1 k_a) (by decide) i17 dX3_put_102 (fun H locs hG hS => ?_)
                  obtain ⟨M18, eM18⟩ : ∃ y, y = sJ M (a + 1) (v1 : Int32).toNatClampNeg 0 := ⟨_, rfl⟩
                  rw [← eM18] at hG
                  have h := nm_y h M18 eM18
                  refine lv_goto (tgt := 113) hx hb dX3_put_103 (by decide) ?_
                  obtain rfl := Option.some.inj h
                  exact g_vret X hr hlk hG hS dX3_put_113
                · have h := ite_n h q16
                  refine lv_lconst (v := 1) hx hb dX3_put_97 (by decide) ?_
                  refine lv_goto (tgt := 102) hx hb dX3_put_98 (by decide) ?_
                  obtain ⟨i19, h⟩ := gd_y h
                  refine g_last X hG hS (nx_a (a := a) (k := 1) (n := 2) n_a (Nat.le_of_ble_eq_true rfl)) (kx_3_1 k_a) (by decide) i19 dX3_put_102 (fun H locs hG hS => ?_)
                  obtain ⟨M20, eM20⟩ : ∃ y, y = sJ M (a + 1) (v1 : Int32).toNatClampNeg 1 := ⟨_, rfl⟩
                  rw [← eM20] at hG
                  have h := nm_y h M20 eM20
                  refine lv_goto (tgt := 113) hx hb dX3_put_103 (by decide) ?_
                  obtain rfl := Option.some.inj h
                  exact g_vret X hr hlk hG hS dX3_put_113
              · have h := ite_n h q15
                refine lv_tableOut (tgt := 106) hx hb dX3_put_15 (by have eq3 := lv_neT (a := 0) q3 (by decide); have eq6 := lv_neT (a := 1) q6 (by decide); have eq9 := lv_neT (a := 2) q9 (by decide); have eq12 := lv_neT (a := 3) q12 (by decide); have eq15 := lv_neT (a := 4) q15 (by decide); omega) (by decide) ?_
                refine lv_aload_n hx hb dX3_put_106 rfl (lv_at hl 0 rfl) ?_
                refine gf_X3_0 X hG (nx_0 n_a) k_a fl_X3_9 dX3_put_107 ?_
                refine lv_iload_n hx hb dX3_put_110 rfl (lv_at hl 1 rfl) ?_
                refine lv_lload_n hx hb dX3_put_111 rfl (lv_at hl 2 rfl) ?_
                obtain ⟨i21, h⟩ := gd_y h
                refine g_last X hG hS (nx_a (a := a) (k := 1) (n := 2) n_a (Nat.le_of_ble_eq_true rfl)) (kx_3_1 k_a) (by decide) i21 dX3_put_112 (fun H locs hG hS => ?_)
                obtain ⟨M22, eM22⟩ : ∃ y, y = sJ M (a + 1) (v1 : Int32).toNatClampNeg v2 := ⟨_, rfl⟩
                rw [← eM22] at hG
                have h := nm_y h M22 eM22
                obtain rfl := Option.some.inj h
                exact g_vret X hr hlk hG hS dX3_put_113
    · have h := ite_n h q2
      obtain rfl := Option.some.inj h
      exact g_vret X hr hlk hG hS dX3_put_10
set_option maxRecDepth 100000 in
set_option maxHeartbeats 4000000 in
theorem ct_X3_putWay (l : Launch) (z : gZ) {N : Nat} {M : Mem} {a : Nat} {v1 : Int32} {v2 : Int32} {o : Mem} (k_a : kd a = 3) (n_a : a + 2 ≤ gn z) (h : fX3_putWay N M a v1 v2 = some o) : CtV l z yX3_putWay cX3_putWay 3 none { frames := 0, cells := 0, slots := 0, locals := 0 } [.ref (gad z a), .int v1, .int v2] M o := by
  refine Ct_of rfl (Nat.le_of_ble_eq_true rfl) ?_
  intro p e s m below meth c ls X hr hlk hG hS hl
  have X : gX p m c _ _ s _ RX3 z := X
  have hl : lv_has ls 3 [(0, .ref (gad z a)), (1, .int v1), (2, .int v2)] := hl
  have hx := X.1
  have hb := X.2.1
  unfold fX3_putWay at h
  refine lv_aload_n hx hb dX3_putWay_0 rfl (lv_at hl 0 rfl) ?_
  refine lv_bipush (v := 10) hx hb dX3_putWay_1 (by decide) ?_
  refine lv_iload_n hx hb dX3_putWay_3 rfl (lv_at hl 1 rfl) ?_
  refine lv_iadd hx hb dX3_putWay_4 ?_
  refine pf_X3_1 X hG hS (nx_0 n_a) k_a fl_X3_15 dX3_putWay_5 (fun H locs hG hS => ?_)
  obtain ⟨M1, eM1⟩ : ∃ y, y = sI M a 1 (10 + v1) := ⟨_, rfl⟩
  rw [← eM1] at hG
  have h := nm_y h M1 eM1
  refine lv_aload_n hx hb dX3_putWay_8 rfl (lv_at hl 0 rfl) ?_
  refine lv_iconst (v := 0) hx hb dX3_putWay_9 (by decide) ?_
  refine pf_X3_2 X hG hS (nx_0 n_a) k_a fl_X3_19 dX3_putWay_10 (fun H locs hG hS => ?_)
  obtain ⟨M2, eM2⟩ : ∃ y, y = sI M1 a 2 0 := ⟨_, rfl⟩
  rw [← eM2] at hG
  have h := nm_y h M2 eM2
  refine lv_aload_n hx hb dX3_putWay_13 rfl (lv_at hl 0 rfl) ?_
  refine lv_iload_n hx hb dX3_putWay_14 rfl (lv_at hl 2 rfl) ?_
  refine pf_X3_3 X hG hS (nx_0 n_a) k_a fl_X3_28 dX3_putWay_15 (fun H locs hG hS => ?_)
  obtain ⟨M3, eM3⟩ : ∃ y, y = sI M2 a 3 v2 := ⟨_, rfl⟩
  rw [← eM3] at hG
  have h := nm_y h M3 eM3
  obtain rfl := Option.some.inj h
  exact g_vret X hr hlk hG hS dX3_putWay_18
set_option maxRecDepth 100000 in
set_option maxHeartbeats 4000000 in
theorem ct_X3_told (l : Launch) (z : gZ) {N : Nat} {M : Mem} {a : Nat} {v1 : Int32} {o : Int64} (k_a : kd a = 3) (n_a : a + 2 ≤ gn z) (h : fX3_told N M a v1 = some o) : CtL l z yX3_told cX3_told 2 (some .long) { frames := 1, cells := 0, slots := 0, locals := 22 } [.ref (gad z a), .int v1] M o M := by
  refine Ct_of rfl (Nat.le_of_ble_eq_true rfl) ?_
  intro p e s m below meth c ls X hr hlk hG hS hl
  have X : gX p m c _ _ s _ RX3 z := X
  have hl : lv_has ls 2 [(0, .ref (gad z a)), (1, .int v1)] := hl
  have hx := X.1
  have hb := X.2.1
  unfold fX3_told at h
  refine lv_aload_n hx hb dX3_told_0 rfl (lv_at hl 0 rfl) ?_
  obtain ⟨r1, hcr1, h⟩ := bd_y h
  refine g_cVI (a := a) (ci := 3) (T := TX3) (N := 4) (av := []) (rest := []) X hG hS (ct_X3_isRow l z k_a n_a hcr1) mt_X3_isRow ml_X3_31 rfl ⟨rfl, rfl, Nat.le_of_ble_eq_true rfl, Nat.le_of_ble_eq_true rfl⟩ ⟨Nat.le_refl 0, Nat.le_refl 0⟩ (nx_0 n_a) k_a (by decide) rfl hl.1 (Nat.le_of_ble_eq_true rfl) rfl dX3_told_1 (fun H locs hG hS => ?_)
  refine lv_if_eq (tgt := 25) hx hb dX3_told_4 (by decide) (fun q2 => ?_) (fun q2 => ?_)
  · have h := ite_y h q2
    refine lv_lconst (v := 0) hx hb dX3_told_25 (by decide) ?_
    obtain rfl := Option.some.inj h
    exact g_lret X hr hlk hG hS dX3_told_26
  · have h := ite_n h q2
    refine lv_aload_n hx hb dX3_told_7 rfl (lv_at hl 0 rfl) ?_
    refine lv_iload_n hx hb dX3_told_8 rfl (lv_at hl 1 rfl) ?_
    refine lv_iconst (v := 1) hx hb dX3_told_9 (by decide) ?_
    obtain ⟨r3, hcr3, h⟩ := bd_y h
    refine g_cVI (a := a) (ci := 3) (T := TX3) (N := 4) (av := [.int v1, .int 1]) (rest := []) X hG hS (ct_X3_hasPlaces l z k_a n_a hcr3) mt_X3_hasPlaces ml_X3_35 rfl ⟨rfl, rfl, Nat.le_of_ble_eq_true rfl, Nat.le_of_ble_eq_true rfl⟩ ⟨Nat.le_refl 0, Nat.le_refl 0⟩ (nx_0 n_a) k_a (by decide) rfl hl.1 (Nat.le_of_ble_eq_true rfl) rfl dX3_told_10 (fun H locs hG hS => ?_)
    refine lv_if_eq (tgt := 25) hx hb dX3_told_13 (by decide) (fun q4 => ?_) (fun q4 => ?_)
    · have h := ite_y h q4
      refine lv_lconst (v := 0) hx hb dX3_told_25 (by decide) ?_
      obtain rfl := Option.some.inj h
      exact g_lret X hr hlk hG hS dX3_told_26
    · have h := ite_n h q4
      refine lv_aload_n hx hb dX3_told_16 rfl (lv_at hl 0 rfl) ?_
      refine gf_X3_0 X hG (nx_0 n_a) k_a fl_X3_9 dX3_told_17 ?_
      refine lv_iload_n hx hb dX3_told_20 rfl (lv_at hl 1 rfl) ?_
      obtain ⟨i5, h⟩ := gd_y h
      refine g_lald X hG (nx_a (a := a) (k := 1) (n := 2) n_a (Nat.le_of_ble_eq_true rfl)) (kx_3_1 k_a) (by decide) i5 dX3_told_21 ?_
      refine lv_goto (tgt := 26) hx hb dX3_told_22 (by decide) ?_
      obtain rfl := Option.some.inj h
      exact g_lret X hr hlk hG hS dX3_told_26
set_option maxRecDepth 100000 in
set_option maxHeartbeats 4000000 in
theorem wX3_toldSet_4 {N : Nat} {p : Program} {l : Launch} {e : Env} {s : State} {m : MethodId} {args : Array Value} {below : List Frame} {meth : Method} {c : Code} {z : gZ} {M : Mem} {a : Nat} {o : Int32} (X : gX p m c cX3_toldSet 3 s args RX3 z) (hr : meth.sig.returnType = (some .int)) (hlk : meth.locks = false) (k_a : kd a = 3) (n_a : a + 2 ≤ gn z)  : ∀ (n : Nat) (w1 : Int32) (w2 : Int32) (H : Heap) (locs : List Loc) (ls : Array Slot), fX3_toldSet_4 N M a  n w1 w2 = some o → gW z M H → va_S (gA z) s.heap H locs → lv_has ls 3 [(0, .ref (gad z a)), (1, .int w1), (2, .int w2)] → W p l e { frames := 2, cells := 0, slots := 0, locals := 43 } s m args below meth c H locs 0 0 (MQ below (va_Qi (fun r' (_ : Unit) => r' = o) (fun _ t => gW z M t.heap) (gA z)) args s 0 0 (gA z)) (F0 m 4 ls []) := by
  have hx := X.1
  have hb := X.2.1
  intro n
  induction n with
  | zero => intro w1 w2 H locs ls h; cases h
  | succ n ih =>
    intro w1 w2 H locs ls h hG hS hl
    rw [fX3_toldSet_4] at h
    refine lv_iload_n hx hb dX3_toldSet_4 rfl (lv_at hl 2 rfl) ?_
    refine lv_bipush (v := 12) hx hb dX3_toldSet_5 (by decide) ?_
    refine lv_icmp_ge (tgt := 32) hx hb dX3_toldSet_7 (by decide) (fun q1 => ?_) (fun q1 => ?_)
    · have h := ite_y h q1
      refine lv_iload_n hx hb dX3_toldSet_32 rfl (lv_at hl 1 rfl) ?_
      obtain rfl := Option.some.inj h
      exact g_iret X hr hlk hG hS dX3_toldSet_33
    · have h := ite_n h q1
      refine lv_aload_n hx hb dX3_toldSet_10 rfl (lv_at hl 0 rfl) ?_
      refine lv_iload_n hx hb dX3_toldSet_11 rfl (lv_at hl 2 rfl) ?_
      obtain ⟨r2, hcr2, h⟩ := bd_y h
      refine g_cVL (a := a) (ci := 3) (T := TX3) (N := 4) (av := [.int w2]) (rest := []) X hG hS (ct_X3_told l z k_a n_a hcr2) mt_X3_told ml_X3_39 rfl ⟨rfl, rfl, Nat.le_of_ble_eq_true rfl, Nat.le_of_ble_eq_true rfl⟩ ⟨Nat.le_refl 0, Nat.le_refl 0⟩ (nx_0 n_a) k_a (by decide) rfl hl.1 (Nat.le_of_ble_eq_true rfl) rfl dX3_toldSet_12 (fun H locs hG hS => ?_)
      refine lv_lconst (v := 0) hx hb dX3_toldSet_15 (by decide) ?_
      refine W.lcmp hx hb dX3_toldSet_16 ?_
      refine lv_if_eq (tgt := 26) hx hb dX3_toldSet_17 (by decide) (fun q3 => ?_) (fun q3 => ?_)
      · have h := ite_y h q3
        refine lv_iinc (v := (w2 + 1)) (lv' := [(2, .int (w2 + 1)), (0, .ref (gad z a)), (1, .int w1)]) hx hb dX3_toldSet_26 hl (k := 2) rfl rfl (by decide) rfl (fun ls hl => ?_)
        refine lv_goto (tgt := 4) hx hb dX3_toldSet_29 (by decide) ?_
        exact ih w1 (w2 + 1) _ _ _ h hG hS (lv_sub hl [1, 2, 0] rfl)
      · have h := ite_n h q3
        refine lv_iload_n hx hb dX3_toldSet_20 rfl (lv_at hl 1 rfl) ?_
        refine lv_iconst (v := 1) hx hb dX3_toldSet_21 (by decide) ?_
        refine lv_iload_n hx hb dX3_toldSet_22 rfl (lv_at hl 2 rfl) ?_
        refine lv_ishl hx hb dX3_toldSet_23 ?_
        refine lv_ior hx hb dX3_toldSet_24 ?_
        refine lv_topi (fun x4 ex4 => ?_)
        have h := nm_y h x4 ex4
        refine lv_istore_n (lv' := [(1, .int x4), (0, .ref (gad z a)), (2, .int w2)]) hx hb dX3_toldSet_25 rfl hl (by decide) rfl (fun ls hl => ?_)
        refine lv_iinc (v := (w2 + 1)) (lv' := [(2, .int (w2 + 1)), (1, .int x4), (0, .ref (gad z a))]) hx hb dX3_toldSet_26 hl (k := 2) rfl rfl (by decide) rfl (fun ls hl => ?_)
        refine lv_goto (tgt := 4) hx hb dX3_toldSet_29 (by decide) ?_
        exact ih x4 (w2 + 1) _ _ _ h hG hS (lv_sub hl [2, 1, 0] rfl)
set_option maxRecDepth 100000 in
set_option maxHeartbeats 4000000 in
theorem ct_X3_toldSet (l : Launch) (z : gZ) {N : Nat} {M : Mem} {a : Nat} {o : Int32} (k_a : kd a = 3) (n_a : a + 2 ≤ gn z) (h : fX3_toldSet N M a = some o) : CtI l z yX3_toldSet cX3_toldSet 3 (some .int) { frames := 2, cells := 0, slots := 0, locals := 43 } [.ref (gad z a)] M o M := by
  refine Ct_of rfl (Nat.le_of_ble_eq_true rfl) ?_
  intro p e s m below meth c ls X hr hlk hG hS hl
  have X : gX p m c _ _ s _ RX3 z := X
  have hl : lv_has ls 3 [(0, .ref (gad z a))] := hl
  have hx := X.1
  have hb := X.2.1
  unfold fX3_toldSet at h
  refine lv_iconst (v := 0) hx hb dX3_toldSet_0 (by decide) ?_
  refine lv_istore_n (lv' := [(1, .int 0), (0, .ref (gad z a))]) hx hb dX3_toldSet_1 rfl hl (by decide) rfl (fun ls hl => ?_)
  refine lv_iconst (v := 0) hx hb dX3_toldSet_2 (by decide) ?_
  refine lv_istore_n (lv' := [(2, .int 0), (1, .int 0), (0, .ref (gad z a))]) hx hb dX3_toldSet_3 rfl hl (by decide) rfl (fun ls hl => ?_)
  refine wX3_toldSet_4 X hr hlk k_a n_a _ _ _ _ _ _ h hG hS (lv_sub hl [2, 1, 0] rfl)
set_option maxRecDepth 100000 in
set_option maxHeartbeats 4000000 in
theorem ct_X5_placeForNext (l : Launch) (z : gZ) {N : Nat} {M : Mem} {a : Nat} {o : Option Nat} (k_a : kd a = 5) (n_a : a + 44 ≤ gn z) (h : fX5_placeForNext N M a = some o) : CtR l z yX5_placeForNext cX5_placeForNext 1 (some (.object RX4)) { frames := 0, cells := 0, slots := 0, locals := 0 } [.ref (gad z a)] M o M := by
  refine Ct_of rfl (Nat.le_of_ble_eq_true rfl) ?_
  intro p e s m below meth c ls X hr hlk hG hS hl
  have X : gX p m c _ _ s _ RX5 z := X
  have hl : lv_has ls 1 [(0, .ref (gad z a))] := hl
  have hx := X.1
  have hb := X.2.1
  unfold fX5_placeForNext at h
  refine lv_aload_n hx hb dX5_placeForNext_0 rfl (lv_at hl 0 rfl) ?_
  refine gf_X5_3 X hG (nx_0 n_a) k_a fl_X5_33 dX5_placeForNext_1 ?_
  refine lv_if_lt (tgt := 27) hx hb dX5_placeForNext_4 (by decide) (fun q1 => ?_) (fun q1 => ?_)
  · have h := ite_y h q1
    refine lv_null hx hb dX5_placeForNext_27 ?_
    obtain rfl := Option.some.inj h
    exact g_aret none X hr hlk hG hS dX5_placeForNext_28
  · have h := ite_n h q1
    refine lv_aload_n hx hb dX5_placeForNext_7 rfl (lv_at hl 0 rfl) ?_
    refine gf_X5_3 X hG (nx_0 n_a) k_a fl_X5_33 dX5_placeForNext_8 ?_
    refine lv_iconst (v := 4) hx hb dX5_placeForNext_11 (by decide) ?_
    refine lv_icmp_ge (tgt := 27) hx hb dX5_placeForNext_12 (by decide) (fun q2 => ?_) (fun q2 => ?_)
    · have h := ite_y h q2
      refine lv_null hx hb dX5_placeForNext_27 ?_
      obtain rfl := Option.some.inj h
      exact g_aret none X hr hlk hG hS dX5_placeForNext_28
    · have h := ite_n h q2
      refine lv_aload_n hx hb dX5_placeForNext_15 rfl (lv_at hl 0 rfl) ?_
      refine gf_X5_0 X hG (nx_0 n_a) k_a fl_X5_11 dX5_placeForNext_16 ?_
      refine lv_aload_n hx hb dX5_placeForNext_19 rfl (lv_at hl 0 rfl) ?_
      refine gf_X5_3 X hG (nx_0 n_a) k_a fl_X5_33 dX5_placeForNext_20 ?_
      obtain ⟨i3, h⟩ := gd_y h
      refine g_aldS X hG (nx_a (a := a) (k := 1) (n := 44) n_a (Nat.le_of_ble_eq_true rfl)) (kx_5_1 k_a) (by decide) i3 dX5_placeForNext_23 ?_
      refine lv_goto (tgt := 28) hx hb dX5_placeForNext_24 (by decide) ?_
      obtain rfl := Option.some.inj h
      exact g_aret (some ((a + 1) + 11 + 8 * ((M.1 a 3) : Int32).toNatClampNeg)) X hr hlk hG hS dX5_placeForNext_28
set_option maxRecDepth 100000 in
set_option maxHeartbeats 4000000 in
theorem ct_J0_coder_7d493 (l : Launch) (z : gZ) {N : Nat} {M : Mem} {a : Nat} {o : Int32} (k_a : a < 22) (h : fJ0_coder_7d493 N M a = some o) : CtI l z yJ0_coder_7d493 cJ0_coder_7d493 1 (some .byte) { frames := 0, cells := 0, slots := 0, locals := 0 } [.ref (gsk z a)] M o M := by
  refine Ct_of rfl (Nat.le_of_ble_eq_true rfl) ?_
  intro p e s m below meth c ls X hr hlk hG hS hl
  have X : gX p m c _ _ s _ RJ0 z := X
  have hl : lv_has ls 1 [(0, .ref (gsk z a))] := hl
  have hx := X.1
  have hb := X.2.1
  unfold fJ0_coder_7d493 at h
  refine g_getsC X hS (gT_at 390 (by decide +kernel) rfl) dJ0_coder_7d493_0 ?_
  refine lv_if_eq (tgt := 13) hx hb dJ0_coder_7d493_3 (by decide) (fun q1 => ?_) (fun q1 => ?_)
  · have h := ite_y h q1
    refine lv_iconst (v := 1) hx hb dJ0_coder_7d493_13 (by decide) ?_
    obtain rfl := Option.some.inj h
    exact g_zret rfl X hr hlk hG hS dJ0_coder_7d493_14
  · have h := ite_n h q1
    refine lv_aload_n hx hb dJ0_coder_7d493_6 rfl (lv_at hl 0 rfl) ?_
    refine g_strC X hS k_a (gT_at 907 (by decide +kernel) rfl) dJ0_coder_7d493_7 ?_
    refine lv_goto (tgt := 14) hx hb dJ0_coder_7d493_10 (by decide) ?_
    obtain rfl := Option.some.inj h
    exact g_zret rfl X hr hlk hG hS dJ0_coder_7d493_14
set_option maxRecDepth 100000 in
set_option maxHeartbeats 4000000 in
theorem ct_J0_length_8abf5 (l : Launch) (z : gZ) {N : Nat} {M : Mem} {a : Nat} {o : Int32} (k_a : a < 22) (h : fJ0_length_8abf5 N M a = some o) : CtI l z yJ0_length_8abf5 cJ0_length_8abf5 1 (some .int) { frames := 1, cells := 0, slots := 0, locals := 20 } [.ref (gsk z a)] M o M := by
  refine Ct_of rfl (Nat.le_of_ble_eq_true rfl) ?_
  intro p e s m below meth c ls X hr hlk hG hS hl
  have X : gX p m c _ _ s _ RJ0 z := X
  have hl : lv_has ls 1 [(0, .ref (gsk z a))] := hl
  have hx := X.1
  have hb := X.2.1
  unfold fJ0_length_8abf5 at h
  refine lv_aload_n hx hb dJ0_length_8abf5_0 rfl (lv_at hl 0 rfl) ?_
  refine g_strV X hS k_a (gT_at 906 (by decide +kernel) rfl) dJ0_length_8abf5_1 ?_
  refine g_strL X hS k_a dJ0_length_8abf5_4 ?_
  refine lv_aload_n hx hb dJ0_length_8abf5_5 rfl (lv_at hl 0 rfl) ?_
  obtain ⟨r1, hcr1, h⟩ := bd_y h
  refine g_cTI (k := a) (av := []) (rest := [.int (nI (lenS.getD a 0))]) X hG hS (ct_J0_coder_7d493 l z k_a hcr1) mt_J0_coder_7d493 ml_J0_335 rfl ⟨rfl, rfl, Nat.le_of_ble_eq_true rfl, Nat.le_of_ble_eq_true rfl⟩ ⟨Nat.le_refl 0, Nat.le_refl 0⟩ k_a rfl hl.1 (Nat.le_of_ble_eq_true rfl) rfl dJ0_length_8abf5_6 (fun H locs hG hS => ?_)
  refine lv_ishr hx hb dJ0_length_8abf5_9 ?_
  obtain rfl := Option.some.inj h
  exact g_iret X hr hlk hG hS dJ0_length_8abf5_10
set_option maxRecDepth 100000 in
set_option maxHeartbeats 4000000 in
theorem ct_J0_isLatin1_aae02 (l : Launch) (z : gZ) {N : Nat} {M : Mem} {a : Nat} {o : Int32} (k_a : a < 22) (h : fJ0_isLatin1_aae02 N M a = some o) : CtI l z yJ0_isLatin1_aae02 cJ0_isLatin1_aae02 1 (some .boolean) { frames := 0, cells := 0, slots := 0, locals := 0 } [.ref (gsk z a)] M o M := by
  refine Ct_of rfl (Nat.le_of_ble_eq_true rfl) ?_
  intro p e s m below meth c ls X hr hlk hG hS hl
  have X : gX p m c _ _ s _ RJ0 z := X
  have hl : lv_has ls 1 [(0, .ref (gsk z a))] := hl
  have hx := X.1
  have hb := X.2.1
  unfold fJ0_isLatin1_aae02 at h
  refine g_getsC X hS (gT_at 390 (by decide +kernel) rfl) dJ0_isLatin1_aae02_0 ?_
  refine lv_if_eq (tgt := 17) hx hb dJ0_isLatin1_aae02_3 (by decide) (fun q1 => ?_) (fun q1 => ?_)
  · have h := ite_y h q1
    refine lv_iconst (v := 0) hx hb dJ0_isLatin1_aae02_17 (by decide) ?_
    obtain rfl := Option.some.inj h
    exact g_zret (zn (Or.inl rfl)) X hr hlk hG hS dJ0_isLatin1_aae02_18
  · have h := ite_n h q1
    refine lv_aload_n hx hb dJ0_isLatin1_aae02_6 rfl (lv_at hl 0 rfl) ?_
    refine g_strC X hS k_a (gT_at 907 (by decide +kernel) rfl) dJ0_isLatin1_aae02_7 ?_
    refine lv_if_ne (tgt := 17) hx hb dJ0_isLatin1_aae02_10 (by decide) (fun q2 => ?_) (fun q2 => ?_)
    · have h := ite_n h q2
      refine lv_iconst (v := 0) hx hb dJ0_isLatin1_aae02_17 (by decide) ?_
      obtain rfl := Option.some.inj h
      exact g_zret (zn (Or.inl rfl)) X hr hlk hG hS dJ0_isLatin1_aae02_18
    · have h := ite_y h q2
      refine lv_iconst (v := 1) hx hb dJ0_isLatin1_aae02_13 (by decide) ?_
      refine lv_goto (tgt := 18) hx hb dJ0_isLatin1_aae02_14 (by decide) ?_
      obtain rfl := Option.some.inj h
      exact g_zret (zn (Or.inr rfl)) X hr hlk hG hS dJ0_isLatin1_aae02_18
set_option maxRecDepth 100000 in
set_option maxHeartbeats 4000000 in
theorem ct_J3_checkIndex_8e157 (l : Launch) (z : gZ) {N : Nat} {M : Mem} {t2 : Nat} {v0 : Int32} {v1 : Int32} {o : Int32}  (h : fJ3_checkIndex_8e157 N M v0 v1 = some o) : CtI l z yJ3_checkIndex_8e157 cJ3_checkIndex_8e157 3 (some .int) { frames := 0, cells := 0, slots := 0, locals := 0 } [.int v0, .int v1, .ref t2] M o M := by
  refine Ct_of rfl (Nat.le_of_ble_eq_true rfl) ?_
  intro p e s m below meth c ls X hr hlk hG hS hl
  have X : gX p m c _ _ s _ RJ3 z := X
  have hl : lv_has ls 3 [(0, .int v0), (1, .int v1), (2, .ref t2)] := hl
  have hx := X.1
  have hb := X.2.1
  unfold fJ3_checkIndex_8e157 at h
  refine lv_iload_n hx hb dJ3_checkIndex_8e157_0 rfl (lv_at hl 0 rfl) ?_
  refine lv_if_lt (tgt := 9) hx hb dJ3_checkIndex_8e157_1 (by decide) (fun q1 => ?_) (fun q1 => ?_)
  · have h := ite_y h q1
    cases h
  · have h := ite_n h q1
    refine lv_iload_n hx hb dJ3_checkIndex_8e157_4 rfl (lv_at hl 0 rfl) ?_
    refine lv_iload_n hx hb dJ3_checkIndex_8e157_5 rfl (lv_at hl 1 rfl) ?_
    refine lv_icmp_lt (tgt := 16) hx hb dJ3_checkIndex_8e157_6 (by decide) (fun q2 => ?_) (fun q2 => ?_)
    · have h := ite_y h q2
      refine lv_iload_n hx hb dJ3_checkIndex_8e157_16 rfl (lv_at hl 0 rfl) ?_
      obtain rfl := Option.some.inj h
      exact g_iret X hr hlk hG hS dJ3_checkIndex_8e157_17
    · have h := ite_n h q2
      cases h
set_option maxRecDepth 100000 in
set_option maxHeartbeats 4000000 in
theorem ct_J3_checkIndex_8e157N (l : Launch) (z : gZ) {N : Nat} {M : Mem} {v0 : Int32} {v1 : Int32} {o : Int32}  (h : fJ3_checkIndex_8e157 N M v0 v1 = some o) : CtI l z yJ3_checkIndex_8e157 cJ3_checkIndex_8e157 3 (some .int) { frames := 0, cells := 0, slots := 0, locals := 0 } [.int v0, .int v1, .null] M o M := by
  refine Ct_of rfl (Nat.le_of_ble_eq_true rfl) ?_
  intro p e s m below meth c ls X hr hlk hG hS hl
  have X : gX p m c _ _ s _ RJ3 z := X
  have hl : lv_has ls 3 [(0, .int v0), (1, .int v1), (2, .null)] := hl
  have hx := X.1
  have hb := X.2.1
  unfold fJ3_checkIndex_8e157 at h
  refine lv_iload_n hx hb dJ3_checkIndex_8e157_0 rfl (lv_at hl 0 rfl) ?_
  refine lv_if_lt (tgt := 9) hx hb dJ3_checkIndex_8e157_1 (by decide) (fun q1 => ?_) (fun q1 => ?_)
  · have h := ite_y h q1
    cases h
  · have h := ite_n h q1
    refine lv_iload_n hx hb dJ3_checkIndex_8e157_4 rfl (lv_at hl 0 rfl) ?_
    refine lv_iload_n hx hb dJ3_checkIndex_8e157_5 rfl (lv_at hl 1 rfl) ?_
    refine lv_icmp_lt (tgt := 16) hx hb dJ3_checkIndex_8e157_6 (by decide) (fun q2 => ?_) (fun q2 => ?_)
    · have h := ite_y h q2
      refine lv_iload_n hx hb dJ3_checkIndex_8e157_16 rfl (lv_at hl 0 rfl) ?_
      obtain rfl := Option.some.inj h
      exact g_iret X hr hlk hG hS dJ3_checkIndex_8e157_17
    · have h := ite_n h q2
      cases h
set_option maxRecDepth 100000 in
set_option maxHeartbeats 4000000 in
theorem ct_J0_checkIndex_df160 (l : Launch) (z : gZ) {N : Nat} {M : Mem} {v0 : Int32} {v1 : Int32} {o : Unit}  (h : fJ0_checkIndex_df160 N M v0 v1 = some o) : CtV l z yJ0_checkIndex_df160 cJ0_checkIndex_df160 2 none { frames := 1, cells := 0, slots := 0, locals := 22 } [.int v0, .int v1] M M := by
  refine Ct_of rfl (Nat.le_of_ble_eq_true rfl) ?_
  intro p e s m below meth c ls X hr hlk hG hS hl
  have X : gX p m c _ _ s _ RJ0 z := X
  have hl : lv_has ls 2 [(0, .int v0), (1, .int v1)] := hl
  have hx := X.1
  have hb := X.2.1
  unfold fJ0_checkIndex_df160 at h
  refine lv_iload_n hx hb dJ0_checkIndex_df160_0 rfl (lv_at hl 0 rfl) ?_
  refine lv_iload_n hx hb dJ0_checkIndex_df160_1 rfl (lv_at hl 1 rfl) ?_
  refine g_getsF X hS (gT_at 406 (by decide +kernel) rfl) dJ0_checkIndex_df160_2 ?_ (fun tq => ?_)
  · skip
    obtain ⟨r1, hcr1, h⟩ := bd_y h
    refine g_cSI (av := [.int v0, .int v1, .null]) (rest := []) X hG hS (ct_J3_checkIndex_8e157N l z  hcr1) mt_J3_checkIndex_8e157 ml_J0_1059 rfl ⟨rfl, rfl, Nat.le_of_ble_eq_true rfl, Nat.le_of_ble_eq_true rfl⟩ ⟨Nat.le_refl 0, Nat.le_refl 0⟩ hl.1 (Nat.le_of_ble_eq_true rfl) rfl dJ0_checkIndex_df160_5 (fun H locs hG hS => ?_)
    refine lv_pop hx hb dJ0_checkIndex_df160_8 rfl ?_
    obtain rfl := Option.some.inj h
    exact g_vret X hr hlk hG hS dJ0_checkIndex_df160_9
  · skip
    obtain ⟨r1, hcr1, h⟩ := bd_y h
    refine g_cSI (av := [.int v0, .int v1, .ref tq]) (rest := []) X hG hS (ct_J3_checkIndex_8e157 l z  hcr1) mt_J3_checkIndex_8e157 ml_J0_1059 rfl ⟨rfl, rfl, Nat.le_of_ble_eq_true rfl, Nat.le_of_ble_eq_true rfl⟩ ⟨Nat.le_refl 0, Nat.le_refl 0⟩ hl.1 (Nat.le_of_ble_eq_true rfl) rfl dJ0_checkIndex_df160_5 (fun H locs hG hS => ?_)
    refine lv_pop hx hb dJ0_checkIndex_df160_8 rfl ?_
    obtain rfl := Option.some.inj h
    exact g_vret X hr hlk hG hS dJ0_checkIndex_df160_9
set_option maxRecDepth 100000 in
set_option maxHeartbeats 4000000 in
theorem ct_J1_charAt_3b067 (l : Launch) (z : gZ) {N : Nat} {M : Mem} {b0 : Nat} {v1 : Int32} {o : Int32} (k_b0 : b0 < 22) (h : fJ1_charAt_3b067 N M b0 v1 = some o) : CtI l z yJ1_charAt_3b067 cJ1_charAt_3b067 2 (some .char) { frames := 2, cells := 0, slots := 0, locals := 43 } [.ref (gsv z b0), .int v1] M o M := by
  refine Ct_of rfl (Nat.le_of_ble_eq_true rfl) ?_
  intro p e s m below meth c ls X hr hlk hG hS hl
  have X : gX p m c _ _ s _ RJ1 z := X
  have hl : lv_has ls 2 [(0, .ref (gsv z b0)), (1, .int v1)] := hl
  have hx := X.1
  have hb := X.2.1
  unfold fJ1_charAt_3b067 at h
  refine lv_iload_n hx hb dJ1_charAt_3b067_0 rfl (lv_at hl 1 rfl) ?_
  refine lv_aload_n hx hb dJ1_charAt_3b067_1 rfl (lv_at hl 0 rfl) ?_
  refine g_strL X hS k_b0 dJ1_charAt_3b067_2 ?_
  obtain ⟨r1, hcr1, h⟩ := bd_y h
  refine g_cSV (av := [.int v1, .int (nI (lenS.getD b0 0))]) (rest := []) X hG hS (ct_J0_checkIndex_df160 l z  hcr1) mt_J0_checkIndex_df160 ml_J1_9 rfl ⟨rfl, rfl, Nat.le_of_ble_eq_true rfl, Nat.le_of_ble_eq_true rfl⟩ ⟨Nat.le_refl 0, Nat.le_refl 0⟩ hl.1 (Nat.le_of_ble_eq_true rfl) rfl dJ1_charAt_3b067_3 (fun H locs hG hS => ?_)
  refine lv_aload_n hx hb dJ1_charAt_3b067_6 rfl (lv_at hl 0 rfl) ?_
  refine lv_iload_n hx hb dJ1_charAt_3b067_7 rfl (lv_at hl 1 rfl) ?_
  obtain ⟨i2, h⟩ := gd_y h
  refine g_strB X hS k_b0 i2 dJ1_charAt_3b067_8 ?_
  refine lv_sipush (v := 255) hx hb dJ1_charAt_3b067_9 (by decide) ?_
  refine lv_iand hx hb dJ1_charAt_3b067_12 ?_
  refine lv_i2c hx hb dJ1_charAt_3b067_13 rfl ?_
  obtain rfl := Option.some.inj h
  exact g_cret (pk_nc _) X hr hlk hG hS dJ1_charAt_3b067_14
set_option maxRecDepth 100000 in
set_option maxHeartbeats 4000000 in
theorem ct_J0_charAt_5068e (l : Launch) (z : gZ) {N : Nat} {M : Mem} {a : Nat} {v1 : Int32} {o : Int32} (k_a : a < 22) (h : fJ0_charAt_5068e N M a v1 = some o) : CtI l z yJ0_charAt_5068e cJ0_charAt_5068e 2 (some .char) { frames := 3, cells := 0, slots := 0, locals := 64 } [.ref (gsk z a), .int v1] M o M := by
  refine Ct_of rfl (Nat.le_of_ble_eq_true rfl) ?_
  intro p e s m below meth c ls X hr hlk hG hS hl
  have X : gX p m c _ _ s _ RJ0 z := X
  have hl : lv_has ls 2 [(0, .ref (gsk z a)), (1, .int v1)] := hl
  have hx := X.1
  have hb := X.2.1
  unfold fJ0_charAt_5068e at h
  refine lv_aload_n hx hb dJ0_charAt_5068e_0 rfl (lv_at hl 0 rfl) ?_
  obtain ⟨r1, hcr1, h⟩ := bd_y h
  refine g_cTI (k := a) (av := []) (rest := []) X hG hS (ct_J0_isLatin1_aae02 l z k_a hcr1) mt_J0_isLatin1_aae02 ml_J0_492 rfl ⟨rfl, rfl, Nat.le_of_ble_eq_true rfl, Nat.le_of_ble_eq_true rfl⟩ ⟨Nat.le_refl 0, Nat.le_refl 0⟩ k_a rfl hl.1 (Nat.le_of_ble_eq_true rfl) rfl dJ0_charAt_5068e_1 (fun H locs hG hS => ?_)
  refine lv_if_eq (tgt := 16) hx hb dJ0_charAt_5068e_4 (by decide) (fun q2 => ?_) (fun q2 => ?_)
  · have h := ite_y h q2
    refine lv_aload_n hx hb dJ0_charAt_5068e_16 rfl (lv_at hl 0 rfl) ?_
    refine g_strV X hS k_a (gT_at 906 (by decide +kernel) rfl) dJ0_charAt_5068e_17 ?_
    refine lv_iload_n hx hb dJ0_charAt_5068e_20 rfl (lv_at hl 1 rfl) ?_
    cases h
  · have h := ite_n h q2
    refine lv_aload_n hx hb dJ0_charAt_5068e_7 rfl (lv_at hl 0 rfl) ?_
    refine g_strV X hS k_a (gT_at 906 (by decide +kernel) rfl) dJ0_charAt_5068e_8 ?_
    refine lv_iload_n hx hb dJ0_charAt_5068e_11 rfl (lv_at hl 1 rfl) ?_
    obtain ⟨r3, hcr3, h⟩ := bd_y h
    refine g_cSI (av := [.ref (gsv z a), .int v1]) (rest := []) X hG hS (ct_J1_charAt_3b067 l z k_a hcr3) mt_J1_charAt_3b067 ml_J0_495 rfl ⟨rfl, rfl, Nat.le_of_ble_eq_true rfl, Nat.le_of_ble_eq_true rfl⟩ ⟨Nat.le_refl 0, Nat.le_refl 0⟩ hl.1 (Nat.le_of_ble_eq_true rfl) rfl dJ0_charAt_5068e_12 (fun H locs hG hS => ?_)
    obtain ⟨q4, h⟩ := gc_y h
    obtain rfl := Option.some.inj h
    exact g_cret (cnq q4) X hr hlk hG hS dJ0_charAt_5068e_15
set_option maxRecDepth 100000 in
set_option maxHeartbeats 4000000 in
theorem wJ7_fill_53178_5 {N : Nat} {p : Program} {l : Launch} {e : Env} {s : State} {m : MethodId} {args : Array Value} {below : List Frame} {meth : Method} {c : Code} {z : gZ} {b0 : Nat} {len0 : Nat} {u1 : Int32} {u3 : Int32} {o : Mem} (X : gX p m c cJ7_fill_53178 4 s args RJ7 z) (hr : meth.sig.returnType = none) (hlk : meth.locks = false) (k_b0 : kd b0 = 10000 + len0) (n_b0 : b0 < gn z) (l_b0 : len0 < 10000)  : ∀ (n : Nat) (Mw : Mem) (w2 : Int32) (H : Heap) (locs : List Loc) (ls : Array Slot), fJ7_fill_53178_5 N b0 len0 u1 u3  n Mw w2 = some o → gW z Mw H → va_S (gA z) s.heap H locs → lv_has ls 4 [(0, .ref (gad z b0)), (1, .int u1), (2, .int w2), (3, .int u3)] → W p l e { frames := 0, cells := 0, slots := 0, locals := 0 } s m args below meth c H locs 0 0 (MQ below (va_Qv (fun (_ : Unit) => True) (fun _ t => gW z o t.heap) (gA z)) args s 0 0 (gA z)) (F0 m 5 ls []) := by
  have hx := X.1
  have hb := X.2.1
  intro n
  induction n with
  | zero => intro Mw w2 H locs ls h; cases h
  | succ n ih =>
    intro Mw w2 H locs ls h hG hS hl
    rw [fJ7_fill_53178_5] at h
    refine lv_iload_n hx hb dJ7_fill_53178_5 rfl (lv_at hl 2 rfl) ?_
    refine lv_iload_n hx hb dJ7_fill_53178_6 rfl (lv_at hl 3 rfl) ?_
    refine lv_icmp_ge (tgt := 20) hx hb dJ7_fill_53178_7 (by decide) (fun q1 => ?_) (fun q1 => ?_)
    · have h := ite_y h q1
      obtain rfl := Option.some.inj h
      exact g_vret X hr hlk hG hS dJ7_fill_53178_20
    · have h := ite_n h q1
      refine lv_aload_n hx hb dJ7_fill_53178_10 rfl (lv_at hl 0 rfl) ?_
      refine lv_iload_n hx hb dJ7_fill_53178_11 rfl (lv_at hl 2 rfl) ?_
      refine lv_iload_n hx hb dJ7_fill_53178_12 rfl (lv_at hl 1 rfl) ?_
      obtain ⟨i2, h⟩ := gd_y h
      refine g_iast X hG hS n_b0 k_b0 l_b0 i2 dJ7_fill_53178_13 (fun H locs hG hS => ?_)
      obtain ⟨M3, eM3⟩ : ∃ y, y = sI Mw b0 (w2 : Int32).toNatClampNeg u1 := ⟨_, rfl⟩
      rw [← eM3] at hG
      have h := nm_y h M3 eM3
      refine lv_iinc (v := (w2 + 1)) (lv' := [(2, .int (w2 + 1)), (0, .ref (gad z b0)), (1, .int u1), (3, .int u3)]) hx hb dJ7_fill_53178_14 hl (k := 2) rfl rfl (by decide) rfl (fun ls hl => ?_)
      refine lv_goto (tgt := 5) hx hb dJ7_fill_53178_17 (by decide) ?_
      exact ih M3 (w2 + 1) _ _ _ h hG hS (lv_sub hl [1, 2, 0, 3] rfl)
set_option maxRecDepth 100000 in
set_option maxHeartbeats 4000000 in
theorem ct_J7_fill_53178 (l : Launch) (z : gZ) {N : Nat} {M : Mem} {len0 : Nat} {b0 : Nat} {v1 : Int32} {o : Mem} (k_b0 : kd b0 = 10000 + len0) (n_b0 : b0 < gn z) (l_b0 : len0 < 10000) (h : fJ7_fill_53178 N M len0 b0 v1 = some o) : CtV l z yJ7_fill_53178 cJ7_fill_53178 4 none { frames := 0, cells := 0, slots := 0, locals := 0 } [.ref (gad z b0), .int v1] M o := by
  refine Ct_of rfl (Nat.le_of_ble_eq_true rfl) ?_
  intro p e s m below meth c ls X hr hlk hG hS hl
  have X : gX p m c _ _ s _ RJ7 z := X
  have hl : lv_has ls 4 [(0, .ref (gad z b0)), (1, .int v1)] := hl
  have hx := X.1
  have hb := X.2.1
  unfold fJ7_fill_53178 at h
  refine lv_iconst (v := 0) hx hb dJ7_fill_53178_0 (by decide) ?_
  refine lv_istore_n (lv' := [(2, .int 0), (0, .ref (gad z b0)), (1, .int v1)]) hx hb dJ7_fill_53178_1 rfl hl (by decide) rfl (fun ls hl => ?_)
  refine lv_aload_n hx hb dJ7_fill_53178_2 rfl (lv_at hl 1 rfl) ?_
  refine g_alenI X hG n_b0 k_b0 l_b0 dJ7_fill_53178_3 ?_
  refine lv_topi (fun x1 ex1 => ?_)
  have h := nm_y h x1 ex1
  refine lv_istore_n (lv' := [(3, .int x1), (2, .int 0), (0, .ref (gad z b0)), (1, .int v1)]) hx hb dJ7_fill_53178_4 rfl hl (by decide) rfl (fun ls hl => ?_)
  refine wJ7_fill_53178_5 X hr hlk k_b0 n_b0 l_b0 _ _ _ _ _ _ h hG hS (lv_sub hl [2, 3, 1, 0] rfl)
set_option maxRecDepth 100000 in
set_option maxHeartbeats 4000000 in
theorem ct_X4_clear (l : Launch) (z : gZ) {N : Nat} {M : Mem} {a : Nat} {v1 : Int32} {o : Mem} (k_a : kd a = 4) (n_a : a + 8 ≤ gn z) (h : fX4_clear N M a v1 = some o) : CtV l z yX4_clear cX4_clear 2 none { frames := 1, cells := 0, slots := 0, locals := 23 } [.ref (gad z a), .int v1] M o := by
  refine Ct_of rfl (Nat.le_of_ble_eq_true rfl) ?_
  intro p e s m below meth c ls X hr hlk hG hS hl
  have X : gX p m c _ _ s _ RX4 z := X
  have hl : lv_has ls 2 [(0, .ref (gad z a)), (1, .int v1)] := hl
  have hx := X.1
  have hb := X.2.1
  unfold fX4_clear at h
  refine lv_aload_n hx hb dX4_clear_0 rfl (lv_at hl 0 rfl) ?_
  refine lv_iload_n hx hb dX4_clear_1 rfl (lv_at hl 1 rfl) ?_
  refine pf_X4_7 X hG hS (nx_0 n_a) k_a fl_X4_33 dX4_clear_2 (fun H locs hG hS => ?_)
  obtain ⟨M1, eM1⟩ : ∃ y, y = sI M a 7 v1 := ⟨_, rfl⟩
  rw [← eM1] at hG
  have h := nm_y h M1 eM1
  refine lv_aload_n hx hb dX4_clear_5 rfl (lv_at hl 0 rfl) ?_
  refine lv_iconst (v := 0) hx hb dX4_clear_6 (by decide) ?_
  refine pf_X4_8 X hG hS (nx_0 n_a) k_a fl_X4_37 dX4_clear_7 (fun H locs hG hS => ?_)
  obtain ⟨M2, eM2⟩ : ∃ y, y = sI M1 a 8 0 := ⟨_, rfl⟩
  rw [← eM2] at hG
  have h := nm_y h M2 eM2
  refine lv_aload_n hx hb dX4_clear_10 rfl (lv_at hl 0 rfl) ?_
  refine lv_iconst (v := 0) hx hb dX4_clear_11 (by decide) ?_
  refine pf_X4_9 X hG hS (nx_0 n_a) k_a fl_X4_40 dX4_clear_12 (fun H locs hG hS => ?_)
  obtain ⟨M3, eM3⟩ : ∃ y, y = sI M2 a 9 0 := ⟨_, rfl⟩
  rw [← eM3] at hG
  have h := nm_y h M3 eM3
  refine lv_aload_n hx hb dX4_clear_15 rfl (lv_at hl 0 rfl) ?_
  refine gf_X4_0 X hG (nx_0 n_a) k_a fl_X4_9 dX4_clear_16 ?_
  refine lv_iconst (v := 0) hx hb dX4_clear_19 (by decide) ?_
  obtain ⟨r4, hcr4, h⟩ := bd_y h
  refine g_cSV (av := [.ref (gad z (a + 1)), .int 0]) (rest := []) X hG hS (ct_J7_fill_53178 l z (kx_4_1 k_a) (nx_a (a := a) (k := 1) (n := 8) n_a (Nat.le_of_ble_eq_true rfl)) (by decide) hcr4) mt_J7_fill_53178 ml_X4_43 rfl ⟨rfl, rfl, Nat.le_of_ble_eq_true rfl, Nat.le_of_ble_eq_true rfl⟩ ⟨Nat.le_refl 0, Nat.le_refl 0⟩ hl.1 (Nat.le_of_ble_eq_true rfl) rfl dX4_clear_20 (fun H locs hG hS => ?_)
  refine lv_aload_n hx hb dX4_clear_23 rfl (lv_at hl 0 rfl) ?_
  refine gf_X4_1 X hG (nx_0 n_a) k_a fl_X4_15 dX4_clear_24 ?_
  refine lv_iconst (v := 0) hx hb dX4_clear_27 (by decide) ?_
  obtain ⟨r5, hcr5, h⟩ := bd_y h
  refine g_cSV (av := [.ref (gad z (a + 2)), .int 0]) (rest := []) X hG hS (ct_J7_fill_53178 l z (kx_4_2 k_a) (nx_a (a := a) (k := 2) (n := 8) n_a (Nat.le_of_ble_eq_true rfl)) (by decide) hcr5) mt_J7_fill_53178 ml_X4_43 rfl ⟨rfl, rfl, Nat.le_of_ble_eq_true rfl, Nat.le_of_ble_eq_true rfl⟩ ⟨Nat.le_refl 0, Nat.le_refl 0⟩ hl.1 (Nat.le_of_ble_eq_true rfl) rfl dX4_clear_28 (fun H locs hG hS => ?_)
  refine lv_aload_n hx hb dX4_clear_31 rfl (lv_at hl 0 rfl) ?_
  refine gf_X4_2 X hG (nx_0 n_a) k_a fl_X4_18 dX4_clear_32 ?_
  refine lv_iconst (v := 0) hx hb dX4_clear_35 (by decide) ?_
  obtain ⟨r6, hcr6, h⟩ := bd_y h
  refine g_cSV (av := [.ref (gad z (a + 3)), .int 0]) (rest := []) X hG hS (ct_J7_fill_53178 l z (kx_4_3 k_a) (nx_a (a := a) (k := 3) (n := 8) n_a (Nat.le_of_ble_eq_true rfl)) (by decide) hcr6) mt_J7_fill_53178 ml_X4_43 rfl ⟨rfl, rfl, Nat.le_of_ble_eq_true rfl, Nat.le_of_ble_eq_true rfl⟩ ⟨Nat.le_refl 0, Nat.le_refl 0⟩ hl.1 (Nat.le_of_ble_eq_true rfl) rfl dX4_clear_36 (fun H locs hG hS => ?_)
  refine lv_aload_n hx hb dX4_clear_39 rfl (lv_at hl 0 rfl) ?_
  refine gf_X4_3 X hG (nx_0 n_a) k_a fl_X4_21 dX4_clear_40 ?_
  refine lv_iconst (v := (-1)) hx hb dX4_clear_43 (by decide) ?_
  obtain ⟨r7, hcr7, h⟩ := bd_y h
  refine g_cSV (av := [.ref (gad z (a + 4)), .int (-1)]) (rest := []) X hG hS (ct_J7_fill_53178 l z (kx_4_4 k_a) (nx_a (a := a) (k := 4) (n := 8) n_a (Nat.le_of_ble_eq_true rfl)) (by decide) hcr7) mt_J7_fill_53178 ml_X4_43 rfl ⟨rfl, rfl, Nat.le_of_ble_eq_true rfl, Nat.le_of_ble_eq_true rfl⟩ ⟨Nat.le_refl 0, Nat.le_refl 0⟩ hl.1 (Nat.le_of_ble_eq_true rfl) rfl dX4_clear_44 (fun H locs hG hS => ?_)
  refine lv_aload_n hx hb dX4_clear_47 rfl (lv_at hl 0 rfl) ?_
  refine gf_X4_4 X hG (nx_0 n_a) k_a fl_X4_24 dX4_clear_48 ?_
  refine lv_iconst (v := 0) hx hb dX4_clear_51 (by decide) ?_
  obtain ⟨r8, hcr8, h⟩ := bd_y h
  refine g_cSV (av := [.ref (gad z (a + 5)), .int 0]) (rest := []) X hG hS (ct_J7_fill_53178 l z (kx_4_5 k_a) (nx_a (a := a) (k := 5) (n := 8) n_a (Nat.le_of_ble_eq_true rfl)) (by decide) hcr8) mt_J7_fill_53178 ml_X4_43 rfl ⟨rfl, rfl, Nat.le_of_ble_eq_true rfl, Nat.le_of_ble_eq_true rfl⟩ ⟨Nat.le_refl 0, Nat.le_refl 0⟩ hl.1 (Nat.le_of_ble_eq_true rfl) rfl dX4_clear_52 (fun H locs hG hS => ?_)
  refine lv_aload_n hx hb dX4_clear_55 rfl (lv_at hl 0 rfl) ?_
  refine gf_X4_5 X hG (nx_0 n_a) k_a fl_X4_27 dX4_clear_56 ?_
  refine lv_iconst (v := 0) hx hb dX4_clear_59 (by decide) ?_
  obtain ⟨r9, hcr9, h⟩ := bd_y h
  refine g_cSV (av := [.ref (gad z (a + 6)), .int 0]) (rest := []) X hG hS (ct_J7_fill_53178 l z (kx_4_6 k_a) (nx_a (a := a) (k := 6) (n := 8) n_a (Nat.le_of_ble_eq_true rfl)) (by decide) hcr9) mt_J7_fill_53178 ml_X4_43 rfl ⟨rfl, rfl, Nat.le_of_ble_eq_true rfl, Nat.le_of_ble_eq_true rfl⟩ ⟨Nat.le_refl 0, Nat.le_refl 0⟩ hl.1 (Nat.le_of_ble_eq_true rfl) rfl dX4_clear_60 (fun H locs hG hS => ?_)
  refine lv_aload_n hx hb dX4_clear_63 rfl (lv_at hl 0 rfl) ?_
  refine gf_X4_6 X hG (nx_0 n_a) k_a fl_X4_30 dX4_clear_64 ?_
  refine lv_iconst (v := 0) hx hb dX4_clear_67 (by decide) ?_
  obtain ⟨r10, hcr10, h⟩ := bd_y h
  refine g_cSV (av := [.ref (gad z (a + 7)), .int 0]) (rest := []) X hG hS (ct_J7_fill_53178 l z (kx_4_7 k_a) (nx_a (a := a) (k := 7) (n := 8) n_a (Nat.le_of_ble_eq_true rfl)) (by decide) hcr10) mt_J7_fill_53178 ml_X4_43 rfl ⟨rfl, rfl, Nat.le_of_ble_eq_true rfl, Nat.le_of_ble_eq_true rfl⟩ ⟨Nat.le_refl 0, Nat.le_refl 0⟩ hl.1 (Nat.le_of_ble_eq_true rfl) rfl dX4_clear_68 (fun H locs hG hS => ?_)
  obtain rfl := Option.some.inj h
  exact g_vret X hr hlk hG hS dX4_clear_71
set_option maxRecDepth 100000 in
set_option maxHeartbeats 4000000 in
theorem ct_X4_hasPerson (l : Launch) (z : gZ) {N : Nat} {M : Mem} {a : Nat} {v1 : Int32} {o : Int32} (k_a : kd a = 4) (n_a : a + 8 ≤ gn z) (h : fX4_hasPerson N M a v1 = some o) : CtI l z yX4_hasPerson cX4_hasPerson 2 (some .boolean) { frames := 0, cells := 0, slots := 0, locals := 0 } [.ref (gad z a), .int v1] M o M := by
  refine Ct_of rfl (Nat.le_of_ble_eq_true rfl) ?_
  intro p e s m below meth c ls X hr hlk hG hS hl
  have X : gX p m c _ _ s _ RX4 z := X
  have hl : lv_has ls 2 [(0, .ref (gad z a)), (1, .int v1)] := hl
  have hx := X.1
  have hb := X.2.1
  unfold fX4_hasPerson at h
  refine lv_iload_n hx hb dX4_hasPerson_0 rfl (lv_at hl 1 rfl) ?_
  refine lv_if_lt (tgt := 22) hx hb dX4_hasPerson_1 (by decide) (fun q1 => ?_) (fun q1 => ?_)
  · have h := ite_y h q1
    refine lv_iconst (v := 0) hx hb dX4_hasPerson_22 (by decide) ?_
    obtain rfl := Option.some.inj h
    exact g_zret (zn (Or.inl rfl)) X hr hlk hG hS dX4_hasPerson_23
  · have h := ite_n h q1
    refine lv_iload_n hx hb dX4_hasPerson_4 rfl (lv_at hl 1 rfl) ?_
    refine lv_aload_n hx hb dX4_hasPerson_5 rfl (lv_at hl 0 rfl) ?_
    refine gf_X4_7 X hG (nx_0 n_a) k_a fl_X4_33 dX4_hasPerson_6 ?_
    refine lv_icmp_ge (tgt := 22) hx hb dX4_hasPerson_9 (by decide) (fun q2 => ?_) (fun q2 => ?_)
    · have h := ite_y h q2
      refine lv_iconst (v := 0) hx hb dX4_hasPerson_22 (by decide) ?_
      obtain rfl := Option.some.inj h
      exact g_zret (zn (Or.inl rfl)) X hr hlk hG hS dX4_hasPerson_23
    · have h := ite_n h q2
      refine lv_iload_n hx hb dX4_hasPerson_12 rfl (lv_at hl 1 rfl) ?_
      refine lv_bipush (v := 12) hx hb dX4_hasPerson_13 (by decide) ?_
      refine lv_icmp_ge (tgt := 22) hx hb dX4_hasPerson_15 (by decide) (fun q3 => ?_) (fun q3 => ?_)
      · have h := ite_y h q3
        refine lv_iconst (v := 0) hx hb dX4_hasPerson_22 (by decide) ?_
        obtain rfl := Option.some.inj h
        exact g_zret (zn (Or.inl rfl)) X hr hlk hG hS dX4_hasPerson_23
      · have h := ite_n h q3
        refine lv_iconst (v := 1) hx hb dX4_hasPerson_18 (by decide) ?_
        refine lv_goto (tgt := 23) hx hb dX4_hasPerson_19 (by decide) ?_
        obtain rfl := Option.some.inj h
        exact g_zret (zn (Or.inr rfl)) X hr hlk hG hS dX4_hasPerson_23
set_option maxRecDepth 100000 in
set_option maxHeartbeats 4000000 in
theorem ct_X4_value (l : Launch) (z : gZ) {N : Nat} {M : Mem} {a : Nat} {v1 : Int32} {v2 : Int32} {v3 : Int32} {o : Mem} (k_a : kd a = 4) (n_a : a + 8 ≤ gn z) (h : fX4_value N M a v1 v2 v3 = some o) : CtV l z yX4_value cX4_value 4 none { frames := 1, cells := 0, slots := 0, locals := 21 } [.ref (gad z a), .int v1, .int v2, .int v3] M o := by
  refine Ct_of rfl (Nat.le_of_ble_eq_true rfl) ?_
  intro p e s m below meth c ls X hr hlk hG hS hl
  have X : gX p m c _ _ s _ RX4 z := X
  have hl : lv_has ls 4 [(0, .ref (gad z a)), (1, .int v1), (2, .int v2), (3, .int v3)] := hl
  have hx := X.1
  have hb := X.2.1
  unfold fX4_value at h
  refine lv_aload_n hx hb dX4_value_0 rfl (lv_at hl 0 rfl) ?_
  refine lv_iload_n hx hb dX4_value_1 rfl (lv_at hl 1 rfl) ?_
  obtain ⟨r1, hcr1, h⟩ := bd_y h
  refine g_cVI (a := a) (ci := 4) (T := TX4) (N := 10) (av := [.int v1]) (rest := []) X hG hS (ct_X4_hasPerson l z k_a n_a hcr1) mt_X4_hasPerson ml_X4_55 rfl ⟨rfl, rfl, Nat.le_of_ble_eq_true rfl, Nat.le_of_ble_eq_true rfl⟩ ⟨Nat.le_refl 0, Nat.le_refl 0⟩ (nx_0 n_a) k_a (by decide) rfl hl.1 (Nat.le_of_ble_eq_true rfl) rfl dX4_value_2 (fun H locs hG hS => ?_)
  refine lv_if_eq (tgt := 22) hx hb dX4_value_5 (by decide) (fun q2 => ?_) (fun q2 => ?_)
  · have h := ite_y h q2
    obtain rfl := Option.some.inj h
    exact g_vret X hr hlk hG hS dX4_value_22
  · have h := ite_n h q2
    refine lv_aload_n hx hb dX4_value_8 rfl (lv_at hl 0 rfl) ?_
    refine gf_X4_0 X hG (nx_0 n_a) k_a fl_X4_9 dX4_value_9 ?_
    refine lv_iload_n hx hb dX4_value_12 rfl (lv_at hl 1 rfl) ?_
    refine lv_iload_n hx hb dX4_value_13 rfl (lv_at hl 2 rfl) ?_
    obtain ⟨i3, h⟩ := gd_y h
    refine g_iast X hG hS (nx_a (a := a) (k := 1) (n := 8) n_a (Nat.le_of_ble_eq_true rfl)) (kx_4_1 k_a) (by decide) i3 dX4_value_14 (fun H locs hG hS => ?_)
    obtain ⟨M4, eM4⟩ : ∃ y, y = sI M (a + 1) (v1 : Int32).toNatClampNeg v2 := ⟨_, rfl⟩
    rw [← eM4] at hG
    have h := nm_y h M4 eM4
    refine lv_aload_n hx hb dX4_value_15 rfl (lv_at hl 0 rfl) ?_
    refine gf_X4_1 X hG (nx_0 n_a) k_a fl_X4_15 dX4_value_16 ?_
    refine lv_iload_n hx hb dX4_value_19 rfl (lv_at hl 1 rfl) ?_
    refine lv_iload_n hx hb dX4_value_20 rfl (lv_at hl 3 rfl) ?_
    refine g_iast X hG hS (nx_a (a := a) (k := 2) (n := 8) n_a (Nat.le_of_ble_eq_true rfl)) (kx_4_2 k_a) (by decide) i3 dX4_value_21 (fun H locs hG hS => ?_)
    obtain ⟨M5, eM5⟩ : ∃ y, y = sI M4 (a + 2) (v1 : Int32).toNatClampNeg v3 := ⟨_, rfl⟩
    rw [← eM5] at hG
    have h := nm_y h M5 eM5
    obtain rfl := Option.some.inj h
    exact g_vret X hr hlk hG hS dX4_value_22
set_option maxRecDepth 100000 in
set_option maxHeartbeats 4000000 in
theorem ct_X4_hasPair (l : Launch) (z : gZ) {N : Nat} {M : Mem} {a : Nat} {v1 : Int32} {v2 : Int32} {o : Int32} (k_a : kd a = 4) (n_a : a + 8 ≤ gn z) (h : fX4_hasPair N M a v1 v2 = some o) : CtI l z yX4_hasPair cX4_hasPair 3 (some .boolean) { frames := 1, cells := 0, slots := 0, locals := 21 } [.ref (gad z a), .int v1, .int v2] M o M := by
  refine Ct_of rfl (Nat.le_of_ble_eq_true rfl) ?_
  intro p e s m below meth c ls X hr hlk hG hS hl
  have X : gX p m c _ _ s _ RX4 z := X
  have hl : lv_has ls 3 [(0, .ref (gad z a)), (1, .int v1), (2, .int v2)] := hl
  have hx := X.1
  have hb := X.2.1
  unfold fX4_hasPair at h
  refine lv_aload_n hx hb dX4_hasPair_0 rfl (lv_at hl 0 rfl) ?_
  refine lv_iload_n hx hb dX4_hasPair_1 rfl (lv_at hl 1 rfl) ?_
  obtain ⟨r1, hcr1, h⟩ := bd_y h
  refine g_cVI (a := a) (ci := 4) (T := TX4) (N := 10) (av := [.int v1]) (rest := []) X hG hS (ct_X4_hasPerson l z k_a n_a hcr1) mt_X4_hasPerson ml_X4_55 rfl ⟨rfl, rfl, Nat.le_of_ble_eq_true rfl, Nat.le_of_ble_eq_true rfl⟩ ⟨Nat.le_refl 0, Nat.le_refl 0⟩ (nx_0 n_a) k_a (by decide) rfl hl.1 (Nat.le_of_ble_eq_true rfl) rfl dX4_hasPair_2 (fun H locs hG hS => ?_)
  refine lv_if_eq (tgt := 25) hx hb dX4_hasPair_5 (by decide) (fun q2 => ?_) (fun q2 => ?_)
  · have h := ite_y h q2
    refine lv_iconst (v := 0) hx hb dX4_hasPair_25 (by decide) ?_
    obtain rfl := Option.some.inj h
    exact g_zret (zn (Or.inl rfl)) X hr hlk hG hS dX4_hasPair_26
  · have h := ite_n h q2
    refine lv_aload_n hx hb dX4_hasPair_8 rfl (lv_at hl 0 rfl) ?_
    refine lv_iload_n hx hb dX4_hasPair_9 rfl (lv_at hl 2 rfl) ?_
    obtain ⟨r3, hcr3, h⟩ := bd_y h
    refine g_cVI (a := a) (ci := 4) (T := TX4) (N := 10) (av := [.int v2]) (rest := []) X hG hS (ct_X4_hasPerson l z k_a n_a hcr3) mt_X4_hasPerson ml_X4_55 rfl ⟨rfl, rfl, Nat.le_of_ble_eq_true rfl, Nat.le_of_ble_eq_true rfl⟩ ⟨Nat.le_refl 0, Nat.le_refl 0⟩ (nx_0 n_a) k_a (by decide) rfl hl.1 (Nat.le_of_ble_eq_true rfl) rfl dX4_hasPair_10 (fun H locs hG hS => ?_)
    refine lv_if_eq (tgt := 25) hx hb dX4_hasPair_13 (by decide) (fun q4 => ?_) (fun q4 => ?_)
    · have h := ite_y h q4
      refine lv_iconst (v := 0) hx hb dX4_hasPair_25 (by decide) ?_
      obtain rfl := Option.some.inj h
      exact g_zret (zn (Or.inl rfl)) X hr hlk hG hS dX4_hasPair_26
    · have h := ite_n h q4
      refine lv_iload_n hx hb dX4_hasPair_16 rfl (lv_at hl 1 rfl) ?_
      refine lv_iload_n hx hb dX4_hasPair_17 rfl (lv_at hl 2 rfl) ?_
      refine lv_icmp_eq (tgt := 25) hx hb dX4_hasPair_18 (by decide) (fun q5 => ?_) (fun q5 => ?_)
      · have h := ite_y h q5
        refine lv_iconst (v := 0) hx hb dX4_hasPair_25 (by decide) ?_
        obtain rfl := Option.some.inj h
        exact g_zret (zn (Or.inl rfl)) X hr hlk hG hS dX4_hasPair_26
      · have h := ite_n h q5
        refine lv_iconst (v := 1) hx hb dX4_hasPair_21 (by decide) ?_
        refine lv_goto (tgt := 26) hx hb dX4_hasPair_22 (by decide) ?_
        obtain rfl := Option.some.inj h
        exact g_zret (zn (Or.inr rfl)) X hr hlk hG hS dX4_hasPair_26
set_option maxRecDepth 100000 in
set_option maxHeartbeats 4000000 in
theorem ct_X4_priceAt (l : Launch) (z : gZ) {N : Nat} {M : Mem} {a : Nat} {v1 : Int32} {v2 : Int32} {v3 : Int32} {o : Mem} (k_a : kd a = 4) (n_a : a + 8 ≤ gn z) (h : fX4_priceAt N M a v1 v2 v3 = some o) : CtV l z yX4_priceAt cX4_priceAt 5 none { frames := 0, cells := 0, slots := 0, locals := 0 } [.ref (gad z a), .int v1, .int v2, .int v3] M o := by
  refine Ct_of rfl (Nat.le_of_ble_eq_true rfl) ?_
  intro p e s m below meth c ls X hr hlk hG hS hl
  have X : gX p m c _ _ s _ RX4 z := X
  have hl : lv_has ls 5 [(0, .ref (gad z a)), (1, .int v1), (2, .int v2), (3, .int v3)] := hl
  have hx := X.1
  have hb := X.2.1
  unfold fX4_priceAt at h
  refine lv_bipush (v := 12) hx hb dX4_priceAt_0 (by decide) ?_
  refine lv_iload_n hx hb dX4_priceAt_2 rfl (lv_at hl 1 rfl) ?_
  refine lv_imul hx hb dX4_priceAt_3 ?_
  refine lv_iload_n hx hb dX4_priceAt_4 rfl (lv_at hl 2 rfl) ?_
  refine lv_iadd hx hb dX4_priceAt_5 ?_
  refine lv_topi (fun x1 ex1 => ?_)
  have h := nm_y h x1 ex1
  refine lv_istore (lv' := [(4, .int x1), (0, .ref (gad z a)), (1, .int v1), (2, .int v2), (3, .int v3)]) hx hb dX4_priceAt_6 hl (by decide) rfl (fun ls hl => ?_)
  refine lv_aload_n hx hb dX4_priceAt_8 rfl (lv_at hl 1 rfl) ?_
  refine gf_X4_6 X hG (nx_0 n_a) k_a fl_X4_30 dX4_priceAt_9 ?_
  refine lv_iload_n hx hb dX4_priceAt_12 rfl (lv_at hl 2 rfl) ?_
  refine lv_dup2_11 hx hb dX4_priceAt_13 rfl rfl ?_
  obtain ⟨i2, h⟩ := gd_y h
  refine g_iald X hG (nx_a (a := a) (k := 7) (n := 8) n_a (Nat.le_of_ble_eq_true rfl)) (kx_4_7 k_a) (by decide) i2 dX4_priceAt_14 ?_
  refine lv_iload_n hx hb dX4_priceAt_15 rfl (lv_at hl 4 rfl) ?_
  refine lv_aload_n hx hb dX4_priceAt_16 rfl (lv_at hl 1 rfl) ?_
  refine gf_X4_5 X hG (nx_0 n_a) k_a fl_X4_27 dX4_priceAt_17 ?_
  refine lv_iload hx hb dX4_priceAt_20 (lv_at hl 0 rfl) ?_
  obtain ⟨i3, h⟩ := gd_y h
  refine g_iald X hG (nx_a (a := a) (k := 6) (n := 8) n_a (Nat.le_of_ble_eq_true rfl)) (kx_4_6 k_a) (by decide) i3 dX4_priceAt_22 ?_
  refine lv_isub hx hb dX4_priceAt_23 ?_
  refine lv_iadd hx hb dX4_priceAt_24 ?_
  refine g_iast X hG hS (nx_a (a := a) (k := 7) (n := 8) n_a (Nat.le_of_ble_eq_true rfl)) (kx_4_7 k_a) (by decide) i2 dX4_priceAt_25 (fun H locs hG hS => ?_)
  obtain ⟨M4, eM4⟩ : ∃ y, y = sI M (a + 7) (v1 : Int32).toNatClampNeg ((M.1 (a + 7) (v1 : Int32).toNatClampNeg) + (v3 - (M.1 (a + 6) (x1 : Int32).toNatClampNeg))) := ⟨_, rfl⟩
  rw [← eM4] at hG
  have h := nm_y h M4 eM4
  refine lv_aload_n hx hb dX4_priceAt_26 rfl (lv_at hl 1 rfl) ?_
  refine gf_X4_5 X hG (nx_0 n_a) k_a fl_X4_27 dX4_priceAt_27 ?_
  refine lv_iload hx hb dX4_priceAt_30 (lv_at hl 0 rfl) ?_
  refine lv_iload_n hx hb dX4_priceAt_32 rfl (lv_at hl 4 rfl) ?_
  refine g_iast X hG hS (nx_a (a := a) (k := 6) (n := 8) n_a (Nat.le_of_ble_eq_true rfl)) (kx_4_6 k_a) (by decide) i3 dX4_priceAt_33 (fun H locs hG hS => ?_)
  obtain ⟨M5, eM5⟩ : ∃ y, y = sI M4 (a + 6) (x1 : Int32).toNatClampNeg v3 := ⟨_, rfl⟩
  rw [← eM5] at hG
  have h := nm_y h M5 eM5
  obtain rfl := Option.some.inj h
  exact g_vret X hr hlk hG hS dX4_priceAt_34
set_option maxRecDepth 100000 in
set_option maxHeartbeats 4000000 in
theorem ct_X4_join (l : Launch) (z : gZ) {N : Nat} {M : Mem} {a : Nat} {v1 : Int32} {v2 : Int32} {v3 : Int32} {o : Mem} (k_a : kd a = 4) (n_a : a + 8 ≤ gn z) (h : fX4_join N M a v1 v2 v3 = some o) : CtV l z yX4_join cX4_join 4 none { frames := 2, cells := 0, slots := 0, locals := 43 } [.ref (gad z a), .int v1, .int v2, .int v3] M o := by
  refine Ct_of rfl (Nat.le_of_ble_eq_true rfl) ?_
  intro p e s m below meth c ls X hr hlk hG hS hl
  have X : gX p m c _ _ s _ RX4 z := X
  have hl : lv_has ls 4 [(0, .ref (gad z a)), (1, .int v1), (2, .int v2), (3, .int v3)] := hl
  have hx := X.1
  have hb := X.2.1
  unfold fX4_join at h
  refine lv_aload_n hx hb dX4_join_0 rfl (lv_at hl 0 rfl) ?_
  refine lv_iload_n hx hb dX4_join_1 rfl (lv_at hl 1 rfl) ?_
  refine lv_iload_n hx hb dX4_join_2 rfl (lv_at hl 2 rfl) ?_
  obtain ⟨r1, hcr1, h⟩ := bd_y h
  refine g_cVI (a := a) (ci := 4) (T := TX4) (N := 10) (av := [.int v1, .int v2]) (rest := []) X hG hS (ct_X4_hasPair l z k_a n_a hcr1) mt_X4_hasPair ml_X4_77 rfl ⟨rfl, rfl, Nat.le_of_ble_eq_true rfl, Nat.le_of_ble_eq_true rfl⟩ ⟨Nat.le_refl 0, Nat.le_refl 0⟩ (nx_0 n_a) k_a (by decide) rfl hl.1 (Nat.le_of_ble_eq_true rfl) rfl dX4_join_3 (fun H locs hG hS => ?_)
  refine lv_if_eq (tgt := 47) hx hb dX4_join_6 (by decide) (fun q2 => ?_) (fun q2 => ?_)
  · have h := ite_y h q2
    obtain rfl := Option.some.inj h
    exact g_vret X hr hlk hG hS dX4_join_47
  · have h := ite_n h q2
    refine lv_aload_n hx hb dX4_join_9 rfl (lv_at hl 0 rfl) ?_
    refine gf_X4_2 X hG (nx_0 n_a) k_a fl_X4_18 dX4_join_10 ?_
    refine lv_iload_n hx hb dX4_join_13 rfl (lv_at hl 1 rfl) ?_
    refine lv_dup2_11 hx hb dX4_join_14 rfl rfl ?_
    obtain ⟨i3, h⟩ := gd_y h
    refine g_iald X hG (nx_a (a := a) (k := 3) (n := 8) n_a (Nat.le_of_ble_eq_true rfl)) (kx_4_3 k_a) (by decide) i3 dX4_join_15 ?_
    refine lv_iconst (v := 1) hx hb dX4_join_16 (by decide) ?_
    refine lv_iload_n hx hb dX4_join_17 rfl (lv_at hl 2 rfl) ?_
    refine lv_ishl hx hb dX4_join_18 ?_
    refine lv_ior hx hb dX4_join_19 ?_
    refine g_iast X hG hS (nx_a (a := a) (k := 3) (n := 8) n_a (Nat.le_of_ble_eq_true rfl)) (kx_4_3 k_a) (by decide) i3 dX4_join_20 (fun H locs hG hS => ?_)
    obtain ⟨M4, eM4⟩ : ∃ y, y = sI M (a + 3) (v1 : Int32).toNatClampNeg ((M.1 (a + 3) (v1 : Int32).toNatClampNeg) ||| (1 <<< (v2 &&& 31))) := ⟨_, rfl⟩
    rw [← eM4] at hG
    have h := nm_y h M4 eM4
    refine lv_aload_n hx hb dX4_join_21 rfl (lv_at hl 0 rfl) ?_
    refine gf_X4_2 X hG (nx_0 n_a) k_a fl_X4_18 dX4_join_22 ?_
    refine lv_iload_n hx hb dX4_join_25 rfl (lv_at hl 2 rfl) ?_
    refine lv_dup2_11 hx hb dX4_join_26 rfl rfl ?_
    obtain ⟨i5, h⟩ := gd_y h
    refine g_iald X hG (nx_a (a := a) (k := 3) (n := 8) n_a (Nat.le_of_ble_eq_true rfl)) (kx_4_3 k_a) (by decide) i5 dX4_join_27 ?_
    refine lv_iconst (v := 1) hx hb dX4_join_28 (by decide) ?_
    refine lv_iload_n hx hb dX4_join_29 rfl (lv_at hl 1 rfl) ?_
    refine lv_ishl hx hb dX4_join_30 ?_
    refine lv_ior hx hb dX4_join_31 ?_
    refine g_iast X hG hS (nx_a (a := a) (k := 3) (n := 8) n_a (Nat.le_of_ble_eq_true rfl)) (kx_4_3 k_a) (by decide) i5 dX4_join_32 (fun H locs hG hS => ?_)
    obtain ⟨M6, eM6⟩ : ∃ y, y = sI M4 (a + 3) (v2 : Int32).toNatClampNeg ((M4.1 (a + 3) (v2 : Int32).toNatClampNeg) ||| (1 <<< (v1 &&& 31))) := ⟨_, rfl⟩
    rw [← eM6] at hG
    have h := nm_y h M6 eM6
    refine lv_aload_n hx hb dX4_join_33 rfl (lv_at hl 0 rfl) ?_
    refine lv_iload_n hx hb dX4_join_34 rfl (lv_at hl 1 rfl) ?_
    refine lv_iload_n hx hb dX4_join_35 rfl (lv_at hl 2 rfl) ?_
    refine lv_iload_n hx hb dX4_join_36 rfl (lv_at hl 3 rfl) ?_
    obtain ⟨r7, hcr7, h⟩ := bd_y h
    refine g_cVV (a := a) (ci := 4) (T := TX4) (N := 10) (av := [.int v1, .int v2, .int v3]) (rest := []) X hG hS (ct_X4_priceAt l z k_a n_a hcr7) mt_X4_priceAt ml_X4_83 rfl ⟨rfl, rfl, Nat.le_of_ble_eq_true rfl, Nat.le_of_ble_eq_true rfl⟩ ⟨Nat.le_refl 0, Nat.le_refl 0⟩ (nx_0 n_a) k_a (by decide) rfl hl.1 (Nat.le_of_ble_eq_true rfl) rfl dX4_join_37 (fun H locs hG hS => ?_)
    refine lv_aload_n hx hb dX4_join_40 rfl (lv_at hl 0 rfl) ?_
    refine lv_iload_n hx hb dX4_join_41 rfl (lv_at hl 2 rfl) ?_
    refine lv_iload_n hx hb dX4_join_42 rfl (lv_at hl 1 rfl) ?_
    refine lv_iload_n hx hb dX4_join_43 rfl (lv_at hl 3 rfl) ?_
    obtain ⟨r8, hcr8, h⟩ := bd_y h
    refine g_cVV (a := a) (ci := 4) (T := TX4) (N := 10) (av := [.int v2, .int v1, .int v3]) (rest := []) X hG hS (ct_X4_priceAt l z k_a n_a hcr8) mt_X4_priceAt ml_X4_83 rfl ⟨rfl, rfl, Nat.le_of_ble_eq_true rfl, Nat.le_of_ble_eq_true rfl⟩ ⟨Nat.le_refl 0, Nat.le_refl 0⟩ (nx_0 n_a) k_a (by decide) rfl hl.1 (Nat.le_of_ble_eq_true rfl) rfl dX4_join_44 (fun H locs hG hS => ?_)
    obtain rfl := Option.some.inj h
    exact g_vret X hr hlk hG hS dX4_join_47
set_option maxRecDepth 100000 in
set_option maxHeartbeats 4000000 in
theorem ct_X4_setMust (l : Launch) (z : gZ) {N : Nat} {M : Mem} {a : Nat} {v1 : Int32} {v2 : Int32} {o : Mem} (k_a : kd a = 4) (n_a : a + 8 ≤ gn z) (h : fX4_setMust N M a v1 v2 = some o) : CtV l z yX4_setMust cX4_setMust 4 none { frames := 0, cells := 0, slots := 0, locals := 0 } [.ref (gad z a), .int v1, .int v2] M o := by
  refine Ct_of rfl (Nat.le_of_ble_eq_true rfl) ?_
  intro p e s m below meth c ls X hr hlk hG hS hl
  have X : gX p m c _ _ s _ RX4 z := X
  have hl : lv_has ls 4 [(0, .ref (gad z a)), (1, .int v1), (2, .int v2)] := hl
  have hx := X.1
  have hb := X.2.1
  unfold fX4_setMust at h
  refine lv_iconst (v := 1) hx hb dX4_setMust_0 (by decide) ?_
  refine lv_iload_n hx hb dX4_setMust_1 rfl (lv_at hl 1 rfl) ?_
  refine lv_ishl hx hb dX4_setMust_2 ?_
  refine lv_topi (fun x1 ex1 => ?_)
  have h := nm_y h x1 ex1
  refine lv_istore_n (lv' := [(3, .int x1), (0, .ref (gad z a)), (1, .int v1), (2, .int v2)]) hx hb dX4_setMust_3 rfl hl (by decide) rfl (fun ls hl => ?_)
  refine lv_aload_n hx hb dX4_setMust_4 rfl (lv_at hl 1 rfl) ?_
  refine lv_iload_n hx hb dX4_setMust_5 rfl (lv_at hl 3 rfl) ?_
  refine lv_if_eq (tgt := 18) hx hb dX4_setMust_6 (by decide) (fun q2 => ?_) (fun q2 => ?_)
  · have h := ite_y h q2
    refine lv_aload_n hx hb dX4_setMust_18 rfl (lv_at hl 1 rfl) ?_
    refine gf_X4_9 X hG (nx_0 n_a) k_a fl_X4_40 dX4_setMust_19 ?_
    refine lv_iload_n hx hb dX4_setMust_22 rfl (lv_at hl 0 rfl) ?_
    refine lv_iconst (v := (-1)) hx hb dX4_setMust_23 (by decide) ?_
    refine lv_ixor hx hb dX4_setMust_24 ?_
    refine lv_iand hx hb dX4_setMust_25 ?_
    refine pf_X4_9 X hG hS (nx_0 n_a) k_a fl_X4_40 dX4_setMust_26 (fun H locs hG hS => ?_)
    obtain ⟨M3, eM3⟩ : ∃ y, y = sI M a 9 ((M.1 a 9) &&& (x1 ^^^ (-1))) := ⟨_, rfl⟩
    rw [← eM3] at hG
    have h := nm_y h M3 eM3
    obtain rfl := Option.some.inj h
    exact g_vret X hr hlk hG hS dX4_setMust_29
  · have h := ite_n h q2
    refine lv_aload_n hx hb dX4_setMust_9 rfl (lv_at hl 1 rfl) ?_
    refine gf_X4_9 X hG (nx_0 n_a) k_a fl_X4_40 dX4_setMust_10 ?_
    refine lv_iload_n hx hb dX4_setMust_13 rfl (lv_at hl 0 rfl) ?_
    refine lv_ior hx hb dX4_setMust_14 ?_
    refine lv_goto (tgt := 26) hx hb dX4_setMust_15 (by decide) ?_
    refine pf_X4_9 X hG hS (nx_0 n_a) k_a fl_X4_40 dX4_setMust_26 (fun H locs hG hS => ?_)
    obtain ⟨M4, eM4⟩ : ∃ y, y = sI M a 9 ((M.1 a 9) ||| x1) := ⟨_, rfl⟩
    rw [← eM4] at hG
    have h := nm_y h M4 eM4
    obtain rfl := Option.some.inj h
    exact g_vret X hr hlk hG hS dX4_setMust_29
set_option maxRecDepth 100000 in
set_option maxHeartbeats 4000000 in
theorem ct_X4_isIn (l : Launch) (z : gZ) {N : Nat} {M : Mem} {v0 : Int32} {v1 : Int32} {o : Int32}  (h : fX4_isIn N M v0 v1 = some o) : CtI l z yX4_isIn cX4_isIn 2 (some .boolean) { frames := 0, cells := 0, slots := 0, locals := 0 } [.int v0, .int v1] M o M := by
  refine Ct_of rfl (Nat.le_of_ble_eq_true rfl) ?_
  intro p e s m below meth c ls X hr hlk hG hS hl
  have X : gX p m c _ _ s _ RX4 z := X
  have hl : lv_has ls 2 [(0, .int v0), (1, .int v1)] := hl
  have hx := X.1
  have hb := X.2.1
  unfold fX4_isIn at h
  refine lv_iload_n hx hb dX4_isIn_0 rfl (lv_at hl 1 rfl) ?_
  refine lv_iconst (v := 1) hx hb dX4_isIn_1 (by decide) ?_
  refine lv_iload_n hx hb dX4_isIn_2 rfl (lv_at hl 0 rfl) ?_
  refine lv_ishl hx hb dX4_isIn_3 ?_
  refine lv_iand hx hb dX4_isIn_4 ?_
  refine lv_if_eq (tgt := 12) hx hb dX4_isIn_5 (by decide) (fun q1 => ?_) (fun q1 => ?_)
  · have h := ite_y h q1
    refine lv_iconst (v := 0) hx hb dX4_isIn_12 (by decide) ?_
    obtain rfl := Option.some.inj h
    exact g_zret (zn (Or.inl rfl)) X hr hlk hG hS dX4_isIn_13
  · have h := ite_n h q1
    refine lv_iconst (v := 1) hx hb dX4_isIn_8 (by decide) ?_
    refine lv_goto (tgt := 13) hx hb dX4_isIn_9 (by decide) ?_
    obtain rfl := Option.some.inj h
    exact g_zret (zn (Or.inr rfl)) X hr hlk hG hS dX4_isIn_13
set_option maxRecDepth 100000 in
set_option maxHeartbeats 4000000 in
theorem ct_X4_areNear (l : Launch) (z : gZ) {N : Nat} {M : Mem} {a : Nat} {v1 : Int32} {v2 : Int32} {o : Int32} (k_a : kd a = 4) (n_a : a + 8 ≤ gn z) (h : fX4_areNear N M a v1 v2 = some o) : CtI l z yX4_areNear cX4_areNear 3 (some .boolean) { frames := 2, cells := 0, slots := 0, locals := 43 } [.ref (gad z a), .int v1, .int v2] M o M := by
  refine Ct_of rfl (Nat.le_of_ble_eq_true rfl) ?_
  intro p e s m below meth c ls X hr hlk hG hS hl
  have X : gX p m c _ _ s _ RX4 z := X
  have hl : lv_has ls 3 [(0, .ref (gad z a)), (1, .int v1), (2, .int v2)] := hl
  have hx := X.1
  have hb := X.2.1
  unfold fX4_areNear at h
  refine lv_aload_n hx hb dX4_areNear_0 rfl (lv_at hl 0 rfl) ?_
  refine lv_iload_n hx hb dX4_areNear_1 rfl (lv_at hl 1 rfl) ?_
  refine lv_iload_n hx hb dX4_areNear_2 rfl (lv_at hl 2 rfl) ?_
  obtain ⟨r1, hcr1, h⟩ := bd_y h
  refine g_cVI (a := a) (ci := 4) (T := TX4) (N := 10) (av := [.int v1, .int v2]) (rest := []) X hG hS (ct_X4_hasPair l z k_a n_a hcr1) mt_X4_hasPair ml_X4_77 rfl ⟨rfl, rfl, Nat.le_of_ble_eq_true rfl, Nat.le_of_ble_eq_true rfl⟩ ⟨Nat.le_refl 0, Nat.le_refl 0⟩ (nx_0 n_a) k_a (by decide) rfl hl.1 (Nat.le_of_ble_eq_true rfl) rfl dX4_areNear_3 (fun H locs hG hS => ?_)
  refine lv_if_eq (tgt := 26) hx hb dX4_areNear_6 (by decide) (fun q2 => ?_) (fun q2 => ?_)
  · have h := ite_y h q2
    refine lv_iconst (v := 0) hx hb dX4_areNear_26 (by decide) ?_
    obtain rfl := Option.some.inj h
    exact g_zret (zn (Or.inl rfl)) X hr hlk hG hS dX4_areNear_27
  · have h := ite_n h q2
    refine lv_iload_n hx hb dX4_areNear_9 rfl (lv_at hl 2 rfl) ?_
    refine lv_aload_n hx hb dX4_areNear_10 rfl (lv_at hl 0 rfl) ?_
    refine gf_X4_2 X hG (nx_0 n_a) k_a fl_X4_18 dX4_areNear_11 ?_
    refine lv_iload_n hx hb dX4_areNear_14 rfl (lv_at hl 1 rfl) ?_
    obtain ⟨i3, h⟩ := gd_y h
    refine g_iald X hG (nx_a (a := a) (k := 3) (n := 8) n_a (Nat.le_of_ble_eq_true rfl)) (kx_4_3 k_a) (by decide) i3 dX4_areNear_15 ?_
    obtain ⟨r4, hcr4, h⟩ := bd_y h
    refine g_cSI (av := [.int v2, .int (M.1 (a + 3) (v1 : Int32).toNatClampNeg)]) (rest := []) X hG hS (ct_X4_isIn l z  hcr4) mt_X4_isIn ml_X4_63 rfl ⟨rfl, rfl, Nat.le_of_ble_eq_true rfl, Nat.le_of_ble_eq_true rfl⟩ ⟨Nat.le_refl 0, Nat.le_refl 0⟩ hl.1 (Nat.le_of_ble_eq_true rfl) rfl dX4_areNear_16 (fun H locs hG hS => ?_)
    refine lv_if_eq (tgt := 26) hx hb dX4_areNear_19 (by decide) (fun q5 => ?_) (fun q5 => ?_)
    · have h := ite_y h q5
      refine lv_iconst (v := 0) hx hb dX4_areNear_26 (by decide) ?_
      obtain rfl := Option.some.inj h
      exact g_zret (zn (Or.inl rfl)) X hr hlk hG hS dX4_areNear_27
    · have h := ite_n h q5
      refine lv_iconst (v := 1) hx hb dX4_areNear_22 (by decide) ?_
      refine lv_goto (tgt := 27) hx hb dX4_areNear_23 (by decide) ?_
      obtain rfl := Option.some.inj h
      exact g_zret (zn (Or.inr rfl)) X hr hlk hG hS dX4_areNear_27
set_option maxRecDepth 100000 in
set_option maxHeartbeats 4000000 in
theorem wX4_joinNeighbours_2 {N : Nat} {p : Program} {l : Launch} {e : Env} {s : State} {m : MethodId} {args : Array Value} {below : List Frame} {meth : Method} {c : Code} {z : gZ} {a : Nat} {o : Mem} (X : gX p m c cX4_joinNeighbours 3 s args RX4 z) (hr : meth.sig.returnType = none) (hlk : meth.locks = false) (k_a : kd a = 4) (n_a : a + 8 ≤ gn z)  : ∀ (n : Nat) (Mw : Mem) (w1 : Int32) (H : Heap) (locs : List Loc) (ls : Array Slot), fX4_joinNeighbours_2 N a  n Mw w1 = some o → gW z Mw H → va_S (gA z) s.heap H locs → lv_has ls 3 [(0, .ref (gad z a)), (1, .int w1)] → W p l e { frames := 3, cells := 0, slots := 0, locals := 66 } s m args below meth c H locs 0 0 (MQ below (va_Qv (fun (_ : Unit) => True) (fun _ t => gW z o t.heap) (gA z)) args s 0 0 (gA z)) (F0 m 2 ls []) := by
  have hx := X.1
  have hb := X.2.1
  intro n
  induction n with
  | zero => intro Mw w1 H locs ls h; cases h
  | succ n ih =>
    intro Mw w1 H locs ls h hG hS hl
    rw [fX4_joinNeighbours_2] at h
    refine lv_iload_n hx hb dX4_joinNeighbours_2 rfl (lv_at hl 1 rfl) ?_
    refine lv_aload_n hx hb dX4_joinNeighbours_3 rfl (lv_at hl 0 rfl) ?_
    refine gf_X4_7 X hG (nx_0 n_a) k_a fl_X4_33 dX4_joinNeighbours_4 ?_
    refine lv_icmp_ge (tgt := 50) hx hb dX4_joinNeighbours_7 (by decide) (fun q1 => ?_) (fun q1 => ?_)
    · have h := ite_y h q1
      obtain rfl := Option.some.inj h
      exact g_vret X hr hlk hG hS dX4_joinNeighbours_50
    · have h := ite_n h q1
      refine lv_iload_n hx hb dX4_joinNeighbours_10 rfl (lv_at hl 1 rfl) ?_
      refine lv_iconst (v := 1) hx hb dX4_joinNeighbours_11 (by decide) ?_
      refine lv_iadd hx hb dX4_joinNeighbours_12 ?_
      refine lv_aload_n hx hb dX4_joinNeighbours_13 rfl (lv_at hl 0 rfl) ?_
      refine gf_X4_7 X hG (nx_0 n_a) k_a fl_X4_33 dX4_joinNeighbours_14 ?_
      refine lv_icmp_ge (tgt := 26) hx hb dX4_joinNeighbours_17 (by decide) (fun q2 => ?_) (fun q2 => ?_)
      · have h := ite_y h q2
        refine lv_iconst (v := 0) hx hb dX4_joinNeighbours_26 (by decide) ?_
        refine lv_istore_n (lv' := [(2, .int 0), (0, .ref (gad z a)), (1, .int w1)]) hx hb dX4_joinNeighbours_27 rfl hl (by decide) rfl (fun ls hl => ?_)
        refine lv_aload_n hx hb dX4_joinNeighbours_28 rfl (lv_at hl 1 rfl) ?_
        refine lv_iload_n hx hb dX4_joinNeighbours_29 rfl (lv_at hl 2 rfl) ?_
        refine lv_iload_n hx hb dX4_joinNeighbours_30 rfl (lv_at hl 0 rfl) ?_
        obtain ⟨r3, hcr3, h⟩ := bd_y h
        refine g_cVI (a := a) (ci := 4) (T := TX4) (N := 10) (av := [.int w1, .int 0]) (rest := []) X hG hS (ct_X4_areNear l z k_a n_a hcr3) mt_X4_areNear ml_X4_80 rfl ⟨rfl, rfl, Nat.le_of_ble_eq_true rfl, Nat.le_of_ble_eq_true rfl⟩ ⟨Nat.le_refl 0, Nat.le_refl 0⟩ (nx_0 n_a) k_a (by decide) rfl hl.1 (Nat.le_of_ble_eq_true rfl) rfl dX4_joinNeighbours_31 (fun H locs hG hS => ?_)
        refine lv_if_ne (tgt := 44) hx hb dX4_joinNeighbours_34 (by decide) (fun q4 => ?_) (fun q4 => ?_)
        · have h := ite_n h q4
          refine lv_iinc (v := (w1 + 1)) (lv' := [(1, .int (w1 + 1)), (2, .int 0), (0, .ref (gad z a))]) hx hb dX4_joinNeighbours_44 hl (k := 2) rfl rfl (by decide) rfl (fun ls hl => ?_)
          refine lv_goto (tgt := 2) hx hb dX4_joinNeighbours_47 (by decide) ?_
          exact ih Mw (w1 + 1) _ _ _ h hG hS (lv_sub hl [2, 0] rfl)
        · have h := ite_y h q4
          refine lv_aload_n hx hb dX4_joinNeighbours_37 rfl (lv_at hl 1 rfl) ?_
          refine lv_iload_n hx hb dX4_joinNeighbours_38 rfl (lv_at hl 2 rfl) ?_
          refine lv_iload_n hx hb dX4_joinNeighbours_39 rfl (lv_at hl 0 rfl) ?_
          refine lv_iconst (v := 0) hx hb dX4_joinNeighbours_40 (by decide) ?_
          obtain ⟨r5, hcr5, h⟩ := bd_y h
          refine g_cVV (a := a) (ci := 4) (T := TX4) (N := 10) (av := [.int w1, .int 0, .int 0]) (rest := []) X hG hS (ct_X4_join l z k_a n_a hcr5) mt_X4_join ml_X4_74 rfl ⟨rfl, rfl, Nat.le_of_ble_eq_true rfl, Nat.le_of_ble_eq_true rfl⟩ ⟨Nat.le_refl 0, Nat.le_refl 0⟩ (nx_0 n_a) k_a (by decide) rfl hl.1 (Nat.le_of_ble_eq_true rfl) rfl dX4_joinNeighbours_41 (fun H locs hG hS => ?_)
          refine lv_iinc (v := (w1 + 1)) (lv' := [(1, .int (w1 + 1)), (2, .int 0), (0, .ref (gad z a))]) hx hb dX4_joinNeighbours_44 hl (k := 2) rfl rfl (by decide) rfl (fun ls hl => ?_)
          refine lv_goto (tgt := 2) hx hb dX4_joinNeighbours_47 (by decide) ?_
          exact ih r5 (w1 + 1) _ _ _ h hG hS (lv_sub hl [2, 0] rfl)
      · have h := ite_n h q2
        refine lv_iload_n hx hb dX4_joinNeighbours_20 rfl (lv_at hl 1 rfl) ?_
        refine lv_iconst (v := 1) hx hb dX4_joinNeighbours_21 (by decide) ?_
        refine lv_iadd hx hb dX4_joinNeighbours_22 ?_
        refine lv_goto (tgt := 27) hx hb dX4_joinNeighbours_23 (by decide) ?_
        refine lv_topi (fun x6 ex6 => ?_)
        have h := nm_y h x6 ex6
        refine lv_istore_n (lv' := [(2, .int x6), (0, .ref (gad z a)), (1, .int w1)]) hx hb dX4_joinNeighbours_27 rfl hl (by decide) rfl (fun ls hl => ?_)
        refine lv_aload_n hx hb dX4_joinNeighbours_28 rfl (lv_at hl 1 rfl) ?_
        refine lv_iload_n hx hb dX4_joinNeighbours_29 rfl (lv_at hl 2 rfl) ?_
        refine lv_iload_n hx hb dX4_joinNeighbours_30 rfl (lv_at hl 0 rfl) ?_
        obtain ⟨r7, hcr7, h⟩ := bd_y h
        refine g_cVI (a := a) (ci := 4) (T := TX4) (N := 10) (av := [.int w1, .int x6]) (rest := []) X hG hS (ct_X4_areNear l z k_a n_a hcr7) mt_X4_areNear ml_X4_80 rfl ⟨rfl, rfl, Nat.le_of_ble_eq_true rfl, Nat.le_of_ble_eq_true rfl⟩ ⟨Nat.le_refl 0, Nat.le_refl 0⟩ (nx_0 n_a) k_a (by decide) rfl hl.1 (Nat.le_of_ble_eq_true rfl) rfl dX4_joinNeighbours_31 (fun H locs hG hS => ?_)
        refine lv_if_ne (tgt := 44) hx hb dX4_joinNeighbours_34 (by decide) (fun q8 => ?_) (fun q8 => ?_)
        · have h := ite_n h q8
          refine lv_iinc (v := (w1 + 1)) (lv' := [(1, .int (w1 + 1)), (2, .int x6), (0, .ref (gad z a))]) hx hb dX4_joinNeighbours_44 hl (k := 2) rfl rfl (by decide) rfl (fun ls hl => ?_)
          refine lv_goto (tgt := 2) hx hb dX4_joinNeighbours_47 (by decide) ?_
          exact ih Mw (w1 + 1) _ _ _ h hG hS (lv_sub hl [2, 0] rfl)
        · have h := ite_y h q8
          refine lv_aload_n hx hb dX4_joinNeighbours_37 rfl (lv_at hl 1 rfl) ?_
          refine lv_iload_n hx hb dX4_joinNeighbours_38 rfl (lv_at hl 2 rfl) ?_
          refine lv_iload_n hx hb dX4_joinNeighbours_39 rfl (lv_at hl 0 rfl) ?_
          refine lv_iconst (v := 0) hx hb dX4_joinNeighbours_40 (by decide) ?_
          obtain ⟨r9, hcr9, h⟩ := bd_y h
          refine g_cVV (a := a) (ci := 4) (T := TX4) (N := 10) (av := [.int w1, .int x6, .int 0]) (rest := []) X hG hS (ct_X4_join l z k_a n_a hcr9) mt_X4_join ml_X4_74 rfl ⟨rfl, rfl, Nat.le_of_ble_eq_true rfl, Nat.le_of_ble_eq_true rfl⟩ ⟨Nat.le_refl 0, Nat.le_refl 0⟩ (nx_0 n_a) k_a (by decide) rfl hl.1 (Nat.le_of_ble_eq_true rfl) rfl dX4_joinNeighbours_41 (fun H locs hG hS => ?_)
          refine lv_iinc (v := (w1 + 1)) (lv' := [(1, .int (w1 + 1)), (2, .int x6), (0, .ref (gad z a))]) hx hb dX4_joinNeighbours_44 hl (k := 2) rfl rfl (by decide) rfl (fun ls hl => ?_)
          refine lv_goto (tgt := 2) hx hb dX4_joinNeighbours_47 (by decide) ?_
          exact ih r9 (w1 + 1) _ _ _ h hG hS (lv_sub hl [2, 0] rfl)
set_option maxRecDepth 100000 in
set_option maxHeartbeats 4000000 in
theorem ct_X4_joinNeighbours (l : Launch) (z : gZ) {N : Nat} {M : Mem} {a : Nat} {o : Mem} (k_a : kd a = 4) (n_a : a + 8 ≤ gn z) (h : fX4_joinNeighbours N M a = some o) : CtV l z yX4_joinNeighbours cX4_joinNeighbours 3 none { frames := 3, cells := 0, slots := 0, locals := 66 } [.ref (gad z a)] M o := by
  refine Ct_of rfl (Nat.le_of_ble_eq_true rfl) ?_
  intro p e s m below meth c ls X hr hlk hG hS hl
  have X : gX p m c _ _ s _ RX4 z := X
  have hl : lv_has ls 3 [(0, .ref (gad z a))] := hl
  have hx := X.1
  have hb := X.2.1
  unfold fX4_joinNeighbours at h
  refine lv_iconst (v := 0) hx hb dX4_joinNeighbours_0 (by decide) ?_
  refine lv_istore_n (lv' := [(1, .int 0), (0, .ref (gad z a))]) hx hb dX4_joinNeighbours_1 rfl hl (by decide) rfl (fun ls hl => ?_)
  refine wX4_joinNeighbours_2 X hr hlk k_a n_a _ _ _ _ _ _ h hG hS (lv_sub hl [1, 0] rfl)
set_option maxRecDepth 100000 in
set_option maxHeartbeats 4000000 in
theorem wX4_joinAll_14 {N : Nat} {p : Program} {l : Launch} {e : Env} {s : State} {m : MethodId} {args : Array Value} {below : List Frame} {meth : Method} {c : Code} {z : gZ} {a : Nat} {u1 : Int32} {o : Mem} (X : gX p m c cX4_joinAll 3 s args RX4 z) (hr : meth.sig.returnType = none) (hlk : meth.locks = false) (k_a : kd a = 4) (n_a : a + 8 ≤ gn z)  {K44 : Mem → Option Mem} (hK44 : ∀ (Mw : Mem) (H : Heap) (locs : List Loc) (ls : Array Slot), K44 Mw = some o → gW z Mw H → va_S (gA z) s.heap H locs → lv_has ls 3 [(0, .ref (gad z a)), (1, .int u1)] → W p l e { frames := 3, cells := 0, slots := 0, locals := 66 } s m args below meth c H locs 0 0 (MQ below (va_Qv (fun (_ : Unit) => True) (fun _ t => gW z o t.heap) (gA z)) args s 0 0 (gA z)) (F0 m 44 ls [])) : ∀ (n : Nat) (Mw : Mem) (w2 : Int32) (H : Heap) (locs : List Loc) (ls : Array Slot), fX4_joinAll_14 N a u1 K44 n Mw w2 = some o → gW z Mw H → va_S (gA z) s.heap H locs → lv_has ls 3 [(0, .ref (gad z a)), (1, .int u1), (2, .int w2)] → W p l e { frames := 3, cells := 0, slots := 0, locals := 66 } s m args below meth c H locs 0 0 (MQ below (va_Qv (fun (_ : Unit) => True) (fun _ t => gW z o t.heap) (gA z)) args s 0 0 (gA z)) (F0 m 14 ls []) := by
  have hx := X.1
  have hb := X.2.1
  intro n
  induction n with
  | zero => intro Mw w2 H locs ls h; cases h
  | succ n ih =>
    intro Mw w2 H locs ls h hG hS hl
    rw [fX4_joinAll_14] at h
    refine lv_iload_n hx hb dX4_joinAll_14 rfl (lv_at hl 2 rfl) ?_
    refine lv_aload_n hx hb dX4_joinAll_15 rfl (lv_at hl 0 rfl) ?_
    refine gf_X4_7 X hG (nx_0 n_a) k_a fl_X4_33 dX4_joinAll_16 ?_
    refine lv_icmp_ge (tgt := 44) hx hb dX4_joinAll_19 (by decide) (fun q1 => ?_) (fun q1 => ?_)
    · have h := ite_y h q1
      exact hK44 Mw  _ _ _ h hG hS (lv_sub hl [0, 1] rfl)
    · have h := ite_n h q1
      refine lv_aload_n hx hb dX4_joinAll_22 rfl (lv_at hl 0 rfl) ?_
      refine lv_iload_n hx hb dX4_joinAll_23 rfl (lv_at hl 1 rfl) ?_
      refine lv_iload_n hx hb dX4_joinAll_24 rfl (lv_at hl 2 rfl) ?_
      obtain ⟨r2, hcr2, h⟩ := bd_y h
      refine g_cVI (a := a) (ci := 4) (T := TX4) (N := 10) (av := [.int u1, .int w2]) (rest := []) X hG hS (ct_X4_areNear l z k_a n_a hcr2) mt_X4_areNear ml_X4_80 rfl ⟨rfl, rfl, Nat.le_of_ble_eq_true rfl, Nat.le_of_ble_eq_true rfl⟩ ⟨Nat.le_refl 0, Nat.le_refl 0⟩ (nx_0 n_a) k_a (by decide) rfl hl.1 (Nat.le_of_ble_eq_true rfl) rfl dX4_joinAll_25 (fun H locs hG hS => ?_)
      refine lv_if_ne (tgt := 38) hx hb dX4_joinAll_28 (by decide) (fun q3 => ?_) (fun q3 => ?_)
      · have h := ite_n h q3
        refine lv_iinc (v := (w2 + 1)) (lv' := [(2, .int (w2 + 1)), (0, .ref (gad z a)), (1, .int u1)]) hx hb dX4_joinAll_38 hl (k := 2) rfl rfl (by decide) rfl (fun ls hl => ?_)
        refine lv_goto (tgt := 14) hx hb dX4_joinAll_41 (by decide) ?_
        exact ih Mw (w2 + 1) _ _ _ h hG hS (lv_sub hl [1, 2, 0] rfl)
      · have h := ite_y h q3
        refine lv_aload_n hx hb dX4_joinAll_31 rfl (lv_at hl 0 rfl) ?_
        refine lv_iload_n hx hb dX4_joinAll_32 rfl (lv_at hl 1 rfl) ?_
        refine lv_iload_n hx hb dX4_joinAll_33 rfl (lv_at hl 2 rfl) ?_
        refine lv_iconst (v := 0) hx hb dX4_joinAll_34 (by decide) ?_
        obtain ⟨r4, hcr4, h⟩ := bd_y h
        refine g_cVV (a := a) (ci := 4) (T := TX4) (N := 10) (av := [.int u1, .int w2, .int 0]) (rest := []) X hG hS (ct_X4_join l z k_a n_a hcr4) mt_X4_join ml_X4_74 rfl ⟨rfl, rfl, Nat.le_of_ble_eq_true rfl, Nat.le_of_ble_eq_true rfl⟩ ⟨Nat.le_refl 0, Nat.le_refl 0⟩ (nx_0 n_a) k_a (by decide) rfl hl.1 (Nat.le_of_ble_eq_true rfl) rfl dX4_joinAll_35 (fun H locs hG hS => ?_)
        refine lv_iinc (v := (w2 + 1)) (lv' := [(2, .int (w2 + 1)), (0, .ref (gad z a)), (1, .int u1)]) hx hb dX4_joinAll_38 hl (k := 2) rfl rfl (by decide) rfl (fun ls hl => ?_)
        refine lv_goto (tgt := 14) hx hb dX4_joinAll_41 (by decide) ?_
        exact ih r4 (w2 + 1) _ _ _ h hG hS (lv_sub hl [1, 2, 0] rfl)
set_option maxRecDepth 100000 in
set_option maxHeartbeats 4000000 in
theorem wX4_joinAll_2 {N : Nat} {p : Program} {l : Launch} {e : Env} {s : State} {m : MethodId} {args : Array Value} {below : List Frame} {meth : Method} {c : Code} {z : gZ} {a : Nat} {o : Mem} (X : gX p m c cX4_joinAll 3 s args RX4 z) (hr : meth.sig.returnType = none) (hlk : meth.locks = false) (k_a : kd a = 4) (n_a : a + 8 ≤ gn z)  : ∀ (n : Nat) (Mw : Mem) (w1 : Int32) (H : Heap) (locs : List Loc) (ls : Array Slot), fX4_joinAll_2 N a  n Mw w1 = some o → gW z Mw H → va_S (gA z) s.heap H locs → lv_has ls 3 [(0, .ref (gad z a)), (1, .int w1)] → W p l e { frames := 3, cells := 0, slots := 0, locals := 66 } s m args below meth c H locs 0 0 (MQ below (va_Qv (fun (_ : Unit) => True) (fun _ t => gW z o t.heap) (gA z)) args s 0 0 (gA z)) (F0 m 2 ls []) := by
  have hx := X.1
  have hb := X.2.1
  intro n
  induction n with
  | zero => intro Mw w1 H locs ls h; cases h
  | succ n ih =>
    intro Mw w1 H locs ls h hG hS hl
    rw [fX4_joinAll_2] at h
    refine lv_iload_n hx hb dX4_joinAll_2 rfl (lv_at hl 1 rfl) ?_
    refine lv_aload_n hx hb dX4_joinAll_3 rfl (lv_at hl 0 rfl) ?_
    refine gf_X4_7 X hG (nx_0 n_a) k_a fl_X4_33 dX4_joinAll_4 ?_
    refine lv_icmp_ge (tgt := 50) hx hb dX4_joinAll_7 (by decide) (fun q1 => ?_) (fun q1 => ?_)
    · have h := ite_y h q1
      obtain rfl := Option.some.inj h
      exact g_vret X hr hlk hG hS dX4_joinAll_50
    · have h := ite_n h q1
      refine lv_iload_n hx hb dX4_joinAll_10 rfl (lv_at hl 1 rfl) ?_
      refine lv_iconst (v := 1) hx hb dX4_joinAll_11 (by decide) ?_
      refine lv_iadd hx hb dX4_joinAll_12 ?_
      refine lv_topi (fun x2 ex2 => ?_)
      have h := nm_y h x2 ex2
      refine lv_istore_n (lv' := [(2, .int x2), (0, .ref (gad z a)), (1, .int w1)]) hx hb dX4_joinAll_13 rfl hl (by decide) rfl (fun ls hl => ?_)
      refine wX4_joinAll_14 X hr hlk k_a n_a ?_ _ _ _ _ _ _ h hG hS (lv_sub hl [1, 2, 0] rfl)
      · intro My14 H locs ls h hG hS hl
        refine lv_iinc (v := (w1 + 1)) (lv' := [(1, .int (w1 + 1)), (0, .ref (gad z a))]) hx hb dX4_joinAll_44 hl (k := 1) rfl rfl (by decide) rfl (fun ls hl => ?_)
        refine lv_goto (tgt := 2) hx hb dX4_joinAll_47 (by decide) ?_
        exact ih My14 (w1 + 1) _ _ _ h hG hS (lv_sub hl [1, 0] rfl)
set_option maxRecDepth 100000 in
set_option maxHeartbeats 4000000 in
theorem ct_X4_joinAll (l : Launch) (z : gZ) {N : Nat} {M : Mem} {a : Nat} {o : Mem} (k_a : kd a = 4) (n_a : a + 8 ≤ gn z) (h : fX4_joinAll N M a = some o) : CtV l z yX4_joinAll cX4_joinAll 3 none { frames := 3, cells := 0, slots := 0, locals := 66 } [.ref (gad z a)] M o := by
  refine Ct_of rfl (Nat.le_of_ble_eq_true rfl) ?_
  intro p e s m below meth c ls X hr hlk hG hS hl
  have X : gX p m c _ _ s _ RX4 z := X
  have hl : lv_has ls 3 [(0, .ref (gad z a))] := hl
  have hx := X.1
  have hb := X.2.1
  unfold fX4_joinAll at h
  refine lv_iconst (v := 0) hx hb dX4_joinAll_0 (by decide) ?_
  refine lv_istore_n (lv' := [(1, .int 0), (0, .ref (gad z a))]) hx hb dX4_joinAll_1 rfl hl (by decide) rfl (fun ls hl => ?_)
  refine wX4_joinAll_2 X hr hlk k_a n_a _ _ _ _ _ _ h hG hS (lv_sub hl [1, 0] rfl)
set_option maxRecDepth 100000 in
set_option maxHeartbeats 4000000 in
theorem ct_X5_streetAt (l : Launch) (z : gZ) {N : Nat} {M : Mem} {a : Nat} {v1 : Int32} {o : Option Nat} (k_a : kd a = 5) (n_a : a + 44 ≤ gn z) (h : fX5_streetAt N M a v1 = some o) : CtR l z yX5_streetAt cX5_streetAt 2 (some (.object RX4)) { frames := 0, cells := 0, slots := 0, locals := 0 } [.ref (gad z a), .int v1] M o M := by
  refine Ct_of rfl (Nat.le_of_ble_eq_true rfl) ?_
  intro p e s m below meth c ls X hr hlk hG hS hl
  have X : gX p m c _ _ s _ RX5 z := X
  have hl : lv_has ls 2 [(0, .ref (gad z a)), (1, .int v1)] := hl
  have hx := X.1
  have hb := X.2.1
  unfold fX5_streetAt at h
  refine lv_iload_n hx hb dX5_streetAt_0 rfl (lv_at hl 1 rfl) ?_
  refine lv_if_lt (tgt := 26) hx hb dX5_streetAt_1 (by decide) (fun q1 => ?_) (fun q1 => ?_)
  · have h := ite_y h q1
    refine lv_null hx hb dX5_streetAt_26 ?_
    obtain rfl := Option.some.inj h
    exact g_aret none X hr hlk hG hS dX5_streetAt_27
  · have h := ite_n h q1
    refine lv_iload_n hx hb dX5_streetAt_4 rfl (lv_at hl 1 rfl) ?_
    refine lv_aload_n hx hb dX5_streetAt_5 rfl (lv_at hl 0 rfl) ?_
    refine gf_X5_3 X hG (nx_0 n_a) k_a fl_X5_33 dX5_streetAt_6 ?_
    refine lv_icmp_ge (tgt := 26) hx hb dX5_streetAt_9 (by decide) (fun q2 => ?_) (fun q2 => ?_)
    · have h := ite_y h q2
      refine lv_null hx hb dX5_streetAt_26 ?_
      obtain rfl := Option.some.inj h
      exact g_aret none X hr hlk hG hS dX5_streetAt_27
    · have h := ite_n h q2
      refine lv_iload_n hx hb dX5_streetAt_12 rfl (lv_at hl 1 rfl) ?_
      refine lv_iconst (v := 4) hx hb dX5_streetAt_13 (by decide) ?_
      refine lv_icmp_ge (tgt := 26) hx hb dX5_streetAt_14 (by decide) (fun q3 => ?_) (fun q3 => ?_)
      · have h := ite_y h q3
        refine lv_null hx hb dX5_streetAt_26 ?_
        obtain rfl := Option.some.inj h
        exact g_aret none X hr hlk hG hS dX5_streetAt_27
      · have h := ite_n h q3
        refine lv_aload_n hx hb dX5_streetAt_17 rfl (lv_at hl 0 rfl) ?_
        refine gf_X5_0 X hG (nx_0 n_a) k_a fl_X5_11 dX5_streetAt_18 ?_
        refine lv_iload_n hx hb dX5_streetAt_21 rfl (lv_at hl 1 rfl) ?_
        obtain ⟨i4, h⟩ := gd_y h
        refine g_aldS X hG (nx_a (a := a) (k := 1) (n := 44) n_a (Nat.le_of_ble_eq_true rfl)) (kx_5_1 k_a) (by decide) i4 dX5_streetAt_22 ?_
        refine lv_goto (tgt := 27) hx hb dX5_streetAt_23 (by decide) ?_
        obtain rfl := Option.some.inj h
        exact g_aret (some ((a + 1) + 11 + 8 * (v1 : Int32).toNatClampNeg)) X hr hlk hG hS dX5_streetAt_27
set_option maxRecDepth 100000 in
set_option maxHeartbeats 4000000 in
theorem ct_J6_bitCount_0f7a4 (l : Launch) (z : gZ) {N : Nat} {M : Mem} {v0 : Int32} {o : Int32}  (h : fJ6_bitCount_0f7a4 N M v0 = some o) : CtI l z yJ6_bitCount_0f7a4 cJ6_bitCount_0f7a4 1 (some .int) { frames := 0, cells := 0, slots := 0, locals := 0 } [.int v0] M o M := by
  refine Ct_of rfl (Nat.le_of_ble_eq_true rfl) ?_
  intro p e s m below meth c ls X hr hlk hG hS hl
  have X : gX p m c _ _ s _ RJ6 z := X
  have hl : lv_has ls 1 [(0, .int v0)] := hl
  have hx := X.1
  have hb := X.2.1
  unfold fJ6_bitCount_0f7a4 at h
  refine lv_iload_n hx hb dJ6_bitCount_0f7a4_0 rfl (lv_at hl 0 rfl) ?_
  refine lv_iload_n hx hb dJ6_bitCount_0f7a4_1 rfl (lv_at hl 0 rfl) ?_
  refine lv_iconst (v := 1) hx hb dJ6_bitCount_0f7a4_2 (by decide) ?_
  refine lv_iushr hx hb dJ6_bitCount_0f7a4_3 rfl ?_
  refine lv_ldcw (v := 1431655765) hx hb X.2.2.2.1 (X.2.2.2.2.1 _ cn_J6_265) dJ6_bitCount_0f7a4_4 ?_
  refine lv_iand hx hb dJ6_bitCount_0f7a4_7 ?_
  refine lv_isub hx hb dJ6_bitCount_0f7a4_8 ?_
  refine lv_topi (fun x1 ex1 => ?_)
  have h := nm_y h x1 ex1
  refine lv_istore_n (lv' := [(0, .int x1)]) hx hb dJ6_bitCount_0f7a4_9 rfl hl (by decide) rfl (fun ls hl => ?_)
  refine lv_iload_n hx hb dJ6_bitCount_0f7a4_10 rfl (lv_at hl 0 rfl) ?_
  refine lv_ldcw (v := 858993459) hx hb X.2.2.2.1 (X.2.2.2.2.1 _ cn_J6_266) dJ6_bitCount_0f7a4_11 ?_
  refine lv_iand hx hb dJ6_bitCount_0f7a4_14 ?_
  refine lv_iload_n hx hb dJ6_bitCount_0f7a4_15 rfl (lv_at hl 0 rfl) ?_
  refine lv_iconst (v := 2) hx hb dJ6_bitCount_0f7a4_16 (by decide) ?_
  refine lv_iushr hx hb dJ6_bitCount_0f7a4_17 rfl ?_
  refine lv_ldcw (v := 858993459) hx hb X.2.2.2.1 (X.2.2.2.2.1 _ cn_J6_266) dJ6_bitCount_0f7a4_18 ?_
  refine lv_iand hx hb dJ6_bitCount_0f7a4_21 ?_
  refine lv_iadd hx hb dJ6_bitCount_0f7a4_22 ?_
  refine lv_topi (fun x2 ex2 => ?_)
  have h := nm_y h x2 ex2
  refine lv_istore_n (lv' := [(0, .int x2)]) hx hb dJ6_bitCount_0f7a4_23 rfl hl (by decide) rfl (fun ls hl => ?_)
  refine lv_iload_n hx hb dJ6_bitCount_0f7a4_24 rfl (lv_at hl 0 rfl) ?_
  refine lv_iload_n hx hb dJ6_bitCount_0f7a4_25 rfl (lv_at hl 0 rfl) ?_
  refine lv_iconst (v := 4) hx hb dJ6_bitCount_0f7a4_26 (by decide) ?_
  refine lv_iushr hx hb dJ6_bitCount_0f7a4_27 rfl ?_
  refine lv_iadd hx hb dJ6_bitCount_0f7a4_28 ?_
  refine lv_ldcw (v := 252645135) hx hb X.2.2.2.1 (X.2.2.2.2.1 _ cn_J6_267) dJ6_bitCount_0f7a4_29 ?_
  refine lv_iand hx hb dJ6_bitCount_0f7a4_32 ?_
  refine lv_topi (fun x3 ex3 => ?_)
  have h := nm_y h x3 ex3
  refine lv_istore_n (lv' := [(0, .int x3)]) hx hb dJ6_bitCount_0f7a4_33 rfl hl (by decide) rfl (fun ls hl => ?_)
  refine lv_iload_n hx hb dJ6_bitCount_0f7a4_34 rfl (lv_at hl 0 rfl) ?_
  refine lv_iload_n hx hb dJ6_bitCount_0f7a4_35 rfl (lv_at hl 0 rfl) ?_
  refine lv_bipush (v := 8) hx hb dJ6_bitCount_0f7a4_36 (by decide) ?_
  refine lv_iushr hx hb dJ6_bitCount_0f7a4_38 rfl ?_
  refine lv_iadd hx hb dJ6_bitCount_0f7a4_39 ?_
  refine lv_topi (fun x4 ex4 => ?_)
  have h := nm_y h x4 ex4
  refine lv_istore_n (lv' := [(0, .int x4)]) hx hb dJ6_bitCount_0f7a4_40 rfl hl (by decide) rfl (fun ls hl => ?_)
  refine lv_iload_n hx hb dJ6_bitCount_0f7a4_41 rfl (lv_at hl 0 rfl) ?_
  refine lv_iload_n hx hb dJ6_bitCount_0f7a4_42 rfl (lv_at hl 0 rfl) ?_
  refine lv_bipush (v := 16) hx hb dJ6_bitCount_0f7a4_43 (by decide) ?_
  refine lv_iushr hx hb dJ6_bitCount_0f7a4_45 rfl ?_
  refine lv_iadd hx hb dJ6_bitCount_0f7a4_46 ?_
  refine lv_topi (fun x5 ex5 => ?_)
  have h := nm_y h x5 ex5
  refine lv_istore_n (lv' := [(0, .int x5)]) hx hb dJ6_bitCount_0f7a4_47 rfl hl (by decide) rfl (fun ls hl => ?_)
  refine lv_iload_n hx hb dJ6_bitCount_0f7a4_48 rfl (lv_at hl 0 rfl) ?_
  refine lv_bipush (v := 63) hx hb dJ6_bitCount_0f7a4_49 (by decide) ?_
  refine lv_iand hx hb dJ6_bitCount_0f7a4_51 ?_
  obtain rfl := Option.some.inj h
  exact g_iret X hr hlk hG hS dJ6_bitCount_0f7a4_52
set_option maxRecDepth 100000 in
set_option maxHeartbeats 4000000 in
theorem wX4_ties_4 {N : Nat} {p : Program} {l : Launch} {e : Env} {s : State} {m : MethodId} {args : Array Value} {below : List Frame} {meth : Method} {c : Code} {z : gZ} {M : Mem} {a : Nat} {o : Int32} (X : gX p m c cX4_ties 3 s args RX4 z) (hr : meth.sig.returnType = (some .int)) (hlk : meth.locks = false) (k_a : kd a = 4) (n_a : a + 8 ≤ gn z)  : ∀ (n : Nat) (w1 : Int32) (w2 : Int32) (H : Heap) (locs : List Loc) (ls : Array Slot), fX4_ties_4 N M a  n w1 w2 = some o → gW z M H → va_S (gA z) s.heap H locs → lv_has ls 3 [(0, .ref (gad z a)), (1, .int w1), (2, .int w2)] → W p l e { frames := 1, cells := 0, slots := 0, locals := 20 } s m args below meth c H locs 0 0 (MQ below (va_Qi (fun r' (_ : Unit) => r' = o) (fun _ t => gW z M t.heap) (gA z)) args s 0 0 (gA z)) (F0 m 4 ls []) := by
  have hx := X.1
  have hb := X.2.1
  intro n
  induction n with
  | zero => intro w1 w2 H locs ls h; cases h
  | succ n ih =>
    intro w1 w2 H locs ls h hG hS hl
    rw [fX4_ties_4] at h
    refine lv_iload_n hx hb dX4_ties_4 rfl (lv_at hl 2 rfl) ?_
    refine lv_aload_n hx hb dX4_ties_5 rfl (lv_at hl 0 rfl) ?_
    refine gf_X4_7 X hG (nx_0 n_a) k_a fl_X4_33 dX4_ties_6 ?_
    refine lv_icmp_ge (tgt := 30) hx hb dX4_ties_9 (by decide) (fun q1 => ?_) (fun q1 => ?_)
    · have h := ite_y h q1
      refine lv_iload_n hx hb dX4_ties_30 rfl (lv_at hl 1 rfl) ?_
      refine lv_iconst (v := 2) hx hb dX4_ties_31 (by decide) ?_
      refine lv_idiv hx hb dX4_ties_32 (by decide) ?_
      obtain rfl := Option.some.inj h
      exact g_iret X hr hlk hG hS dX4_ties_33
    · have h := ite_n h q1
      refine lv_iload_n hx hb dX4_ties_12 rfl (lv_at hl 1 rfl) ?_
      refine lv_aload_n hx hb dX4_ties_13 rfl (lv_at hl 0 rfl) ?_
      refine gf_X4_2 X hG (nx_0 n_a) k_a fl_X4_18 dX4_ties_14 ?_
      refine lv_iload_n hx hb dX4_ties_17 rfl (lv_at hl 2 rfl) ?_
      obtain ⟨i2, h⟩ := gd_y h
      refine g_iald X hG (nx_a (a := a) (k := 3) (n := 8) n_a (Nat.le_of_ble_eq_true rfl)) (kx_4_3 k_a) (by decide) i2 dX4_ties_18 ?_
      obtain ⟨r3, hcr3, h⟩ := bd_y h
      refine g_cSI (av := [.int (M.1 (a + 3) (w2 : Int32).toNatClampNeg)]) (rest := [.int w1]) X hG hS (ct_J6_bitCount_0f7a4 l z  hcr3) mt_J6_bitCount_0f7a4 ml_X4_86 rfl ⟨rfl, rfl, Nat.le_of_ble_eq_true rfl, Nat.le_of_ble_eq_true rfl⟩ ⟨Nat.le_refl 0, Nat.le_refl 0⟩ hl.1 (Nat.le_of_ble_eq_true rfl) rfl dX4_ties_19 (fun H locs hG hS => ?_)
      refine lv_iadd hx hb dX4_ties_22 ?_
      refine lv_topi (fun x4 ex4 => ?_)
      have h := nm_y h x4 ex4
      refine lv_istore_n (lv' := [(1, .int x4), (0, .ref (gad z a)), (2, .int w2)]) hx hb dX4_ties_23 rfl hl (by decide) rfl (fun ls hl => ?_)
      refine lv_iinc (v := (w2 + 1)) (lv' := [(2, .int (w2 + 1)), (1, .int x4), (0, .ref (gad z a))]) hx hb dX4_ties_24 hl (k := 2) rfl rfl (by decide) rfl (fun ls hl => ?_)
      refine lv_goto (tgt := 4) hx hb dX4_ties_27 (by decide) ?_
      exact ih x4 (w2 + 1) _ _ _ h hG hS (lv_sub hl [2, 1, 0] rfl)
set_option maxRecDepth 100000 in
set_option maxHeartbeats 4000000 in
theorem ct_X4_ties (l : Launch) (z : gZ) {N : Nat} {M : Mem} {a : Nat} {o : Int32} (k_a : kd a = 4) (n_a : a + 8 ≤ gn z) (h : fX4_ties N M a = some o) : CtI l z yX4_ties cX4_ties 3 (some .int) { frames := 1, cells := 0, slots := 0, locals := 20 } [.ref (gad z a)] M o M := by
  refine Ct_of rfl (Nat.le_of_ble_eq_true rfl) ?_
  intro p e s m below meth c ls X hr hlk hG hS hl
  have X : gX p m c _ _ s _ RX4 z := X
  have hl : lv_has ls 3 [(0, .ref (gad z a))] := hl
  have hx := X.1
  have hb := X.2.1
  unfold fX4_ties at h
  refine lv_iconst (v := 0) hx hb dX4_ties_0 (by decide) ?_
  refine lv_istore_n (lv' := [(1, .int 0), (0, .ref (gad z a))]) hx hb dX4_ties_1 rfl hl (by decide) rfl (fun ls hl => ?_)
  refine lv_iconst (v := 0) hx hb dX4_ties_2 (by decide) ?_
  refine lv_istore_n (lv' := [(2, .int 0), (1, .int 0), (0, .ref (gad z a))]) hx hb dX4_ties_3 rfl hl (by decide) rfl (fun ls hl => ?_)
  refine wX4_ties_4 X hr hlk k_a n_a _ _ _ _ _ _ h hG hS (lv_sub hl [2, 1, 0] rfl)
set_option maxRecDepth 100000 in
set_option maxHeartbeats 4000000 in
theorem wX4_prices_4 {N : Nat} {p : Program} {l : Launch} {e : Env} {s : State} {m : MethodId} {args : Array Value} {below : List Frame} {meth : Method} {c : Code} {z : gZ} {M : Mem} {a : Nat} {o : Int32} (X : gX p m c cX4_prices 3 s args RX4 z) (hr : meth.sig.returnType = (some .int)) (hlk : meth.locks = false) (k_a : kd a = 4) (n_a : a + 8 ≤ gn z)  : ∀ (n : Nat) (w1 : Int32) (w2 : Int32) (H : Heap) (locs : List Loc) (ls : Array Slot), fX4_prices_4 N M a  n w1 w2 = some o → gW z M H → va_S (gA z) s.heap H locs → lv_has ls 3 [(0, .ref (gad z a)), (1, .int w1), (2, .int w2)] → W p l e { frames := 0, cells := 0, slots := 0, locals := 0 } s m args below meth c H locs 0 0 (MQ below (va_Qi (fun r' (_ : Unit) => r' = o) (fun _ t => gW z M t.heap) (gA z)) args s 0 0 (gA z)) (F0 m 4 ls []) := by
  have hx := X.1
  have hb := X.2.1
  intro n
  induction n with
  | zero => intro w1 w2 H locs ls h; cases h
  | succ n ih =>
    intro w1 w2 H locs ls h hG hS hl
    rw [fX4_prices_4] at h
    refine lv_iload_n hx hb dX4_prices_4 rfl (lv_at hl 2 rfl) ?_
    refine lv_aload_n hx hb dX4_prices_5 rfl (lv_at hl 0 rfl) ?_
    refine gf_X4_7 X hG (nx_0 n_a) k_a fl_X4_33 dX4_prices_6 ?_
    refine lv_icmp_ge (tgt := 27) hx hb dX4_prices_9 (by decide) (fun q1 => ?_) (fun q1 => ?_)
    · have h := ite_y h q1
      refine lv_iload_n hx hb dX4_prices_27 rfl (lv_at hl 1 rfl) ?_
      refine lv_iconst (v := 2) hx hb dX4_prices_28 (by decide) ?_
      refine lv_idiv hx hb dX4_prices_29 (by decide) ?_
      obtain rfl := Option.some.inj h
      exact g_iret X hr hlk hG hS dX4_prices_30
    · have h := ite_n h q1
      refine lv_iload_n hx hb dX4_prices_12 rfl (lv_at hl 1 rfl) ?_
      refine lv_aload_n hx hb dX4_prices_13 rfl (lv_at hl 0 rfl) ?_
      refine gf_X4_6 X hG (nx_0 n_a) k_a fl_X4_30 dX4_prices_14 ?_
      refine lv_iload_n hx hb dX4_prices_17 rfl (lv_at hl 2 rfl) ?_
      obtain ⟨i2, h⟩ := gd_y h
      refine g_iald X hG (nx_a (a := a) (k := 7) (n := 8) n_a (Nat.le_of_ble_eq_true rfl)) (kx_4_7 k_a) (by decide) i2 dX4_prices_18 ?_
      refine lv_iadd hx hb dX4_prices_19 ?_
      refine lv_topi (fun x3 ex3 => ?_)
      have h := nm_y h x3 ex3
      refine lv_istore_n (lv' := [(1, .int x3), (0, .ref (gad z a)), (2, .int w2)]) hx hb dX4_prices_20 rfl hl (by decide) rfl (fun ls hl => ?_)
      refine lv_iinc (v := (w2 + 1)) (lv' := [(2, .int (w2 + 1)), (1, .int x3), (0, .ref (gad z a))]) hx hb dX4_prices_21 hl (k := 2) rfl rfl (by decide) rfl (fun ls hl => ?_)
      refine lv_goto (tgt := 4) hx hb dX4_prices_24 (by decide) ?_
      exact ih x3 (w2 + 1) _ _ _ h hG hS (lv_sub hl [2, 1, 0] rfl)
set_option maxRecDepth 100000 in
set_option maxHeartbeats 4000000 in
theorem ct_X4_prices (l : Launch) (z : gZ) {N : Nat} {M : Mem} {a : Nat} {o : Int32} (k_a : kd a = 4) (n_a : a + 8 ≤ gn z) (h : fX4_prices N M a = some o) : CtI l z yX4_prices cX4_prices 3 (some .int) { frames := 0, cells := 0, slots := 0, locals := 0 } [.ref (gad z a)] M o M := by
  refine Ct_of rfl (Nat.le_of_ble_eq_true rfl) ?_
  intro p e s m below meth c ls X hr hlk hG hS hl
  have X : gX p m c _ _ s _ RX4 z := X
  have hl : lv_has ls 3 [(0, .ref (gad z a))] := hl
  have hx := X.1
  have hb := X.2.1
  unfold fX4_prices at h
  refine lv_iconst (v := 0) hx hb dX4_prices_0 (by decide) ?_
  refine lv_istore_n (lv' := [(1, .int 0), (0, .ref (gad z a))]) hx hb dX4_prices_1 rfl hl (by decide) rfl (fun ls hl => ?_)
  refine lv_iconst (v := 0) hx hb dX4_prices_2 (by decide) ?_
  refine lv_istore_n (lv' := [(2, .int 0), (1, .int 0), (0, .ref (gad z a))]) hx hb dX4_prices_3 rfl hl (by decide) rfl (fun ls hl => ?_)
  refine wX4_prices_4 X hr hlk k_a n_a _ _ _ _ _ _ h hG hS (lv_sub hl [2, 1, 0] rfl)
set_option maxRecDepth 100000 in
set_option maxHeartbeats 4000000 in
theorem ct_X4_priceOf (l : Launch) (z : gZ) {N : Nat} {M : Mem} {a : Nat} {v1 : Int32} {v2 : Int32} {o : Int32} (k_a : kd a = 4) (n_a : a + 8 ≤ gn z) (h : fX4_priceOf N M a v1 v2 = some o) : CtI l z yX4_priceOf cX4_priceOf 3 (some .int) { frames := 3, cells := 0, slots := 0, locals := 65 } [.ref (gad z a), .int v1, .int v2] M o M := by
  refine Ct_of rfl (Nat.le_of_ble_eq_true rfl) ?_
  intro p e s m below meth c ls X hr hlk hG hS hl
  have X : gX p m c _ _ s _ RX4 z := X
  have hl : lv_has ls 3 [(0, .ref (gad z a)), (1, .int v1), (2, .int v2)] := hl
  have hx := X.1
  have hb := X.2.1
  unfold fX4_priceOf at h
  refine lv_aload_n hx hb dX4_priceOf_0 rfl (lv_at hl 0 rfl) ?_
  refine lv_iload_n hx hb dX4_priceOf_1 rfl (lv_at hl 1 rfl) ?_
  refine lv_iload_n hx hb dX4_priceOf_2 rfl (lv_at hl 2 rfl) ?_
  obtain ⟨r1, hcr1, h⟩ := bd_y h
  refine g_cVI (a := a) (ci := 4) (T := TX4) (N := 10) (av := [.int v1, .int v2]) (rest := []) X hG hS (ct_X4_areNear l z k_a n_a hcr1) mt_X4_areNear ml_X4_80 rfl ⟨rfl, rfl, Nat.le_of_ble_eq_true rfl, Nat.le_of_ble_eq_true rfl⟩ ⟨Nat.le_refl 0, Nat.le_refl 0⟩ (nx_0 n_a) k_a (by decide) rfl hl.1 (Nat.le_of_ble_eq_true rfl) rfl dX4_priceOf_3 (fun H locs hG hS => ?_)
  refine lv_if_eq (tgt := 23) hx hb dX4_priceOf_6 (by decide) (fun q2 => ?_) (fun q2 => ?_)
  · have h := ite_y h q2
    refine lv_iconst (v := (-1)) hx hb dX4_priceOf_23 (by decide) ?_
    obtain rfl := Option.some.inj h
    exact g_iret X hr hlk hG hS dX4_priceOf_24
  · have h := ite_n h q2
    refine lv_aload_n hx hb dX4_priceOf_9 rfl (lv_at hl 0 rfl) ?_
    refine gf_X4_5 X hG (nx_0 n_a) k_a fl_X4_27 dX4_priceOf_10 ?_
    refine lv_bipush (v := 12) hx hb dX4_priceOf_13 (by decide) ?_
    refine lv_iload_n hx hb dX4_priceOf_15 rfl (lv_at hl 1 rfl) ?_
    refine lv_imul hx hb dX4_priceOf_16 ?_
    refine lv_iload_n hx hb dX4_priceOf_17 rfl (lv_at hl 2 rfl) ?_
    refine lv_iadd hx hb dX4_priceOf_18 ?_
    obtain ⟨i3, h⟩ := gd_y h
    refine g_iald X hG (nx_a (a := a) (k := 6) (n := 8) n_a (Nat.le_of_ble_eq_true rfl)) (kx_4_6 k_a) (by decide) i3 dX4_priceOf_19 ?_
    refine lv_goto (tgt := 24) hx hb dX4_priceOf_20 (by decide) ?_
    obtain rfl := Option.some.inj h
    exact g_iret X hr hlk hG hS dX4_priceOf_24
set_option maxRecDepth 100000 in
set_option maxHeartbeats 4000000 in
theorem ct_X4_part (l : Launch) (z : gZ) {N : Nat} {M : Mem} {a : Nat} {v1 : Int32} {v2 : Int32} {o : Mem} (k_a : kd a = 4) (n_a : a + 8 ≤ gn z) (h : fX4_part N M a v1 v2 = some o) : CtV l z yX4_part cX4_part 3 none { frames := 2, cells := 0, slots := 0, locals := 43 } [.ref (gad z a), .int v1, .int v2] M o := by
  refine Ct_of rfl (Nat.le_of_ble_eq_true rfl) ?_
  intro p e s m below meth c ls X hr hlk hG hS hl
  have X : gX p m c _ _ s _ RX4 z := X
  have hl : lv_has ls 3 [(0, .ref (gad z a)), (1, .int v1), (2, .int v2)] := hl
  have hx := X.1
  have hb := X.2.1
  unfold fX4_part at h
  refine lv_aload_n hx hb dX4_part_0 rfl (lv_at hl 0 rfl) ?_
  refine lv_iload_n hx hb dX4_part_1 rfl (lv_at hl 1 rfl) ?_
  refine lv_iload_n hx hb dX4_part_2 rfl (lv_at hl 2 rfl) ?_
  obtain ⟨r1, hcr1, h⟩ := bd_y h
  refine g_cVI (a := a) (ci := 4) (T := TX4) (N := 10) (av := [.int v1, .int v2]) (rest := []) X hG hS (ct_X4_hasPair l z k_a n_a hcr1) mt_X4_hasPair ml_X4_77 rfl ⟨rfl, rfl, Nat.le_of_ble_eq_true rfl, Nat.le_of_ble_eq_true rfl⟩ ⟨Nat.le_refl 0, Nat.le_refl 0⟩ (nx_0 n_a) k_a (by decide) rfl hl.1 (Nat.le_of_ble_eq_true rfl) rfl dX4_part_3 (fun H locs hG hS => ?_)
  refine lv_if_eq (tgt := 51) hx hb dX4_part_6 (by decide) (fun q2 => ?_) (fun q2 => ?_)
  · have h := ite_y h q2
    obtain rfl := Option.some.inj h
    exact g_vret X hr hlk hG hS dX4_part_51
  · have h := ite_n h q2
    refine lv_aload_n hx hb dX4_part_9 rfl (lv_at hl 0 rfl) ?_
    refine gf_X4_2 X hG (nx_0 n_a) k_a fl_X4_18 dX4_part_10 ?_
    refine lv_iload_n hx hb dX4_part_13 rfl (lv_at hl 1 rfl) ?_
    refine lv_dup2_11 hx hb dX4_part_14 rfl rfl ?_
    obtain ⟨i3, h⟩ := gd_y h
    refine g_iald X hG (nx_a (a := a) (k := 3) (n := 8) n_a (Nat.le_of_ble_eq_true rfl)) (kx_4_3 k_a) (by decide) i3 dX4_part_15 ?_
    refine lv_iconst (v := 1) hx hb dX4_part_16 (by decide) ?_
    refine lv_iload_n hx hb dX4_part_17 rfl (lv_at hl 2 rfl) ?_
    refine lv_ishl hx hb dX4_part_18 ?_
    refine lv_iconst (v := (-1)) hx hb dX4_part_19 (by decide) ?_
    refine lv_ixor hx hb dX4_part_20 ?_
    refine lv_iand hx hb dX4_part_21 ?_
    refine g_iast X hG hS (nx_a (a := a) (k := 3) (n := 8) n_a (Nat.le_of_ble_eq_true rfl)) (kx_4_3 k_a) (by decide) i3 dX4_part_22 (fun H locs hG hS => ?_)
    obtain ⟨M4, eM4⟩ : ∃ y, y = sI M (a + 3) (v1 : Int32).toNatClampNeg ((M.1 (a + 3) (v1 : Int32).toNatClampNeg) &&& ((1 <<< (v2 &&& 31)) ^^^ (-1))) := ⟨_, rfl⟩
    rw [← eM4] at hG
    have h := nm_y h M4 eM4
    refine lv_aload_n hx hb dX4_part_23 rfl (lv_at hl 0 rfl) ?_
    refine gf_X4_2 X hG (nx_0 n_a) k_a fl_X4_18 dX4_part_24 ?_
    refine lv_iload_n hx hb dX4_part_27 rfl (lv_at hl 2 rfl) ?_
    refine lv_dup2_11 hx hb dX4_part_28 rfl rfl ?_
    obtain ⟨i5, h⟩ := gd_y h
    refine g_iald X hG (nx_a (a := a) (k := 3) (n := 8) n_a (Nat.le_of_ble_eq_true rfl)) (kx_4_3 k_a) (by decide) i5 dX4_part_29 ?_
    refine lv_iconst (v := 1) hx hb dX4_part_30 (by decide) ?_
    refine lv_iload_n hx hb dX4_part_31 rfl (lv_at hl 1 rfl) ?_
    refine lv_ishl hx hb dX4_part_32 ?_
    refine lv_iconst (v := (-1)) hx hb dX4_part_33 (by decide) ?_
    refine lv_ixor hx hb dX4_part_34 ?_
    refine lv_iand hx hb dX4_part_35 ?_
    refine g_iast X hG hS (nx_a (a := a) (k := 3) (n := 8) n_a (Nat.le_of_ble_eq_true rfl)) (kx_4_3 k_a) (by decide) i5 dX4_part_36 (fun H locs hG hS => ?_)
    obtain ⟨M6, eM6⟩ : ∃ y, y = sI M4 (a + 3) (v2 : Int32).toNatClampNeg ((M4.1 (a + 3) (v2 : Int32).toNatClampNeg) &&& ((1 <<< (v1 &&& 31)) ^^^ (-1))) := ⟨_, rfl⟩
    rw [← eM6] at hG
    have h := nm_y h M6 eM6
    refine lv_aload_n hx hb dX4_part_37 rfl (lv_at hl 0 rfl) ?_
    refine lv_iload_n hx hb dX4_part_38 rfl (lv_at hl 1 rfl) ?_
    refine lv_iload_n hx hb dX4_part_39 rfl (lv_at hl 2 rfl) ?_
    refine lv_iconst (v := 0) hx hb dX4_part_40 (by decide) ?_
    obtain ⟨r7, hcr7, h⟩ := bd_y h
    refine g_cVV (a := a) (ci := 4) (T := TX4) (N := 10) (av := [.int v1, .int v2, .int 0]) (rest := []) X hG hS (ct_X4_priceAt l z k_a n_a hcr7) mt_X4_priceAt ml_X4_83 rfl ⟨rfl, rfl, Nat.le_of_ble_eq_true rfl, Nat.le_of_ble_eq_true rfl⟩ ⟨Nat.le_refl 0, Nat.le_refl 0⟩ (nx_0 n_a) k_a (by decide) rfl hl.1 (Nat.le_of_ble_eq_true rfl) rfl dX4_part_41 (fun H locs hG hS => ?_)
    refine lv_aload_n hx hb dX4_part_44 rfl (lv_at hl 0 rfl) ?_
    refine lv_iload_n hx hb dX4_part_45 rfl (lv_at hl 2 rfl) ?_
    refine lv_iload_n hx hb dX4_part_46 rfl (lv_at hl 1 rfl) ?_
    refine lv_iconst (v := 0) hx hb dX4_part_47 (by decide) ?_
    obtain ⟨r8, hcr8, h⟩ := bd_y h
    refine g_cVV (a := a) (ci := 4) (T := TX4) (N := 10) (av := [.int v2, .int v1, .int 0]) (rest := []) X hG hS (ct_X4_priceAt l z k_a n_a hcr8) mt_X4_priceAt ml_X4_83 rfl ⟨rfl, rfl, Nat.le_of_ble_eq_true rfl, Nat.le_of_ble_eq_true rfl⟩ ⟨Nat.le_refl 0, Nat.le_refl 0⟩ (nx_0 n_a) k_a (by decide) rfl hl.1 (Nat.le_of_ble_eq_true rfl) rfl dX4_part_48 (fun H locs hG hS => ?_)
    obtain rfl := Option.some.inj h
    exact g_vret X hr hlk hG hS dX4_part_51
set_option maxRecDepth 100000 in
set_option maxHeartbeats 4000000 in
theorem ct_X4_isMust (l : Launch) (z : gZ) {N : Nat} {M : Mem} {a : Nat} {v1 : Int32} {o : Int32} (k_a : kd a = 4) (n_a : a + 8 ≤ gn z) (h : fX4_isMust N M a v1 = some o) : CtI l z yX4_isMust cX4_isMust 2 (some .boolean) { frames := 1, cells := 0, slots := 0, locals := 21 } [.ref (gad z a), .int v1] M o M := by
  refine Ct_of rfl (Nat.le_of_ble_eq_true rfl) ?_
  intro p e s m below meth c ls X hr hlk hG hS hl
  have X : gX p m c _ _ s _ RX4 z := X
  have hl : lv_has ls 2 [(0, .ref (gad z a)), (1, .int v1)] := hl
  have hx := X.1
  have hb := X.2.1
  unfold fX4_isMust at h
  refine lv_iload_n hx hb dX4_isMust_0 rfl (lv_at hl 1 rfl) ?_
  refine lv_aload_n hx hb dX4_isMust_1 rfl (lv_at hl 0 rfl) ?_
  refine gf_X4_9 X hG (nx_0 n_a) k_a fl_X4_40 dX4_isMust_2 ?_
  obtain ⟨r1, hcr1, h⟩ := bd_y h
  refine g_cSI (av := [.int v1, .int (M.1 a 9)]) (rest := []) X hG hS (ct_X4_isIn l z  hcr1) mt_X4_isIn ml_X4_63 rfl ⟨rfl, rfl, Nat.le_of_ble_eq_true rfl, Nat.le_of_ble_eq_true rfl⟩ ⟨Nat.le_refl 0, Nat.le_refl 0⟩ hl.1 (Nat.le_of_ble_eq_true rfl) rfl dX4_isMust_5 (fun H locs hG hS => ?_)
  obtain ⟨q2, h⟩ := gc_y h
  obtain rfl := Option.some.inj h
  exact g_zret (zn q2) X hr hlk hG hS dX4_isMust_8
set_option maxRecDepth 100000 in
set_option maxHeartbeats 4000000 in
theorem ct_X4_giveWay (l : Launch) (z : gZ) {N : Nat} {M : Mem} {a : Nat} {v1 : Int32} {v2 : Int32} {v3 : Int32} {o : Mem} (k_a : kd a = 4) (n_a : a + 8 ≤ gn z) (h : fX4_giveWay N M a v1 v2 v3 = some o) : CtV l z yX4_giveWay cX4_giveWay 4 none { frames := 1, cells := 0, slots := 0, locals := 21 } [.ref (gad z a), .int v1, .int v2, .int v3] M o := by
  refine Ct_of rfl (Nat.le_of_ble_eq_true rfl) ?_
  intro p e s m below meth c ls X hr hlk hG hS hl
  have X : gX p m c _ _ s _ RX4 z := X
  have hl : lv_has ls 4 [(0, .ref (gad z a)), (1, .int v1), (2, .int v2), (3, .int v3)] := hl
  have hx := X.1
  have hb := X.2.1
  unfold fX4_giveWay at h
  refine lv_aload_n hx hb dX4_giveWay_0 rfl (lv_at hl 0 rfl) ?_
  refine lv_iload_n hx hb dX4_giveWay_1 rfl (lv_at hl 1 rfl) ?_
  obtain ⟨r1, hcr1, h⟩ := bd_y h
  refine g_cVI (a := a) (ci := 4) (T := TX4) (N := 10) (av := [.int v1]) (rest := []) X hG hS (ct_X4_hasPerson l z k_a n_a hcr1) mt_X4_hasPerson ml_X4_55 rfl ⟨rfl, rfl, Nat.le_of_ble_eq_true rfl, Nat.le_of_ble_eq_true rfl⟩ ⟨Nat.le_refl 0, Nat.le_refl 0⟩ (nx_0 n_a) k_a (by decide) rfl hl.1 (Nat.le_of_ble_eq_true rfl) rfl dX4_giveWay_2 (fun H locs hG hS => ?_)
  refine lv_if_eq (tgt := 22) hx hb dX4_giveWay_5 (by decide) (fun q2 => ?_) (fun q2 => ?_)
  · have h := ite_y h q2
    obtain rfl := Option.some.inj h
    exact g_vret X hr hlk hG hS dX4_giveWay_22
  · have h := ite_n h q2
    refine lv_aload_n hx hb dX4_giveWay_8 rfl (lv_at hl 0 rfl) ?_
    refine gf_X4_3 X hG (nx_0 n_a) k_a fl_X4_21 dX4_giveWay_9 ?_
    refine lv_iload_n hx hb dX4_giveWay_12 rfl (lv_at hl 1 rfl) ?_
    refine lv_iload_n hx hb dX4_giveWay_13 rfl (lv_at hl 2 rfl) ?_
    obtain ⟨i3, h⟩ := gd_y h
    refine g_iast X hG hS (nx_a (a := a) (k := 4) (n := 8) n_a (Nat.le_of_ble_eq_true rfl)) (kx_4_4 k_a) (by decide) i3 dX4_giveWay_14 (fun H locs hG hS => ?_)
    obtain ⟨M4, eM4⟩ : ∃ y, y = sI M (a + 4) (v1 : Int32).toNatClampNeg v2 := ⟨_, rfl⟩
    rw [← eM4] at hG
    have h := nm_y h M4 eM4
    refine lv_aload_n hx hb dX4_giveWay_15 rfl (lv_at hl 0 rfl) ?_
    refine gf_X4_4 X hG (nx_0 n_a) k_a fl_X4_24 dX4_giveWay_16 ?_
    refine lv_iload_n hx hb dX4_giveWay_19 rfl (lv_at hl 1 rfl) ?_
    refine lv_iload_n hx hb dX4_giveWay_20 rfl (lv_at hl 3 rfl) ?_
    refine g_iast X hG hS (nx_a (a := a) (k := 5) (n := 8) n_a (Nat.le_of_ble_eq_true rfl)) (kx_4_5 k_a) (by decide) i3 dX4_giveWay_21 (fun H locs hG hS => ?_)
    obtain ⟨M5, eM5⟩ : ∃ y, y = sI M4 (a + 5) (v1 : Int32).toNatClampNeg v3 := ⟨_, rfl⟩
    rw [← eM5] at hG
    have h := nm_y h M5 eM5
    obtain rfl := Option.some.inj h
    exact g_vret X hr hlk hG hS dX4_giveWay_22
set_option maxRecDepth 100000 in
set_option maxHeartbeats 4000000 in
theorem ct_X3_wayKind (l : Launch) (z : gZ) {N : Nat} {M : Mem} {a : Nat} {o : Int32} (k_a : kd a = 3) (n_a : a + 2 ≤ gn z) (h : fX3_wayKind N M a = some o) : CtI l z yX3_wayKind cX3_wayKind 1 (some .int) { frames := 0, cells := 0, slots := 0, locals := 0 } [.ref (gad z a)] M o M := by
  refine Ct_of rfl (Nat.le_of_ble_eq_true rfl) ?_
  intro p e s m below meth c ls X hr hlk hG hS hl
  have X : gX p m c _ _ s _ RX3 z := X
  have hl : lv_has ls 1 [(0, .ref (gad z a))] := hl
  have hx := X.1
  have hb := X.2.1
  unfold fX3_wayKind at h
  refine lv_aload_n hx hb dX3_wayKind_0 rfl (lv_at hl 0 rfl) ?_
  refine gf_X3_1 X hG (nx_0 n_a) k_a fl_X3_15 dX3_wayKind_1 ?_
  refine lv_bipush (v := 10) hx hb dX3_wayKind_4 (by decide) ?_
  refine lv_isub hx hb dX3_wayKind_6 ?_
  obtain rfl := Option.some.inj h
  exact g_iret X hr hlk hG hS dX3_wayKind_7
set_option maxRecDepth 100000 in
set_option maxHeartbeats 4000000 in
theorem ct_X4_sets (l : Launch) (z : gZ) {N : Nat} {M : Mem} {a : Nat} {o : Int32} (k_a : kd a = 4) (n_a : a + 8 ≤ gn z) (h : fX4_sets N M a = some o) : CtI l z yX4_sets cX4_sets 1 (some .int) { frames := 0, cells := 0, slots := 0, locals := 0 } [.ref (gad z a)] M o M := by
  refine Ct_of rfl (Nat.le_of_ble_eq_true rfl) ?_
  intro p e s m below meth c ls X hr hlk hG hS hl
  have X : gX p m c _ _ s _ RX4 z := X
  have hl : lv_has ls 1 [(0, .ref (gad z a))] := hl
  have hx := X.1
  have hb := X.2.1
  unfold fX4_sets at h
  refine lv_iconst (v := 1) hx hb dX4_sets_0 (by decide) ?_
  refine lv_aload_n hx hb dX4_sets_1 rfl (lv_at hl 0 rfl) ?_
  refine gf_X4_7 X hG (nx_0 n_a) k_a fl_X4_33 dX4_sets_2 ?_
  refine lv_ishl hx hb dX4_sets_5 ?_
  obtain rfl := Option.some.inj h
  exact g_iret X hr hlk hG hS dX4_sets_6
set_option maxRecDepth 100000 in
set_option maxHeartbeats 4000000 in
theorem ct_X4_hasSet (l : Launch) (z : gZ) {N : Nat} {M : Mem} {a : Nat} {v1 : Int32} {o : Int32} (k_a : kd a = 4) (n_a : a + 8 ≤ gn z) (h : fX4_hasSet N M a v1 = some o) : CtI l z yX4_hasSet cX4_hasSet 2 (some .boolean) { frames := 1, cells := 0, slots := 0, locals := 20 } [.ref (gad z a), .int v1] M o M := by
  refine Ct_of rfl (Nat.le_of_ble_eq_true rfl) ?_
  intro p e s m below meth c ls X hr hlk hG hS hl
  have X : gX p m c _ _ s _ RX4 z := X
  have hl : lv_has ls 2 [(0, .ref (gad z a)), (1, .int v1)] := hl
  have hx := X.1
  have hb := X.2.1
  unfold fX4_hasSet at h
  refine lv_iload_n hx hb dX4_hasSet_0 rfl (lv_at hl 1 rfl) ?_
  refine lv_if_lt (tgt := 16) hx hb dX4_hasSet_1 (by decide) (fun q1 => ?_) (fun q1 => ?_)
  · have h := ite_y h q1
    refine lv_iconst (v := 0) hx hb dX4_hasSet_16 (by decide) ?_
    obtain rfl := Option.some.inj h
    exact g_zret (zn (Or.inl rfl)) X hr hlk hG hS dX4_hasSet_17
  · have h := ite_n h q1
    refine lv_iload_n hx hb dX4_hasSet_4 rfl (lv_at hl 1 rfl) ?_
    refine lv_aload_n hx hb dX4_hasSet_5 rfl (lv_at hl 0 rfl) ?_
    obtain ⟨r2, hcr2, h⟩ := bd_y h
    refine g_cVI (a := a) (ci := 4) (T := TX4) (N := 10) (av := []) (rest := [.int v1]) X hG hS (ct_X4_sets l z k_a n_a hcr2) mt_X4_sets ml_X4_59 rfl ⟨rfl, rfl, Nat.le_of_ble_eq_true rfl, Nat.le_of_ble_eq_true rfl⟩ ⟨Nat.le_refl 0, Nat.le_refl 0⟩ (nx_0 n_a) k_a (by decide) rfl hl.1 (Nat.le_of_ble_eq_true rfl) rfl dX4_hasSet_6 (fun H locs hG hS => ?_)
    refine lv_icmp_ge (tgt := 16) hx hb dX4_hasSet_9 (by decide) (fun q3 => ?_) (fun q3 => ?_)
    · have h := ite_y h q3
      refine lv_iconst (v := 0) hx hb dX4_hasSet_16 (by decide) ?_
      obtain rfl := Option.some.inj h
      exact g_zret (zn (Or.inl rfl)) X hr hlk hG hS dX4_hasSet_17
    · have h := ite_n h q3
      refine lv_iconst (v := 1) hx hb dX4_hasSet_12 (by decide) ?_
      refine lv_goto (tgt := 17) hx hb dX4_hasSet_13 (by decide) ?_
      obtain rfl := Option.some.inj h
      exact g_zret (zn (Or.inr rfl)) X hr hlk hG hS dX4_hasSet_17
set_option maxRecDepth 100000 in
set_option maxHeartbeats 4000000 in
theorem wX4_admit_44 {N : Nat} {p : Program} {l : Launch} {e : Env} {s : State} {m : MethodId} {args : Array Value} {below : List Frame} {meth : Method} {c : Code} {z : gZ} {a : Nat} {u1 : Int32} {u4 : Int32} {o : Int32 × Mem} (X : gX p m c cX4_admit 6 s args RX4 z) (hr : meth.sig.returnType = (some .int)) (hlk : meth.locks = false) (k_a : kd a = 4) (n_a : a + 8 ≤ gn z)  : ∀ (n : Nat) (Mw : Mem) (w5 : Int32) (H : Heap) (locs : List Loc) (ls : Array Slot), fX4_admit_44 N a u1 u4  n Mw w5 = some o → gW z Mw H → va_S (gA z) s.heap H locs → lv_has ls 6 [(0, .ref (gad z a)), (1, .int u1), (4, .int u4), (5, .int w5)] → W p l e { frames := 3, cells := 0, slots := 0, locals := 66 } s m args below meth c H locs 0 0 (MQ below (va_Qi (fun r' (_ : Unit) => r' = o.1) (fun _ t => gW z o.2 t.heap) (gA z)) args s 0 0 (gA z)) (F0 m 44 ls []) := by
  have hx := X.1
  have hb := X.2.1
  intro n
  induction n with
  | zero => intro Mw w5 H locs ls h; cases h
  | succ n ih =>
    intro Mw w5 H locs ls h hG hS hl
    rw [fX4_admit_44] at h
    refine lv_iload hx hb dX4_admit_44 (lv_at hl 3 rfl) ?_
    refine lv_iload hx hb dX4_admit_46 (lv_at hl 2 rfl) ?_
    refine lv_icmp_ge (tgt := 75) hx hb dX4_admit_48 (by decide) (fun q1 => ?_) (fun q1 => ?_)
    · have h := ite_y h q1
      refine lv_iload hx hb dX4_admit_75 (lv_at hl 2 rfl) ?_
      obtain rfl := Option.some.inj h
      exact g_iret X hr hlk hG hS dX4_admit_77
    · have h := ite_n h q1
      refine lv_iload hx hb dX4_admit_51 (lv_at hl 3 rfl) ?_
      refine lv_iload_n hx hb dX4_admit_53 rfl (lv_at hl 1 rfl) ?_
      obtain ⟨r2, hcr2, h⟩ := bd_y h
      refine g_cSI (av := [.int w5, .int u1]) (rest := []) X hG hS (ct_X4_isIn l z  hcr2) mt_X4_isIn ml_X4_63 rfl ⟨rfl, rfl, Nat.le_of_ble_eq_true rfl, Nat.le_of_ble_eq_true rfl⟩ ⟨Nat.le_refl 0, Nat.le_refl 0⟩ hl.1 (Nat.le_of_ble_eq_true rfl) rfl dX4_admit_54 (fun H locs hG hS => ?_)
      refine lv_if_eq (tgt := 69) hx hb dX4_admit_57 (by decide) (fun q3 => ?_) (fun q3 => ?_)
      · have h := ite_y h q3
        refine lv_iinc (v := (w5 + 1)) (lv' := [(5, .int (w5 + 1)), (0, .ref (gad z a)), (1, .int u1), (4, .int u4)]) hx hb dX4_admit_69 hl (k := 3) rfl rfl (by decide) rfl (fun ls hl => ?_)
        refine lv_goto (tgt := 44) hx hb dX4_admit_72 (by decide) ?_
        exact ih Mw (w5 + 1) _ _ _ h hG hS (lv_sub hl [1, 2, 3, 0] rfl)
      · have h := ite_n h q3
        refine lv_aload_n hx hb dX4_admit_60 rfl (lv_at hl 0 rfl) ?_
        refine lv_iload hx hb dX4_admit_61 (lv_at hl 2 rfl) ?_
        refine lv_iload hx hb dX4_admit_63 (lv_at hl 3 rfl) ?_
        refine lv_iconst (v := 0) hx hb dX4_admit_65 (by decide) ?_
        obtain ⟨r4, hcr4, h⟩ := bd_y h
        refine g_cVV (a := a) (ci := 4) (T := TX4) (N := 10) (av := [.int u4, .int w5, .int 0]) (rest := []) X hG hS (ct_X4_join l z k_a n_a hcr4) mt_X4_join ml_X4_74 rfl ⟨rfl, rfl, Nat.le_of_ble_eq_true rfl, Nat.le_of_ble_eq_true rfl⟩ ⟨Nat.le_refl 0, Nat.le_refl 0⟩ (nx_0 n_a) k_a (by decide) rfl hl.1 (Nat.le_of_ble_eq_true rfl) rfl dX4_admit_66 (fun H locs hG hS => ?_)
        refine lv_iinc (v := (w5 + 1)) (lv' := [(5, .int (w5 + 1)), (0, .ref (gad z a)), (1, .int u1), (4, .int u4)]) hx hb dX4_admit_69 hl (k := 3) rfl rfl (by decide) rfl (fun ls hl => ?_)
        refine lv_goto (tgt := 44) hx hb dX4_admit_72 (by decide) ?_
        exact ih r4 (w5 + 1) _ _ _ h hG hS (lv_sub hl [1, 2, 3, 0] rfl)
set_option maxRecDepth 100000 in
set_option maxHeartbeats 4000000 in
theorem ct_X4_admit (l : Launch) (z : gZ) {N : Nat} {M : Mem} {a : Nat} {v1 : Int32} {v2 : Int32} {v3 : Int32} {o : Int32 × Mem} (k_a : kd a = 4) (n_a : a + 8 ≤ gn z) (h : fX4_admit N M a v1 v2 v3 = some o) : CtI l z yX4_admit cX4_admit 6 (some .int) { frames := 3, cells := 0, slots := 0, locals := 66 } [.ref (gad z a), .int v1, .int v2, .int v3] M o.1 o.2 := by
  refine Ct_of rfl (Nat.le_of_ble_eq_true rfl) ?_
  intro p e s m below meth c ls X hr hlk hG hS hl
  have X : gX p m c _ _ s _ RX4 z := X
  have hl : lv_has ls 6 [(0, .ref (gad z a)), (1, .int v1), (2, .int v2), (3, .int v3)] := hl
  have hx := X.1
  have hb := X.2.1
  unfold fX4_admit at h
  refine lv_aload_n hx hb dX4_admit_0 rfl (lv_at hl 0 rfl) ?_
  refine gf_X4_7 X hG (nx_0 n_a) k_a fl_X4_33 dX4_admit_1 ?_
  refine lv_topi (fun x1 ex1 => ?_)
  have h := nm_y h x1 ex1
  refine lv_istore (lv' := [(4, .int x1), (0, .ref (gad z a)), (1, .int v1), (2, .int v2), (3, .int v3)]) hx hb dX4_admit_4 hl (by decide) rfl (fun ls hl => ?_)
  refine lv_iload hx hb dX4_admit_6 (lv_at hl 0 rfl) ?_
  refine lv_bipush (v := 12) hx hb dX4_admit_8 (by decide) ?_
  refine lv_icmp_lt (tgt := 15) hx hb dX4_admit_10 (by decide) (fun q2 => ?_) (fun q2 => ?_)
  · have h := ite_y h q2
    refine lv_aload_n hx hb dX4_admit_15 rfl (lv_at hl 1 rfl) ?_
    refine lv_dup hx hb dX4_admit_16 rfl ?_
    refine gf_X4_7 X hG (nx_0 n_a) k_a fl_X4_33 dX4_admit_17 ?_
    refine lv_iconst (v := 1) hx hb dX4_admit_20 (by decide) ?_
    refine lv_iadd hx hb dX4_admit_21 ?_
    refine pf_X4_7 X hG hS (nx_0 n_a) k_a fl_X4_33 dX4_admit_22 (fun H locs hG hS => ?_)
    obtain ⟨M3, eM3⟩ : ∃ y, y = sI M a 7 ((M.1 a 7) + 1) := ⟨_, rfl⟩
    rw [← eM3] at hG
    have h := nm_y h M3 eM3
    refine lv_aload_n hx hb dX4_admit_25 rfl (lv_at hl 1 rfl) ?_
    refine lv_iload hx hb dX4_admit_26 (lv_at hl 0 rfl) ?_
    refine lv_iload_n hx hb dX4_admit_28 rfl (lv_at hl 3 rfl) ?_
    refine lv_iload_n hx hb dX4_admit_29 rfl (lv_at hl 4 rfl) ?_
    obtain ⟨r4, hcr4, h⟩ := bd_y h
    refine g_cVV (a := a) (ci := 4) (T := TX4) (N := 10) (av := [.int x1, .int v2, .int v3]) (rest := []) X hG hS (ct_X4_value l z k_a n_a hcr4) mt_X4_value ml_X4_67 rfl ⟨rfl, rfl, Nat.le_of_ble_eq_true rfl, Nat.le_of_ble_eq_true rfl⟩ ⟨Nat.le_refl 0, Nat.le_refl 0⟩ (nx_0 n_a) k_a (by decide) rfl hl.1 (Nat.le_of_ble_eq_true rfl) rfl dX4_admit_30 (fun H locs hG hS => ?_)
    refine lv_aload_n hx hb dX4_admit_33 rfl (lv_at hl 1 rfl) ?_
    refine lv_iload hx hb dX4_admit_34 (lv_at hl 0 rfl) ?_
    refine lv_iconst (v := (-1)) hx hb dX4_admit_36 (by decide) ?_
    refine lv_iconst (v := 0) hx hb dX4_admit_37 (by decide) ?_
    obtain ⟨r5, hcr5, h⟩ := bd_y h
    refine g_cVV (a := a) (ci := 4) (T := TX4) (N := 10) (av := [.int x1, .int (-1), .int 0]) (rest := []) X hG hS (ct_X4_giveWay l z k_a n_a hcr5) mt_X4_giveWay ml_X4_71 rfl ⟨rfl, rfl, Nat.le_of_ble_eq_true rfl, Nat.le_of_ble_eq_true rfl⟩ ⟨Nat.le_refl 0, Nat.le_refl 0⟩ (nx_0 n_a) k_a (by decide) rfl hl.1 (Nat.le_of_ble_eq_true rfl) rfl dX4_admit_38 (fun H locs hG hS => ?_)
    refine lv_iconst (v := 0) hx hb dX4_admit_41 (by decide) ?_
    refine lv_istore (lv' := [(5, .int 0), (4, .int x1), (0, .ref (gad z a)), (1, .int v1), (2, .int v2), (3, .int v3)]) hx hb dX4_admit_42 hl (by decide) rfl (fun ls hl => ?_)
    refine wX4_admit_44 X hr hlk k_a n_a _ _ _ _ _ _ h hG hS (lv_sub hl [2, 3, 1, 0] rfl)
  · have h := ite_n h q2
    refine lv_iconst (v := (-1)) hx hb dX4_admit_13 (by decide) ?_
    obtain rfl := Option.some.inj h
    exact g_iret X hr hlk hG hS dX4_admit_14
set_option maxRecDepth 100000 in
set_option maxHeartbeats 4000000 in
theorem ct_X4_gainOf (l : Launch) (z : gZ) {N : Nat} {M : Mem} {a : Nat} {v1 : Int32} {v2 : Int32} {o : Int32} (k_a : kd a = 4) (n_a : a + 8 ≤ gn z) (h : fX4_gainOf N M a v1 v2 = some o) : CtI l z yX4_gainOf cX4_gainOf 6 (some .int) { frames := 1, cells := 0, slots := 0, locals := 21 } [.ref (gad z a), .int v1, .int v2] M o M := by
  refine Ct_of rfl (Nat.le_of_ble_eq_true rfl) ?_
  intro p e s m below meth c ls X hr hlk hG hS hl
  have X : gX p m c _ _ s _ RX4 z := X
  have hl : lv_has ls 6 [(0, .ref (gad z a)), (1, .int v1), (2, .int v2)] := hl
  have hx := X.1
  have hb := X.2.1
  unfold fX4_gainOf at h
  refine lv_aload_n hx hb dX4_gainOf_0 rfl (lv_at hl 0 rfl) ?_
  refine gf_X4_2 X hG (nx_0 n_a) k_a fl_X4_18 dX4_gainOf_1 ?_
  refine lv_iload_n hx hb dX4_gainOf_4 rfl (lv_at hl 1 rfl) ?_
  obtain ⟨i1, h⟩ := gd_y h
  refine g_iald X hG (nx_a (a := a) (k := 3) (n := 8) n_a (Nat.le_of_ble_eq_true rfl)) (kx_4_3 k_a) (by decide) i1 dX4_gainOf_5 ?_
  refine lv_iconst (v := 1) hx hb dX4_gainOf_6 (by decide) ?_
  refine lv_iload_n hx hb dX4_gainOf_7 rfl (lv_at hl 1 rfl) ?_
  refine lv_ishl hx hb dX4_gainOf_8 ?_
  refine lv_ior hx hb dX4_gainOf_9 ?_
  refine lv_iload_n hx hb dX4_gainOf_10 rfl (lv_at hl 2 rfl) ?_
  refine lv_iand hx hb dX4_gainOf_11 ?_
  obtain ⟨r2, hcr2, h⟩ := bd_y h
  refine g_cSI (av := [.int (((M.1 (a + 3) (v1 : Int32).toNatClampNeg) ||| (1 <<< (v1 &&& 31))) &&& v2)]) (rest := []) X hG hS (ct_J6_bitCount_0f7a4 l z  hcr2) mt_J6_bitCount_0f7a4 ml_X4_86 rfl ⟨rfl, rfl, Nat.le_of_ble_eq_true rfl, Nat.le_of_ble_eq_true rfl⟩ ⟨Nat.le_refl 0, Nat.le_refl 0⟩ hl.1 (Nat.le_of_ble_eq_true rfl) rfl dX4_gainOf_12 (fun H locs hG hS => ?_)
  refine lv_istore_n (lv' := [(3, .int r2), (0, .ref (gad z a)), (1, .int v1), (2, .int v2)]) hx hb dX4_gainOf_15 rfl hl (by decide) rfl (fun ls hl => ?_)
  refine lv_iload_n hx hb dX4_gainOf_16 rfl (lv_at hl 0 rfl) ?_
  refine lv_if_le (tgt := 38) hx hb dX4_gainOf_17 (by decide) (fun q3 => ?_) (fun q3 => ?_)
  · have h := ite_y h q3
    refine lv_iconst (v := 0) hx hb dX4_gainOf_38 (by decide) ?_
    refine lv_istore (lv' := [(4, .int 0), (3, .int r2), (0, .ref (gad z a)), (1, .int v1), (2, .int v2)]) hx hb dX4_gainOf_39 hl (by decide) rfl (fun ls hl => ?_)
    refine lv_iload_n hx hb dX4_gainOf_41 rfl (lv_at hl 3 rfl) ?_
    refine lv_iload_n hx hb dX4_gainOf_42 rfl (lv_at hl 4 rfl) ?_
    obtain ⟨r4, hcr4, h⟩ := bd_y h
    refine g_cSI (av := [.int v1, .int v2]) (rest := []) X hG hS (ct_X4_isIn l z  hcr4) mt_X4_isIn ml_X4_63 rfl ⟨rfl, rfl, Nat.le_of_ble_eq_true rfl, Nat.le_of_ble_eq_true rfl⟩ ⟨Nat.le_refl 0, Nat.le_refl 0⟩ hl.1 (Nat.le_of_ble_eq_true rfl) rfl dX4_gainOf_43 (fun H locs hG hS => ?_)
    refine lv_if_eq (tgt := 58) hx hb dX4_gainOf_46 (by decide) (fun q5 => ?_) (fun q5 => ?_)
    · have h := ite_y h q5
      refine lv_iconst (v := 0) hx hb dX4_gainOf_58 (by decide) ?_
      refine lv_istore (lv' := [(5, .int 0), (4, .int 0), (3, .int r2), (0, .ref (gad z a)), (1, .int v1), (2, .int v2)]) hx hb dX4_gainOf_59 hl (by decide) rfl (fun ls hl => ?_)
      refine lv_iload hx hb dX4_gainOf_61 (lv_at hl 1 rfl) ?_
      refine lv_iload hx hb dX4_gainOf_63 (lv_at hl 0 rfl) ?_
      refine lv_isub hx hb dX4_gainOf_65 ?_
      refine lv_aload_n hx hb dX4_gainOf_66 rfl (lv_at hl 3 rfl) ?_
      refine gf_X4_6 X hG (nx_0 n_a) k_a fl_X4_30 dX4_gainOf_67 ?_
      refine lv_iload_n hx hb dX4_gainOf_70 rfl (lv_at hl 4 rfl) ?_
      refine g_iald X hG (nx_a (a := a) (k := 7) (n := 8) n_a (Nat.le_of_ble_eq_true rfl)) (kx_4_7 k_a) (by decide) i1 dX4_gainOf_71 ?_
      refine lv_isub hx hb dX4_gainOf_72 ?_
      obtain rfl := Option.some.inj h
      exact g_iret X hr hlk hG hS dX4_gainOf_73
    · have h := ite_n h q5
      refine lv_aload_n hx hb dX4_gainOf_49 rfl (lv_at hl 2 rfl) ?_
      refine gf_X4_0 X hG (nx_0 n_a) k_a fl_X4_9 dX4_gainOf_50 ?_
      refine lv_iload_n hx hb dX4_gainOf_53 rfl (lv_at hl 3 rfl) ?_
      refine g_iald X hG (nx_a (a := a) (k := 1) (n := 8) n_a (Nat.le_of_ble_eq_true rfl)) (kx_4_1 k_a) (by decide) i1 dX4_gainOf_54 ?_
      refine lv_goto (tgt := 59) hx hb dX4_gainOf_55 (by decide) ?_
      refine lv_topi (fun x6 ex6 => ?_)
      have h := nm_y h x6 ex6
      refine lv_istore (lv' := [(5, .int x6), (4, .int 0), (3, .int r2), (0, .ref (gad z a)), (1, .int v1), (2, .int v2)]) hx hb dX4_gainOf_59 hl (by decide) rfl (fun ls hl => ?_)
      refine lv_iload hx hb dX4_gainOf_61 (lv_at hl 1 rfl) ?_
      refine lv_iload hx hb dX4_gainOf_63 (lv_at hl 0 rfl) ?_
      refine lv_isub hx hb dX4_gainOf_65 ?_
      refine lv_aload_n hx hb dX4_gainOf_66 rfl (lv_at hl 3 rfl) ?_
      refine gf_X4_6 X hG (nx_0 n_a) k_a fl_X4_30 dX4_gainOf_67 ?_
      refine lv_iload_n hx hb dX4_gainOf_70 rfl (lv_at hl 4 rfl) ?_
      refine g_iald X hG (nx_a (a := a) (k := 7) (n := 8) n_a (Nat.le_of_ble_eq_true rfl)) (kx_4_7 k_a) (by decide) i1 dX4_gainOf_71 ?_
      refine lv_isub hx hb dX4_gainOf_72 ?_
      obtain rfl := Option.some.inj h
      exact g_iret X hr hlk hG hS dX4_gainOf_73
  · have h := ite_n h q3
    refine lv_aload_n hx hb dX4_gainOf_20 rfl (lv_at hl 1 rfl) ?_
    refine gf_X4_1 X hG (nx_0 n_a) k_a fl_X4_15 dX4_gainOf_21 ?_
    refine lv_iload_n hx hb dX4_gainOf_24 rfl (lv_at hl 2 rfl) ?_
    refine g_iald X hG (nx_a (a := a) (k := 2) (n := 8) n_a (Nat.le_of_ble_eq_true rfl)) (kx_4_2 k_a) (by decide) i1 dX4_gainOf_25 ?_
    refine lv_aload_n hx hb dX4_gainOf_26 rfl (lv_at hl 1 rfl) ?_
    refine gf_X4_8 X hG (nx_0 n_a) k_a fl_X4_37 dX4_gainOf_27 ?_
    refine lv_iload_n hx hb dX4_gainOf_30 rfl (lv_at hl 0 rfl) ?_
    refine lv_iconst (v := 1) hx hb dX4_gainOf_31 (by decide) ?_
    refine lv_isub hx hb dX4_gainOf_32 ?_
    refine lv_imul hx hb dX4_gainOf_33 ?_
    refine lv_iadd hx hb dX4_gainOf_34 ?_
    refine lv_goto (tgt := 39) hx hb dX4_gainOf_35 (by decide) ?_
    refine lv_topi (fun x7 ex7 => ?_)
    have h := nm_y h x7 ex7
    refine lv_istore (lv' := [(4, .int x7), (3, .int r2), (0, .ref (gad z a)), (1, .int v1), (2, .int v2)]) hx hb dX4_gainOf_39 hl (by decide) rfl (fun ls hl => ?_)
    refine lv_iload_n hx hb dX4_gainOf_41 rfl (lv_at hl 3 rfl) ?_
    refine lv_iload_n hx hb dX4_gainOf_42 rfl (lv_at hl 4 rfl) ?_
    obtain ⟨r8, hcr8, h⟩ := bd_y h
    refine g_cSI (av := [.int v1, .int v2]) (rest := []) X hG hS (ct_X4_isIn l z  hcr8) mt_X4_isIn ml_X4_63 rfl ⟨rfl, rfl, Nat.le_of_ble_eq_true rfl, Nat.le_of_ble_eq_true rfl⟩ ⟨Nat.le_refl 0, Nat.le_refl 0⟩ hl.1 (Nat.le_of_ble_eq_true rfl) rfl dX4_gainOf_43 (fun H locs hG hS => ?_)
    refine lv_if_eq (tgt := 58) hx hb dX4_gainOf_46 (by decide) (fun q9 => ?_) (fun q9 => ?_)
    · have h := ite_y h q9
      refine lv_iconst (v := 0) hx hb dX4_gainOf_58 (by decide) ?_
      refine lv_istore (lv' := [(5, .int 0), (4, .int x7), (3, .int r2), (0, .ref (gad z a)), (1, .int v1), (2, .int v2)]) hx hb dX4_gainOf_59 hl (by decide) rfl (fun ls hl => ?_)
      refine lv_iload hx hb dX4_gainOf_61 (lv_at hl 1 rfl) ?_
      refine lv_iload hx hb dX4_gainOf_63 (lv_at hl 0 rfl) ?_
      refine lv_isub hx hb dX4_gainOf_65 ?_
      refine lv_aload_n hx hb dX4_gainOf_66 rfl (lv_at hl 3 rfl) ?_
      refine gf_X4_6 X hG (nx_0 n_a) k_a fl_X4_30 dX4_gainOf_67 ?_
      refine lv_iload_n hx hb dX4_gainOf_70 rfl (lv_at hl 4 rfl) ?_
      refine g_iald X hG (nx_a (a := a) (k := 7) (n := 8) n_a (Nat.le_of_ble_eq_true rfl)) (kx_4_7 k_a) (by decide) i1 dX4_gainOf_71 ?_
      refine lv_isub hx hb dX4_gainOf_72 ?_
      obtain rfl := Option.some.inj h
      exact g_iret X hr hlk hG hS dX4_gainOf_73
    · have h := ite_n h q9
      refine lv_aload_n hx hb dX4_gainOf_49 rfl (lv_at hl 2 rfl) ?_
      refine gf_X4_0 X hG (nx_0 n_a) k_a fl_X4_9 dX4_gainOf_50 ?_
      refine lv_iload_n hx hb dX4_gainOf_53 rfl (lv_at hl 3 rfl) ?_
      refine g_iald X hG (nx_a (a := a) (k := 1) (n := 8) n_a (Nat.le_of_ble_eq_true rfl)) (kx_4_1 k_a) (by decide) i1 dX4_gainOf_54 ?_
      refine lv_goto (tgt := 59) hx hb dX4_gainOf_55 (by decide) ?_
      refine lv_topi (fun x10 ex10 => ?_)
      have h := nm_y h x10 ex10
      refine lv_istore (lv' := [(5, .int x10), (4, .int x7), (3, .int r2), (0, .ref (gad z a)), (1, .int v1), (2, .int v2)]) hx hb dX4_gainOf_59 hl (by decide) rfl (fun ls hl => ?_)
      refine lv_iload hx hb dX4_gainOf_61 (lv_at hl 1 rfl) ?_
      refine lv_iload hx hb dX4_gainOf_63 (lv_at hl 0 rfl) ?_
      refine lv_isub hx hb dX4_gainOf_65 ?_
      refine lv_aload_n hx hb dX4_gainOf_66 rfl (lv_at hl 3 rfl) ?_
      refine gf_X4_6 X hG (nx_0 n_a) k_a fl_X4_30 dX4_gainOf_67 ?_
      refine lv_iload_n hx hb dX4_gainOf_70 rfl (lv_at hl 4 rfl) ?_
      refine g_iald X hG (nx_a (a := a) (k := 7) (n := 8) n_a (Nat.le_of_ble_eq_true rfl)) (kx_4_7 k_a) (by decide) i1 dX4_gainOf_71 ?_
      refine lv_isub hx hb dX4_gainOf_72 ?_
      obtain rfl := Option.some.inj h
      exact g_iret X hr hlk hG hS dX4_gainOf_73
set_option maxRecDepth 100000 in
set_option maxHeartbeats 4000000 in
theorem wX4_goodOf_4 {N : Nat} {p : Program} {l : Launch} {e : Env} {s : State} {m : MethodId} {args : Array Value} {below : List Frame} {meth : Method} {c : Code} {z : gZ} {M : Mem} {a : Nat} {u1 : Int32} {o : Int32} (X : gX p m c cX4_goodOf 4 s args RX4 z) (hr : meth.sig.returnType = (some .int)) (hlk : meth.locks = false) (k_a : kd a = 4) (n_a : a + 8 ≤ gn z)  : ∀ (n : Nat) (w2 : Int32) (w3 : Int32) (H : Heap) (locs : List Loc) (ls : Array Slot), fX4_goodOf_4 N M a u1  n w2 w3 = some o → gW z M H → va_S (gA z) s.heap H locs → lv_has ls 4 [(0, .ref (gad z a)), (1, .int u1), (2, .int w2), (3, .int w3)] → W p l e { frames := 2, cells := 0, slots := 0, locals := 46 } s m args below meth c H locs 0 0 (MQ below (va_Qi (fun r' (_ : Unit) => r' = o) (fun _ t => gW z M t.heap) (gA z)) args s 0 0 (gA z)) (F0 m 4 ls []) := by
  have hx := X.1
  have hb := X.2.1
  intro n
  induction n with
  | zero => intro w2 w3 H locs ls h; cases h
  | succ n ih =>
    intro w2 w3 H locs ls h hG hS hl
    rw [fX4_goodOf_4] at h
    refine lv_iload_n hx hb dX4_goodOf_4 rfl (lv_at hl 3 rfl) ?_
    refine lv_aload_n hx hb dX4_goodOf_5 rfl (lv_at hl 0 rfl) ?_
    refine gf_X4_7 X hG (nx_0 n_a) k_a fl_X4_33 dX4_goodOf_6 ?_
    refine lv_icmp_ge (tgt := 27) hx hb dX4_goodOf_9 (by decide) (fun q1 => ?_) (fun q1 => ?_)
    · have h := ite_y h q1
      refine lv_iload_n hx hb dX4_goodOf_27 rfl (lv_at hl 2 rfl) ?_
      obtain rfl := Option.some.inj h
      exact g_iret X hr hlk hG hS dX4_goodOf_28
    · have h := ite_n h q1
      refine lv_iload_n hx hb dX4_goodOf_12 rfl (lv_at hl 2 rfl) ?_
      refine lv_aload_n hx hb dX4_goodOf_13 rfl (lv_at hl 0 rfl) ?_
      refine lv_iload_n hx hb dX4_goodOf_14 rfl (lv_at hl 3 rfl) ?_
      refine lv_iload_n hx hb dX4_goodOf_15 rfl (lv_at hl 1 rfl) ?_
      obtain ⟨r2, hcr2, h⟩ := bd_y h
      refine g_cVI (a := a) (ci := 4) (T := TX4) (N := 10) (av := [.int w3, .int u1]) (rest := [.int w2]) X hG hS (ct_X4_gainOf l z k_a n_a hcr2) mt_X4_gainOf ml_X4_92 rfl ⟨rfl, rfl, Nat.le_of_ble_eq_true rfl, Nat.le_of_ble_eq_true rfl⟩ ⟨Nat.le_refl 0, Nat.le_refl 0⟩ (nx_0 n_a) k_a (by decide) rfl hl.1 (Nat.le_of_ble_eq_true rfl) rfl dX4_goodOf_16 (fun H locs hG hS => ?_)
      refine lv_iadd hx hb dX4_goodOf_19 ?_
      refine lv_topi (fun x3 ex3 => ?_)
      have h := nm_y h x3 ex3
      refine lv_istore_n (lv' := [(2, .int x3), (0, .ref (gad z a)), (1, .int u1), (3, .int w3)]) hx hb dX4_goodOf_20 rfl hl (by decide) rfl (fun ls hl => ?_)
      refine lv_iinc (v := (w3 + 1)) (lv' := [(3, .int (w3 + 1)), (2, .int x3), (0, .ref (gad z a)), (1, .int u1)]) hx hb dX4_goodOf_21 hl (k := 3) rfl rfl (by decide) rfl (fun ls hl => ?_)
      refine lv_goto (tgt := 4) hx hb dX4_goodOf_24 (by decide) ?_
      exact ih x3 (w3 + 1) _ _ _ h hG hS (lv_sub hl [2, 3, 1, 0] rfl)
set_option maxRecDepth 100000 in
set_option maxHeartbeats 4000000 in
theorem ct_X4_goodOf (l : Launch) (z : gZ) {N : Nat} {M : Mem} {a : Nat} {v1 : Int32} {o : Int32} (k_a : kd a = 4) (n_a : a + 8 ≤ gn z) (h : fX4_goodOf N M a v1 = some o) : CtI l z yX4_goodOf cX4_goodOf 4 (some .int) { frames := 2, cells := 0, slots := 0, locals := 46 } [.ref (gad z a), .int v1] M o M := by
  refine Ct_of rfl (Nat.le_of_ble_eq_true rfl) ?_
  intro p e s m below meth c ls X hr hlk hG hS hl
  have X : gX p m c _ _ s _ RX4 z := X
  have hl : lv_has ls 4 [(0, .ref (gad z a)), (1, .int v1)] := hl
  have hx := X.1
  have hb := X.2.1
  unfold fX4_goodOf at h
  refine lv_iconst (v := 0) hx hb dX4_goodOf_0 (by decide) ?_
  refine lv_istore_n (lv' := [(2, .int 0), (0, .ref (gad z a)), (1, .int v1)]) hx hb dX4_goodOf_1 rfl hl (by decide) rfl (fun ls hl => ?_)
  refine lv_iconst (v := 0) hx hb dX4_goodOf_2 (by decide) ?_
  refine lv_istore_n (lv' := [(3, .int 0), (2, .int 0), (0, .ref (gad z a)), (1, .int v1)]) hx hb dX4_goodOf_3 rfl hl (by decide) rfl (fun ls hl => ?_)
  refine wX4_goodOf_4 X hr hlk k_a n_a _ _ _ _ _ _ h hG hS (lv_sub hl [2, 3, 1, 0] rfl)
set_option maxRecDepth 100000 in
set_option maxHeartbeats 4000000 in
theorem ct_X4_edge (l : Launch) (z : gZ) {N : Nat} {M : Mem} {a : Nat} {v1 : Int32} {v2 : Int32} {o : Int32} (k_a : kd a = 4) (n_a : a + 8 ≤ gn z) (h : fX4_edge N M a v1 v2 = some o) : CtI l z yX4_edge cX4_edge 4 (some .int) { frames := 0, cells := 0, slots := 0, locals := 0 } [.ref (gad z a), .int v1, .int v2] M o M := by
  refine Ct_of rfl (Nat.le_of_ble_eq_true rfl) ?_
  intro p e s m below meth c ls X hr hlk hG hS hl
  have X : gX p m c _ _ s _ RX4 z := X
  have hl : lv_has ls 4 [(0, .ref (gad z a)), (1, .int v1), (2, .int v2)] := hl
  have hx := X.1
  have hb := X.2.1
  unfold fX4_edge at h
  refine lv_aload_n hx hb dX4_edge_0 rfl (lv_at hl 0 rfl) ?_
  refine gf_X4_2 X hG (nx_0 n_a) k_a fl_X4_18 dX4_edge_1 ?_
  refine lv_iload_n hx hb dX4_edge_4 rfl (lv_at hl 1 rfl) ?_
  obtain ⟨i1, h⟩ := gd_y h
  refine g_iald X hG (nx_a (a := a) (k := 3) (n := 8) n_a (Nat.le_of_ble_eq_true rfl)) (kx_4_3 k_a) (by decide) i1 dX4_edge_5 ?_
  refine lv_iload_n hx hb dX4_edge_6 rfl (lv_at hl 2 rfl) ?_
  refine lv_iand hx hb dX4_edge_7 ?_
  refine lv_if_ne (tgt := 20) hx hb dX4_edge_8 (by decide) (fun q2 => ?_) (fun q2 => ?_)
  · have h := ite_n h q2
    refine lv_aload_n hx hb dX4_edge_20 rfl (lv_at hl 0 rfl) ?_
    refine gf_X4_8 X hG (nx_0 n_a) k_a fl_X4_37 dX4_edge_21 ?_
    refine lv_topi (fun x3 ex3 => ?_)
    have h := nm_y h x3 ex3
    refine lv_istore_n (lv' := [(3, .int x3), (0, .ref (gad z a)), (1, .int v1), (2, .int v2)]) hx hb dX4_edge_24 rfl hl (by decide) rfl (fun ls hl => ?_)
    refine lv_iload_n hx hb dX4_edge_25 rfl (lv_at hl 0 rfl) ?_
    refine lv_aload_n hx hb dX4_edge_26 rfl (lv_at hl 1 rfl) ?_
    refine gf_X4_0 X hG (nx_0 n_a) k_a fl_X4_9 dX4_edge_27 ?_
    refine lv_iload_n hx hb dX4_edge_30 rfl (lv_at hl 2 rfl) ?_
    refine g_iald X hG (nx_a (a := a) (k := 1) (n := 8) n_a (Nat.le_of_ble_eq_true rfl)) (kx_4_1 k_a) (by decide) i1 dX4_edge_31 ?_
    refine lv_isub hx hb dX4_edge_32 ?_
    obtain rfl := Option.some.inj h
    exact g_iret X hr hlk hG hS dX4_edge_33
  · have h := ite_y h q2
    refine lv_aload_n hx hb dX4_edge_11 rfl (lv_at hl 0 rfl) ?_
    refine gf_X4_1 X hG (nx_0 n_a) k_a fl_X4_15 dX4_edge_12 ?_
    refine lv_iload_n hx hb dX4_edge_15 rfl (lv_at hl 1 rfl) ?_
    refine g_iald X hG (nx_a (a := a) (k := 2) (n := 8) n_a (Nat.le_of_ble_eq_true rfl)) (kx_4_2 k_a) (by decide) i1 dX4_edge_16 ?_
    refine lv_goto (tgt := 24) hx hb dX4_edge_17 (by decide) ?_
    refine lv_topi (fun x4 ex4 => ?_)
    have h := nm_y h x4 ex4
    refine lv_istore_n (lv' := [(3, .int x4), (0, .ref (gad z a)), (1, .int v1), (2, .int v2)]) hx hb dX4_edge_24 rfl hl (by decide) rfl (fun ls hl => ?_)
    refine lv_iload_n hx hb dX4_edge_25 rfl (lv_at hl 0 rfl) ?_
    refine lv_aload_n hx hb dX4_edge_26 rfl (lv_at hl 1 rfl) ?_
    refine gf_X4_0 X hG (nx_0 n_a) k_a fl_X4_9 dX4_edge_27 ?_
    refine lv_iload_n hx hb dX4_edge_30 rfl (lv_at hl 2 rfl) ?_
    refine g_iald X hG (nx_a (a := a) (k := 1) (n := 8) n_a (Nat.le_of_ble_eq_true rfl)) (kx_4_1 k_a) (by decide) i1 dX4_edge_31 ?_
    refine lv_isub hx hb dX4_edge_32 ?_
    obtain rfl := Option.some.inj h
    exact g_iret X hr hlk hG hS dX4_edge_33
set_option maxRecDepth 100000 in
set_option maxHeartbeats 4000000 in
theorem ct_X4_gainByChange (l : Launch) (z : gZ) {N : Nat} {M : Mem} {a : Nat} {v1 : Int32} {v2 : Int32} {o : Int32} (k_a : kd a = 4) (n_a : a + 8 ≤ gn z) (h : fX4_gainByChange N M a v1 v2 = some o) : CtI l z yX4_gainByChange cX4_gainByChange 4 (some .int) { frames := 1, cells := 0, slots := 0, locals := 23 } [.ref (gad z a), .int v1, .int v2] M o M := by
  refine Ct_of rfl (Nat.le_of_ble_eq_true rfl) ?_
  intro p e s m below meth c ls X hr hlk hG hS hl
  have X : gX p m c _ _ s _ RX4 z := X
  have hl : lv_has ls 4 [(0, .ref (gad z a)), (1, .int v1), (2, .int v2)] := hl
  have hx := X.1
  have hb := X.2.1
  unfold fX4_gainByChange at h
  refine lv_aload_n hx hb dX4_gainByChange_0 rfl (lv_at hl 0 rfl) ?_
  refine lv_iload_n hx hb dX4_gainByChange_1 rfl (lv_at hl 1 rfl) ?_
  refine lv_iload_n hx hb dX4_gainByChange_2 rfl (lv_at hl 2 rfl) ?_
  obtain ⟨r1, hcr1, h⟩ := bd_y h
  refine g_cVI (a := a) (ci := 4) (T := TX4) (N := 10) (av := [.int v1, .int v2]) (rest := []) X hG hS (ct_X4_edge l z k_a n_a hcr1) mt_X4_edge ml_X4_96 rfl ⟨rfl, rfl, Nat.le_of_ble_eq_true rfl, Nat.le_of_ble_eq_true rfl⟩ ⟨Nat.le_refl 0, Nat.le_refl 0⟩ (nx_0 n_a) k_a (by decide) rfl hl.1 (Nat.le_of_ble_eq_true rfl) rfl dX4_gainByChange_3 (fun H locs hG hS => ?_)
  refine lv_istore_n (lv' := [(3, .int r1), (0, .ref (gad z a)), (1, .int v1), (2, .int v2)]) hx hb dX4_gainByChange_6 rfl hl (by decide) rfl (fun ls hl => ?_)
  refine lv_iload_n hx hb dX4_gainByChange_7 rfl (lv_at hl 2 rfl) ?_
  refine lv_iload_n hx hb dX4_gainByChange_8 rfl (lv_at hl 3 rfl) ?_
  obtain ⟨r2, hcr2, h⟩ := bd_y h
  refine g_cSI (av := [.int v1, .int v2]) (rest := []) X hG hS (ct_X4_isIn l z  hcr2) mt_X4_isIn ml_X4_63 rfl ⟨rfl, rfl, Nat.le_of_ble_eq_true rfl, Nat.le_of_ble_eq_true rfl⟩ ⟨Nat.le_refl 0, Nat.le_refl 0⟩ hl.1 (Nat.le_of_ble_eq_true rfl) rfl dX4_gainByChange_9 (fun H locs hG hS => ?_)
  refine lv_if_eq (tgt := 20) hx hb dX4_gainByChange_12 (by decide) (fun q3 => ?_) (fun q3 => ?_)
  · have h := ite_y h q3
    refine lv_iload_n hx hb dX4_gainByChange_20 rfl (lv_at hl 0 rfl) ?_
    obtain rfl := Option.some.inj h
    exact g_iret X hr hlk hG hS dX4_gainByChange_21
  · have h := ite_n h q3
    refine lv_iload_n hx hb dX4_gainByChange_15 rfl (lv_at hl 0 rfl) ?_
    refine lv_ineg hx hb dX4_gainByChange_16 ?_
    refine lv_goto (tgt := 21) hx hb dX4_gainByChange_17 (by decide) ?_
    obtain rfl := Option.some.inj h
    exact g_iret X hr hlk hG hS dX4_gainByChange_21
set_option maxRecDepth 100000 in
set_option maxHeartbeats 4000000 in
theorem wX4_firstRestless_2 {N : Nat} {p : Program} {l : Launch} {e : Env} {s : State} {m : MethodId} {args : Array Value} {below : List Frame} {meth : Method} {c : Code} {z : gZ} {M : Mem} {a : Nat} {u1 : Int32} {o : Int32} (X : gX p m c cX4_firstRestless 3 s args RX4 z) (hr : meth.sig.returnType = (some .int)) (hlk : meth.locks = false) (k_a : kd a = 4) (n_a : a + 8 ≤ gn z)  : ∀ (n : Nat) (w2 : Int32) (H : Heap) (locs : List Loc) (ls : Array Slot), fX4_firstRestless_2 N M a u1  n w2 = some o → gW z M H → va_S (gA z) s.heap H locs → lv_has ls 3 [(0, .ref (gad z a)), (1, .int u1), (2, .int w2)] → W p l e { frames := 2, cells := 0, slots := 0, locals := 46 } s m args below meth c H locs 0 0 (MQ below (va_Qi (fun r' (_ : Unit) => r' = o) (fun _ t => gW z M t.heap) (gA z)) args s 0 0 (gA z)) (F0 m 2 ls []) := by
  have hx := X.1
  have hb := X.2.1
  intro n
  induction n with
  | zero => intro w2 H locs ls h; cases h
  | succ n ih =>
    intro w2 H locs ls h hG hS hl
    rw [fX4_firstRestless_2] at h
    refine lv_iload_n hx hb dX4_firstRestless_2 rfl (lv_at hl 2 rfl) ?_
    refine lv_aload_n hx hb dX4_firstRestless_3 rfl (lv_at hl 0 rfl) ?_
    refine gf_X4_7 X hG (nx_0 n_a) k_a fl_X4_33 dX4_firstRestless_4 ?_
    refine lv_icmp_ge (tgt := 46) hx hb dX4_firstRestless_7 (by decide) (fun q1 => ?_) (fun q1 => ?_)
    · have h := ite_y h q1
      refine lv_iconst (v := (-1)) hx hb dX4_firstRestless_46 (by decide) ?_
      obtain rfl := Option.some.inj h
      exact g_iret X hr hlk hG hS dX4_firstRestless_47
    · have h := ite_n h q1
      refine lv_aload_n hx hb dX4_firstRestless_10 rfl (lv_at hl 0 rfl) ?_
      refine lv_iload_n hx hb dX4_firstRestless_11 rfl (lv_at hl 2 rfl) ?_
      obtain ⟨r2, hcr2, h⟩ := bd_y h
      refine g_cVI (a := a) (ci := 4) (T := TX4) (N := 10) (av := [.int w2]) (rest := []) X hG hS (ct_X4_isMust l z k_a n_a hcr2) mt_X4_isMust ml_X4_99 rfl ⟨rfl, rfl, Nat.le_of_ble_eq_true rfl, Nat.le_of_ble_eq_true rfl⟩ ⟨Nat.le_refl 0, Nat.le_refl 0⟩ (nx_0 n_a) k_a (by decide) rfl hl.1 (Nat.le_of_ble_eq_true rfl) rfl dX4_firstRestless_12 (fun H locs hG hS => ?_)
      refine lv_if_eq (tgt := 29) hx hb dX4_firstRestless_15 (by decide) (fun q3 => ?_) (fun q3 => ?_)
      · have h := ite_y h q3
        refine lv_aload_n hx hb dX4_firstRestless_29 rfl (lv_at hl 0 rfl) ?_
        refine lv_iload_n hx hb dX4_firstRestless_30 rfl (lv_at hl 2 rfl) ?_
        refine lv_iload_n hx hb dX4_firstRestless_31 rfl (lv_at hl 1 rfl) ?_
        obtain ⟨r4, hcr4, h⟩ := bd_y h
        refine g_cVI (a := a) (ci := 4) (T := TX4) (N := 10) (av := [.int w2, .int u1]) (rest := []) X hG hS (ct_X4_gainByChange l z k_a n_a hcr4) mt_X4_gainByChange ml_X4_102 rfl ⟨rfl, rfl, Nat.le_of_ble_eq_true rfl, Nat.le_of_ble_eq_true rfl⟩ ⟨Nat.le_refl 0, Nat.le_refl 0⟩ (nx_0 n_a) k_a (by decide) rfl hl.1 (Nat.le_of_ble_eq_true rfl) rfl dX4_firstRestless_32 (fun H locs hG hS => ?_)
        refine lv_if_le (tgt := 40) hx hb dX4_firstRestless_35 (by decide) (fun q5 => ?_) (fun q5 => ?_)
        · have h := ite_y h q5
          refine lv_iinc (v := (w2 + 1)) (lv' := [(2, .int (w2 + 1)), (0, .ref (gad z a)), (1, .int u1)]) hx hb dX4_firstRestless_40 hl (k := 2) rfl rfl (by decide) rfl (fun ls hl => ?_)
          refine lv_goto (tgt := 2) hx hb dX4_firstRestless_43 (by decide) ?_
          exact ih (w2 + 1) _ _ _ h hG hS (lv_sub hl [1, 2, 0] rfl)
        · have h := ite_n h q5
          refine lv_iload_n hx hb dX4_firstRestless_38 rfl (lv_at hl 2 rfl) ?_
          obtain rfl := Option.some.inj h
          exact g_iret X hr hlk hG hS dX4_firstRestless_39
      · have h := ite_n h q3
        refine lv_iload_n hx hb dX4_firstRestless_18 rfl (lv_at hl 2 rfl) ?_
        refine lv_iload_n hx hb dX4_firstRestless_19 rfl (lv_at hl 1 rfl) ?_
        obtain ⟨r6, hcr6, h⟩ := bd_y h
        refine g_cSI (av := [.int w2, .int u1]) (rest := []) X hG hS (ct_X4_isIn l z  hcr6) mt_X4_isIn ml_X4_63 rfl ⟨rfl, rfl, Nat.le_of_ble_eq_true rfl, Nat.le_of_ble_eq_true rfl⟩ ⟨Nat.le_refl 0, Nat.le_refl 0⟩ hl.1 (Nat.le_of_ble_eq_true rfl) rfl dX4_firstRestless_20 (fun H locs hG hS => ?_)
        refine lv_if_ne (tgt := 40) hx hb dX4_firstRestless_23 (by decide) (fun q7 => ?_) (fun q7 => ?_)
        · have h := ite_n h q7
          refine lv_iinc (v := (w2 + 1)) (lv' := [(2, .int (w2 + 1)), (0, .ref (gad z a)), (1, .int u1)]) hx hb dX4_firstRestless_40 hl (k := 2) rfl rfl (by decide) rfl (fun ls hl => ?_)
          refine lv_goto (tgt := 2) hx hb dX4_firstRestless_43 (by decide) ?_
          exact ih (w2 + 1) _ _ _ h hG hS (lv_sub hl [1, 2, 0] rfl)
        · have h := ite_y h q7
          refine lv_goto (tgt := 38) hx hb dX4_firstRestless_26 (by decide) ?_
          refine lv_iload_n hx hb dX4_firstRestless_38 rfl (lv_at hl 2 rfl) ?_
          obtain rfl := Option.some.inj h
          exact g_iret X hr hlk hG hS dX4_firstRestless_39
set_option maxRecDepth 100000 in
set_option maxHeartbeats 4000000 in
theorem ct_X4_firstRestless (l : Launch) (z : gZ) {N : Nat} {M : Mem} {a : Nat} {v1 : Int32} {o : Int32} (k_a : kd a = 4) (n_a : a + 8 ≤ gn z) (h : fX4_firstRestless N M a v1 = some o) : CtI l z yX4_firstRestless cX4_firstRestless 3 (some .int) { frames := 2, cells := 0, slots := 0, locals := 46 } [.ref (gad z a), .int v1] M o M := by
  refine Ct_of rfl (Nat.le_of_ble_eq_true rfl) ?_
  intro p e s m below meth c ls X hr hlk hG hS hl
  have X : gX p m c _ _ s _ RX4 z := X
  have hl : lv_has ls 3 [(0, .ref (gad z a)), (1, .int v1)] := hl
  have hx := X.1
  have hb := X.2.1
  unfold fX4_firstRestless at h
  refine lv_iconst (v := 0) hx hb dX4_firstRestless_0 (by decide) ?_
  refine lv_istore_n (lv' := [(2, .int 0), (0, .ref (gad z a)), (1, .int v1)]) hx hb dX4_firstRestless_1 rfl hl (by decide) rfl (fun ls hl => ?_)
  refine wX4_firstRestless_2 X hr hlk k_a n_a _ _ _ _ _ h hG hS (lv_sub hl [1, 2, 0] rfl)
set_option maxRecDepth 100000 in
set_option maxHeartbeats 4000000 in
theorem ct_X4_isRest (l : Launch) (z : gZ) {N : Nat} {M : Mem} {a : Nat} {v1 : Int32} {o : Int32} (k_a : kd a = 4) (n_a : a + 8 ≤ gn z) (h : fX4_isRest N M a v1 = some o) : CtI l z yX4_isRest cX4_isRest 2 (some .boolean) { frames := 3, cells := 0, slots := 0, locals := 68 } [.ref (gad z a), .int v1] M o M := by
  refine Ct_of rfl (Nat.le_of_ble_eq_true rfl) ?_
  intro p e s m below meth c ls X hr hlk hG hS hl
  have X : gX p m c _ _ s _ RX4 z := X
  have hl : lv_has ls 2 [(0, .ref (gad z a)), (1, .int v1)] := hl
  have hx := X.1
  have hb := X.2.1
  unfold fX4_isRest at h
  refine lv_aload_n hx hb dX4_isRest_0 rfl (lv_at hl 0 rfl) ?_
  refine lv_iload_n hx hb dX4_isRest_1 rfl (lv_at hl 1 rfl) ?_
  obtain ⟨r1, hcr1, h⟩ := bd_y h
  refine g_cVI (a := a) (ci := 4) (T := TX4) (N := 10) (av := [.int v1]) (rest := []) X hG hS (ct_X4_firstRestless l z k_a n_a hcr1) mt_X4_firstRestless ml_X4_108 rfl ⟨rfl, rfl, Nat.le_of_ble_eq_true rfl, Nat.le_of_ble_eq_true rfl⟩ ⟨Nat.le_refl 0, Nat.le_refl 0⟩ (nx_0 n_a) k_a (by decide) rfl hl.1 (Nat.le_of_ble_eq_true rfl) rfl dX4_isRest_2 (fun H locs hG hS => ?_)
  refine lv_iconst (v := (-1)) hx hb dX4_isRest_5 (by decide) ?_
  refine lv_icmp_ne (tgt := 13) hx hb dX4_isRest_6 (by decide) (fun q2 => ?_) (fun q2 => ?_)
  · have h := ite_n h q2
    refine lv_iconst (v := 0) hx hb dX4_isRest_13 (by decide) ?_
    obtain rfl := Option.some.inj h
    exact g_zret (zn (Or.inl rfl)) X hr hlk hG hS dX4_isRest_14
  · have h := ite_y h q2
    refine lv_iconst (v := 1) hx hb dX4_isRest_9 (by decide) ?_
    refine lv_goto (tgt := 14) hx hb dX4_isRest_10 (by decide) ?_
    obtain rfl := Option.some.inj h
    exact g_zret (zn (Or.inr rfl)) X hr hlk hG hS dX4_isRest_14
set_option maxRecDepth 100000 in
set_option maxHeartbeats 4000000 in
theorem wX4_rests_4 {N : Nat} {p : Program} {l : Launch} {e : Env} {s : State} {m : MethodId} {args : Array Value} {below : List Frame} {meth : Method} {c : Code} {z : gZ} {M : Mem} {a : Nat} {o : Int32} (X : gX p m c cX4_rests 3 s args RX4 z) (hr : meth.sig.returnType = (some .int)) (hlk : meth.locks = false) (k_a : kd a = 4) (n_a : a + 8 ≤ gn z)  : ∀ (n : Nat) (w1 : Int32) (w2 : Int32) (H : Heap) (locs : List Loc) (ls : Array Slot), fX4_rests_4 N M a  n w1 w2 = some o → gW z M H → va_S (gA z) s.heap H locs → lv_has ls 3 [(0, .ref (gad z a)), (1, .int w1), (2, .int w2)] → W p l e { frames := 4, cells := 0, slots := 0, locals := 89 } s m args below meth c H locs 0 0 (MQ below (va_Qi (fun r' (_ : Unit) => r' = o) (fun _ t => gW z M t.heap) (gA z)) args s 0 0 (gA z)) (F0 m 4 ls []) := by
  have hx := X.1
  have hb := X.2.1
  intro n
  induction n with
  | zero => intro w1 w2 H locs ls h; cases h
  | succ n ih =>
    intro w1 w2 H locs ls h hG hS hl
    rw [fX4_rests_4] at h
    refine lv_iload_n hx hb dX4_rests_4 rfl (lv_at hl 2 rfl) ?_
    refine lv_aload_n hx hb dX4_rests_5 rfl (lv_at hl 0 rfl) ?_
    obtain ⟨r1, hcr1, h⟩ := bd_y h
    refine g_cVI (a := a) (ci := 4) (T := TX4) (N := 10) (av := []) (rest := [.int w2]) X hG hS (ct_X4_sets l z k_a n_a hcr1) mt_X4_sets ml_X4_59 rfl ⟨rfl, rfl, Nat.le_of_ble_eq_true rfl, Nat.le_of_ble_eq_true rfl⟩ ⟨Nat.le_refl 0, Nat.le_refl 0⟩ (nx_0 n_a) k_a (by decide) rfl hl.1 (Nat.le_of_ble_eq_true rfl) rfl dX4_rests_6 (fun H locs hG hS => ?_)
    refine lv_icmp_ge (tgt := 29) hx hb dX4_rests_9 (by decide) (fun q2 => ?_) (fun q2 => ?_)
    · have h := ite_y h q2
      refine lv_iload_n hx hb dX4_rests_29 rfl (lv_at hl 1 rfl) ?_
      obtain rfl := Option.some.inj h
      exact g_iret X hr hlk hG hS dX4_rests_30
    · have h := ite_n h q2
      refine lv_aload_n hx hb dX4_rests_12 rfl (lv_at hl 0 rfl) ?_
      refine lv_iload_n hx hb dX4_rests_13 rfl (lv_at hl 2 rfl) ?_
      obtain ⟨r3, hcr3, h⟩ := bd_y h
      refine g_cVI (a := a) (ci := 4) (T := TX4) (N := 10) (av := [.int w2]) (rest := []) X hG hS (ct_X4_isRest l z k_a n_a hcr3) mt_X4_isRest ml_X4_111 rfl ⟨rfl, rfl, Nat.le_of_ble_eq_true rfl, Nat.le_of_ble_eq_true rfl⟩ ⟨Nat.le_refl 0, Nat.le_refl 0⟩ (nx_0 n_a) k_a (by decide) rfl hl.1 (Nat.le_of_ble_eq_true rfl) rfl dX4_rests_14 (fun H locs hG hS => ?_)
      refine lv_if_eq (tgt := 23) hx hb dX4_rests_17 (by decide) (fun q4 => ?_) (fun q4 => ?_)
      · have h := ite_y h q4
        refine lv_iinc (v := (w2 + 1)) (lv' := [(2, .int (w2 + 1)), (0, .ref (gad z a)), (1, .int w1)]) hx hb dX4_rests_23 hl (k := 2) rfl rfl (by decide) rfl (fun ls hl => ?_)
        refine lv_goto (tgt := 4) hx hb dX4_rests_26 (by decide) ?_
        exact ih w1 (w2 + 1) _ _ _ h hG hS (lv_sub hl [1, 2, 0] rfl)
      · have h := ite_n h q4
        refine lv_iinc (v := (w1 + 1)) (lv' := [(1, .int (w1 + 1)), (0, .ref (gad z a)), (2, .int w2)]) hx hb dX4_rests_20 hl (k := 1) rfl rfl (by decide) rfl (fun ls hl => ?_)
        refine lv_iinc (v := (w2 + 1)) (lv' := [(2, .int (w2 + 1)), (1, .int (w1 + 1)), (0, .ref (gad z a))]) hx hb dX4_rests_23 hl (k := 2) rfl rfl (by decide) rfl (fun ls hl => ?_)
        refine lv_goto (tgt := 4) hx hb dX4_rests_26 (by decide) ?_
        exact ih (w1 + 1) (w2 + 1) _ _ _ h hG hS (lv_sub hl [2, 1, 0] rfl)
set_option maxRecDepth 100000 in
set_option maxHeartbeats 4000000 in
theorem ct_X4_rests (l : Launch) (z : gZ) {N : Nat} {M : Mem} {a : Nat} {o : Int32} (k_a : kd a = 4) (n_a : a + 8 ≤ gn z) (h : fX4_rests N M a = some o) : CtI l z yX4_rests cX4_rests 3 (some .int) { frames := 4, cells := 0, slots := 0, locals := 89 } [.ref (gad z a)] M o M := by
  refine Ct_of rfl (Nat.le_of_ble_eq_true rfl) ?_
  intro p e s m below meth c ls X hr hlk hG hS hl
  have X : gX p m c _ _ s _ RX4 z := X
  have hl : lv_has ls 3 [(0, .ref (gad z a))] := hl
  have hx := X.1
  have hb := X.2.1
  unfold fX4_rests at h
  refine lv_iconst (v := 0) hx hb dX4_rests_0 (by decide) ?_
  refine lv_istore_n (lv' := [(1, .int 0), (0, .ref (gad z a))]) hx hb dX4_rests_1 rfl hl (by decide) rfl (fun ls hl => ?_)
  refine lv_iconst (v := 0) hx hb dX4_rests_2 (by decide) ?_
  refine lv_istore_n (lv' := [(2, .int 0), (1, .int 0), (0, .ref (gad z a))]) hx hb dX4_rests_3 rfl hl (by decide) rfl (fun ls hl => ?_)
  refine wX4_rests_4 X hr hlk k_a n_a _ _ _ _ _ _ h hG hS (lv_sub hl [2, 1, 0] rfl)
set_option maxRecDepth 100000 in
set_option maxHeartbeats 4000000 in
theorem wX4_restNumber_4 {N : Nat} {p : Program} {l : Launch} {e : Env} {s : State} {m : MethodId} {args : Array Value} {below : List Frame} {meth : Method} {c : Code} {z : gZ} {M : Mem} {a : Nat} {u1 : Int32} {o : Int32} (X : gX p m c cX4_restNumber 4 s args RX4 z) (hr : meth.sig.returnType = (some .int)) (hlk : meth.locks = false) (k_a : kd a = 4) (n_a : a + 8 ≤ gn z)  : ∀ (n : Nat) (w2 : Int32) (w3 : Int32) (H : Heap) (locs : List Loc) (ls : Array Slot), fX4_restNumber_4 N M a u1  n w2 w3 = some o → gW z M H → va_S (gA z) s.heap H locs → lv_has ls 4 [(0, .ref (gad z a)), (1, .int u1), (2, .int w2), (3, .int w3)] → W p l e { frames := 4, cells := 0, slots := 0, locals := 89 } s m args below meth c H locs 0 0 (MQ below (va_Qi (fun r' (_ : Unit) => r' = o) (fun _ t => gW z M t.heap) (gA z)) args s 0 0 (gA z)) (F0 m 4 ls []) := by
  have hx := X.1
  have hb := X.2.1
  intro n
  induction n with
  | zero => intro w2 w3 H locs ls h; cases h
  | succ n ih =>
    intro w2 w3 H locs ls h hG hS hl
    rw [fX4_restNumber_4] at h
    refine lv_iload_n hx hb dX4_restNumber_4 rfl (lv_at hl 3 rfl) ?_
    refine lv_aload_n hx hb dX4_restNumber_5 rfl (lv_at hl 0 rfl) ?_
    obtain ⟨r1, hcr1, h⟩ := bd_y h
    refine g_cVI (a := a) (ci := 4) (T := TX4) (N := 10) (av := []) (rest := [.int w3]) X hG hS (ct_X4_sets l z k_a n_a hcr1) mt_X4_sets ml_X4_59 rfl ⟨rfl, rfl, Nat.le_of_ble_eq_true rfl, Nat.le_of_ble_eq_true rfl⟩ ⟨Nat.le_refl 0, Nat.le_refl 0⟩ (nx_0 n_a) k_a (by decide) rfl hl.1 (Nat.le_of_ble_eq_true rfl) rfl dX4_restNumber_6 (fun H locs hG hS => ?_)
    refine lv_icmp_ge (tgt := 36) hx hb dX4_restNumber_9 (by decide) (fun q2 => ?_) (fun q2 => ?_)
    · have h := ite_y h q2
      refine lv_iconst (v := (-1)) hx hb dX4_restNumber_36 (by decide) ?_
      obtain rfl := Option.some.inj h
      exact g_iret X hr hlk hG hS dX4_restNumber_37
    · have h := ite_n h q2
      refine lv_aload_n hx hb dX4_restNumber_12 rfl (lv_at hl 0 rfl) ?_
      refine lv_iload_n hx hb dX4_restNumber_13 rfl (lv_at hl 3 rfl) ?_
      obtain ⟨r3, hcr3, h⟩ := bd_y h
      refine g_cVI (a := a) (ci := 4) (T := TX4) (N := 10) (av := [.int w3]) (rest := []) X hG hS (ct_X4_isRest l z k_a n_a hcr3) mt_X4_isRest ml_X4_111 rfl ⟨rfl, rfl, Nat.le_of_ble_eq_true rfl, Nat.le_of_ble_eq_true rfl⟩ ⟨Nat.le_refl 0, Nat.le_refl 0⟩ (nx_0 n_a) k_a (by decide) rfl hl.1 (Nat.le_of_ble_eq_true rfl) rfl dX4_restNumber_14 (fun H locs hG hS => ?_)
      refine lv_if_eq (tgt := 30) hx hb dX4_restNumber_17 (by decide) (fun q4 => ?_) (fun q4 => ?_)
      · have h := ite_y h q4
        refine lv_iinc (v := (w3 + 1)) (lv' := [(3, .int (w3 + 1)), (0, .ref (gad z a)), (1, .int u1), (2, .int w2)]) hx hb dX4_restNumber_30 hl (k := 3) rfl rfl (by decide) rfl (fun ls hl => ?_)
        refine lv_goto (tgt := 4) hx hb dX4_restNumber_33 (by decide) ?_
        exact ih w2 (w3 + 1) _ _ _ h hG hS (lv_sub hl [1, 2, 3, 0] rfl)
      · have h := ite_n h q4
        refine lv_iload_n hx hb dX4_restNumber_20 rfl (lv_at hl 2 rfl) ?_
        refine lv_iload_n hx hb dX4_restNumber_21 rfl (lv_at hl 1 rfl) ?_
        refine lv_icmp_ne (tgt := 27) hx hb dX4_restNumber_22 (by decide) (fun q5 => ?_) (fun q5 => ?_)
        · have h := ite_n h q5
          refine lv_iinc (v := (w2 + 1)) (lv' := [(2, .int (w2 + 1)), (0, .ref (gad z a)), (1, .int u1), (3, .int w3)]) hx hb dX4_restNumber_27 hl (k := 2) rfl rfl (by decide) rfl (fun ls hl => ?_)
          refine lv_iinc (v := (w3 + 1)) (lv' := [(3, .int (w3 + 1)), (2, .int (w2 + 1)), (0, .ref (gad z a)), (1, .int u1)]) hx hb dX4_restNumber_30 hl (k := 3) rfl rfl (by decide) rfl (fun ls hl => ?_)
          refine lv_goto (tgt := 4) hx hb dX4_restNumber_33 (by decide) ?_
          exact ih (w2 + 1) (w3 + 1) _ _ _ h hG hS (lv_sub hl [2, 3, 1, 0] rfl)
        · have h := ite_y h q5
          refine lv_iload_n hx hb dX4_restNumber_25 rfl (lv_at hl 3 rfl) ?_
          obtain rfl := Option.some.inj h
          exact g_iret X hr hlk hG hS dX4_restNumber_26
set_option maxRecDepth 100000 in
set_option maxHeartbeats 4000000 in
theorem ct_X4_restNumber (l : Launch) (z : gZ) {N : Nat} {M : Mem} {a : Nat} {v1 : Int32} {o : Int32} (k_a : kd a = 4) (n_a : a + 8 ≤ gn z) (h : fX4_restNumber N M a v1 = some o) : CtI l z yX4_restNumber cX4_restNumber 4 (some .int) { frames := 4, cells := 0, slots := 0, locals := 89 } [.ref (gad z a), .int v1] M o M := by
  refine Ct_of rfl (Nat.le_of_ble_eq_true rfl) ?_
  intro p e s m below meth c ls X hr hlk hG hS hl
  have X : gX p m c _ _ s _ RX4 z := X
  have hl : lv_has ls 4 [(0, .ref (gad z a)), (1, .int v1)] := hl
  have hx := X.1
  have hb := X.2.1
  unfold fX4_restNumber at h
  refine lv_iconst (v := 0) hx hb dX4_restNumber_0 (by decide) ?_
  refine lv_istore_n (lv' := [(2, .int 0), (0, .ref (gad z a)), (1, .int v1)]) hx hb dX4_restNumber_1 rfl hl (by decide) rfl (fun ls hl => ?_)
  refine lv_iconst (v := 0) hx hb dX4_restNumber_2 (by decide) ?_
  refine lv_istore_n (lv' := [(3, .int 0), (2, .int 0), (0, .ref (gad z a)), (1, .int v1)]) hx hb dX4_restNumber_3 rfl hl (by decide) rfl (fun ls hl => ?_)
  refine wX4_restNumber_4 X hr hlk k_a n_a _ _ _ _ _ _ h hG hS (lv_sub hl [2, 3, 1, 0] rfl)
set_option maxRecDepth 100000 in
set_option maxHeartbeats 4000000 in
theorem ct_X4_hasMustsIn (l : Launch) (z : gZ) {N : Nat} {M : Mem} {a : Nat} {v1 : Int32} {o : Int32} (k_a : kd a = 4) (n_a : a + 8 ≤ gn z) (h : fX4_hasMustsIn N M a v1 = some o) : CtI l z yX4_hasMustsIn cX4_hasMustsIn 2 (some .boolean) { frames := 0, cells := 0, slots := 0, locals := 0 } [.ref (gad z a), .int v1] M o M := by
  refine Ct_of rfl (Nat.le_of_ble_eq_true rfl) ?_
  intro p e s m below meth c ls X hr hlk hG hS hl
  have X : gX p m c _ _ s _ RX4 z := X
  have hl : lv_has ls 2 [(0, .ref (gad z a)), (1, .int v1)] := hl
  have hx := X.1
  have hb := X.2.1
  unfold fX4_hasMustsIn at h
  refine lv_aload_n hx hb dX4_hasMustsIn_0 rfl (lv_at hl 0 rfl) ?_
  refine gf_X4_9 X hG (nx_0 n_a) k_a fl_X4_40 dX4_hasMustsIn_1 ?_
  refine lv_iload_n hx hb dX4_hasMustsIn_4 rfl (lv_at hl 1 rfl) ?_
  refine lv_iconst (v := (-1)) hx hb dX4_hasMustsIn_5 (by decide) ?_
  refine lv_ixor hx hb dX4_hasMustsIn_6 ?_
  refine lv_iand hx hb dX4_hasMustsIn_7 ?_
  refine lv_if_ne (tgt := 15) hx hb dX4_hasMustsIn_8 (by decide) (fun q1 => ?_) (fun q1 => ?_)
  · have h := ite_n h q1
    refine lv_iconst (v := 0) hx hb dX4_hasMustsIn_15 (by decide) ?_
    obtain rfl := Option.some.inj h
    exact g_zret (zn (Or.inl rfl)) X hr hlk hG hS dX4_hasMustsIn_16
  · have h := ite_y h q1
    refine lv_iconst (v := 1) hx hb dX4_hasMustsIn_11 (by decide) ?_
    refine lv_goto (tgt := 16) hx hb dX4_hasMustsIn_12 (by decide) ?_
    obtain rfl := Option.some.inj h
    exact g_zret (zn (Or.inr rfl)) X hr hlk hG hS dX4_hasMustsIn_16
set_option maxRecDepth 100000 in
set_option maxHeartbeats 4000000 in
theorem wX4_costOf_4 {N : Nat} {p : Program} {l : Launch} {e : Env} {s : State} {m : MethodId} {args : Array Value} {below : List Frame} {meth : Method} {c : Code} {z : gZ} {M : Mem} {a : Nat} {u1 : Int32} {o : Int32} (X : gX p m c cX4_costOf 4 s args RX4 z) (hr : meth.sig.returnType = (some .int)) (hlk : meth.locks = false) (k_a : kd a = 4) (n_a : a + 8 ≤ gn z)  : ∀ (n : Nat) (w2 : Int32) (w3 : Int32) (H : Heap) (locs : List Loc) (ls : Array Slot), fX4_costOf_4 N M a u1  n w2 w3 = some o → gW z M H → va_S (gA z) s.heap H locs → lv_has ls 4 [(0, .ref (gad z a)), (1, .int u1), (2, .int w2), (3, .int w3)] → W p l e { frames := 1, cells := 0, slots := 0, locals := 21 } s m args below meth c H locs 0 0 (MQ below (va_Qi (fun r' (_ : Unit) => r' = o) (fun _ t => gW z M t.heap) (gA z)) args s 0 0 (gA z)) (F0 m 4 ls []) := by
  have hx := X.1
  have hb := X.2.1
  intro n
  induction n with
  | zero => intro w2 w3 H locs ls h; cases h
  | succ n ih =>
    intro w2 w3 H locs ls h hG hS hl
    rw [fX4_costOf_4] at h
    refine lv_iload_n hx hb dX4_costOf_4 rfl (lv_at hl 3 rfl) ?_
    refine lv_aload_n hx hb dX4_costOf_5 rfl (lv_at hl 0 rfl) ?_
    refine gf_X4_7 X hG (nx_0 n_a) k_a fl_X4_33 dX4_costOf_6 ?_
    refine lv_icmp_ge (tgt := 35) hx hb dX4_costOf_9 (by decide) (fun q1 => ?_) (fun q1 => ?_)
    · have h := ite_y h q1
      refine lv_iload_n hx hb dX4_costOf_35 rfl (lv_at hl 2 rfl) ?_
      obtain rfl := Option.some.inj h
      exact g_iret X hr hlk hG hS dX4_costOf_36
    · have h := ite_n h q1
      refine lv_iload_n hx hb dX4_costOf_12 rfl (lv_at hl 3 rfl) ?_
      refine lv_iload_n hx hb dX4_costOf_13 rfl (lv_at hl 1 rfl) ?_
      obtain ⟨r2, hcr2, h⟩ := bd_y h
      refine g_cSI (av := [.int w3, .int u1]) (rest := []) X hG hS (ct_X4_isIn l z  hcr2) mt_X4_isIn ml_X4_63 rfl ⟨rfl, rfl, Nat.le_of_ble_eq_true rfl, Nat.le_of_ble_eq_true rfl⟩ ⟨Nat.le_refl 0, Nat.le_refl 0⟩ hl.1 (Nat.le_of_ble_eq_true rfl) rfl dX4_costOf_14 (fun H locs hG hS => ?_)
      refine lv_if_eq (tgt := 29) hx hb dX4_costOf_17 (by decide) (fun q3 => ?_) (fun q3 => ?_)
      · have h := ite_y h q3
        refine lv_iinc (v := (w3 + 1)) (lv' := [(3, .int (w3 + 1)), (0, .ref (gad z a)), (1, .int u1), (2, .int w2)]) hx hb dX4_costOf_29 hl (k := 3) rfl rfl (by decide) rfl (fun ls hl => ?_)
        refine lv_goto (tgt := 4) hx hb dX4_costOf_32 (by decide) ?_
        exact ih w2 (w3 + 1) _ _ _ h hG hS (lv_sub hl [1, 2, 3, 0] rfl)
      · have h := ite_n h q3
        refine lv_iload_n hx hb dX4_costOf_20 rfl (lv_at hl 2 rfl) ?_
        refine lv_aload_n hx hb dX4_costOf_21 rfl (lv_at hl 0 rfl) ?_
        refine gf_X4_0 X hG (nx_0 n_a) k_a fl_X4_9 dX4_costOf_22 ?_
        refine lv_iload_n hx hb dX4_costOf_25 rfl (lv_at hl 3 rfl) ?_
        obtain ⟨i4, h⟩ := gd_y h
        refine g_iald X hG (nx_a (a := a) (k := 1) (n := 8) n_a (Nat.le_of_ble_eq_true rfl)) (kx_4_1 k_a) (by decide) i4 dX4_costOf_26 ?_
        refine lv_iadd hx hb dX4_costOf_27 ?_
        refine lv_topi (fun x5 ex5 => ?_)
        have h := nm_y h x5 ex5
        refine lv_istore_n (lv' := [(2, .int x5), (0, .ref (gad z a)), (1, .int u1), (3, .int w3)]) hx hb dX4_costOf_28 rfl hl (by decide) rfl (fun ls hl => ?_)
        refine lv_iinc (v := (w3 + 1)) (lv' := [(3, .int (w3 + 1)), (2, .int x5), (0, .ref (gad z a)), (1, .int u1)]) hx hb dX4_costOf_29 hl (k := 3) rfl rfl (by decide) rfl (fun ls hl => ?_)
        refine lv_goto (tgt := 4) hx hb dX4_costOf_32 (by decide) ?_
        exact ih x5 (w3 + 1) _ _ _ h hG hS (lv_sub hl [2, 3, 1, 0] rfl)
set_option maxRecDepth 100000 in
set_option maxHeartbeats 4000000 in
theorem ct_X4_costOf (l : Launch) (z : gZ) {N : Nat} {M : Mem} {a : Nat} {v1 : Int32} {o : Int32} (k_a : kd a = 4) (n_a : a + 8 ≤ gn z) (h : fX4_costOf N M a v1 = some o) : CtI l z yX4_costOf cX4_costOf 4 (some .int) { frames := 1, cells := 0, slots := 0, locals := 21 } [.ref (gad z a), .int v1] M o M := by
  refine Ct_of rfl (Nat.le_of_ble_eq_true rfl) ?_
  intro p e s m below meth c ls X hr hlk hG hS hl
  have X : gX p m c _ _ s _ RX4 z := X
  have hl : lv_has ls 4 [(0, .ref (gad z a)), (1, .int v1)] := hl
  have hx := X.1
  have hb := X.2.1
  unfold fX4_costOf at h
  refine lv_iconst (v := 0) hx hb dX4_costOf_0 (by decide) ?_
  refine lv_istore_n (lv' := [(2, .int 0), (0, .ref (gad z a)), (1, .int v1)]) hx hb dX4_costOf_1 rfl hl (by decide) rfl (fun ls hl => ?_)
  refine lv_iconst (v := 0) hx hb dX4_costOf_2 (by decide) ?_
  refine lv_istore_n (lv' := [(3, .int 0), (2, .int 0), (0, .ref (gad z a)), (1, .int v1)]) hx hb dX4_costOf_3 rfl hl (by decide) rfl (fun ls hl => ?_)
  refine wX4_costOf_4 X hr hlk k_a n_a _ _ _ _ _ _ h hG hS (lv_sub hl [2, 3, 1, 0] rfl)
set_option maxRecDepth 100000 in
set_option maxHeartbeats 4000000 in
theorem ct_X4_valueOf (l : Launch) (z : gZ) {N : Nat} {M : Mem} {a : Nat} {v1 : Int32} {v2 : Int32} {o : Int32} (k_a : kd a = 4) (n_a : a + 8 ≤ gn z) (h : fX4_valueOf N M a v1 v2 = some o) : CtI l z yX4_valueOf cX4_valueOf 3 (some .int) { frames := 3, cells := 0, slots := 0, locals := 69 } [.ref (gad z a), .int v1, .int v2] M o M := by
  refine Ct_of rfl (Nat.le_of_ble_eq_true rfl) ?_
  intro p e s m below meth c ls X hr hlk hG hS hl
  have X : gX p m c _ _ s _ RX4 z := X
  have hl : lv_has ls 3 [(0, .ref (gad z a)), (1, .int v1), (2, .int v2)] := hl
  have hx := X.1
  have hb := X.2.1
  unfold fX4_valueOf at h
  refine lv_iload_n hx hb dX4_valueOf_0 rfl (lv_at hl 2 rfl) ?_
  by_cases q1 : v2 = 0
  · have h := ite_y h q1
    refine lv_tableIn (tgt := 36) hx hb dX4_valueOf_1 (by rw [q1]; decide) (by rw [q1]; decide) (by rw [q1]; rfl) (by decide) ?_
    refine lv_iload_n hx hb dX4_valueOf_36 rfl (lv_at hl 1 rfl) ?_
    obtain ⟨r2, hcr2, h⟩ := bd_y h
    refine g_cSI (av := [.int v1]) (rest := []) X hG hS (ct_J6_bitCount_0f7a4 l z  hcr2) mt_J6_bitCount_0f7a4 ml_X4_86 rfl ⟨rfl, rfl, Nat.le_of_ble_eq_true rfl, Nat.le_of_ble_eq_true rfl⟩ ⟨Nat.le_refl 0, Nat.le_refl 0⟩ hl.1 (Nat.le_of_ble_eq_true rfl) rfl dX4_valueOf_37 (fun H locs hG hS => ?_)
    refine lv_ineg hx hb dX4_valueOf_40 ?_
    obtain rfl := Option.some.inj h
    exact g_iret X hr hlk hG hS dX4_valueOf_41
  · have h := ite_n h q1
    by_cases q3 : v2 = 1
    · have h := ite_y h q3
      refine lv_tableIn (tgt := 42) hx hb dX4_valueOf_1 (by rw [q3]; decide) (by rw [q3]; decide) (by rw [q3]; rfl) (by decide) ?_
      refine lv_iload_n hx hb dX4_valueOf_42 rfl (lv_at hl 1 rfl) ?_
      obtain ⟨r4, hcr4, h⟩ := bd_y h
      refine g_cSI (av := [.int v1]) (rest := []) X hG hS (ct_J6_bitCount_0f7a4 l z  hcr4) mt_J6_bitCount_0f7a4 ml_X4_86 rfl ⟨rfl, rfl, Nat.le_of_ble_eq_true rfl, Nat.le_of_ble_eq_true rfl⟩ ⟨Nat.le_refl 0, Nat.le_refl 0⟩ hl.1 (Nat.le_of_ble_eq_true rfl) rfl dX4_valueOf_43 (fun H locs hG hS => ?_)
      obtain rfl := Option.some.inj h
      exact g_iret X hr hlk hG hS dX4_valueOf_46
    · have h := ite_n h q3
      by_cases q5 : v2 = 2
      · have h := ite_y h q5
        refine lv_tableIn (tgt := 47) hx hb dX4_valueOf_1 (by rw [q5]; decide) (by rw [q5]; decide) (by rw [q5]; rfl) (by decide) ?_
        refine lv_aload_n hx hb dX4_valueOf_47 rfl (lv_at hl 0 rfl) ?_
        refine lv_iload_n hx hb dX4_valueOf_48 rfl (lv_at hl 1 rfl) ?_
        obtain ⟨r6, hcr6, h⟩ := bd_y h
        refine g_cVI (a := a) (ci := 4) (T := TX4) (N := 10) (av := [.int v1]) (rest := []) X hG hS (ct_X4_costOf l z k_a n_a hcr6) mt_X4_costOf ml_X4_120 rfl ⟨rfl, rfl, Nat.le_of_ble_eq_true rfl, Nat.le_of_ble_eq_true rfl⟩ ⟨Nat.le_refl 0, Nat.le_refl 0⟩ (nx_0 n_a) k_a (by decide) rfl hl.1 (Nat.le_of_ble_eq_true rfl) rfl dX4_valueOf_49 (fun H locs hG hS => ?_)
        refine lv_ineg hx hb dX4_valueOf_52 ?_
        obtain rfl := Option.some.inj h
        exact g_iret X hr hlk hG hS dX4_valueOf_53
      · have h := ite_n h q5
        by_cases q7 : v2 = 3
        · have h := ite_y h q7
          refine lv_tableIn (tgt := 61) hx hb dX4_valueOf_1 (by rw [q7]; decide) (by rw [q7]; decide) (by rw [q7]; rfl) (by decide) ?_
          refine lv_aload_n hx hb dX4_valueOf_61 rfl (lv_at hl 0 rfl) ?_
          refine lv_iload_n hx hb dX4_valueOf_62 rfl (lv_at hl 1 rfl) ?_
          obtain ⟨r8, hcr8, h⟩ := bd_y h
          refine g_cVI (a := a) (ci := 4) (T := TX4) (N := 10) (av := [.int v1]) (rest := []) X hG hS (ct_X4_goodOf l z k_a n_a hcr8) mt_X4_goodOf ml_X4_123 rfl ⟨rfl, rfl, Nat.le_of_ble_eq_true rfl, Nat.le_of_ble_eq_true rfl⟩ ⟨Nat.le_refl 0, Nat.le_refl 0⟩ (nx_0 n_a) k_a (by decide) rfl hl.1 (Nat.le_of_ble_eq_true rfl) rfl dX4_valueOf_63 (fun H locs hG hS => ?_)
          obtain rfl := Option.some.inj h
          exact g_iret X hr hlk hG hS dX4_valueOf_66
        · have h := ite_n h q7
          by_cases q9 : v2 = 4
          · have h := ite_y h q9
            refine lv_tableIn (tgt := 54) hx hb dX4_valueOf_1 (by rw [q9]; decide) (by rw [q9]; decide) (by rw [q9]; rfl) (by decide) ?_
            refine lv_aload_n hx hb dX4_valueOf_54 rfl (lv_at hl 0 rfl) ?_
            refine lv_iload_n hx hb dX4_valueOf_55 rfl (lv_at hl 1 rfl) ?_
            obtain ⟨r10, hcr10, h⟩ := bd_y h
            refine g_cVI (a := a) (ci := 4) (T := TX4) (N := 10) (av := [.int v1]) (rest := []) X hG hS (ct_X4_goodOf l z k_a n_a hcr10) mt_X4_goodOf ml_X4_123 rfl ⟨rfl, rfl, Nat.le_of_ble_eq_true rfl, Nat.le_of_ble_eq_true rfl⟩ ⟨Nat.le_refl 0, Nat.le_refl 0⟩ (nx_0 n_a) k_a (by decide) rfl hl.1 (Nat.le_of_ble_eq_true rfl) rfl dX4_valueOf_56 (fun H locs hG hS => ?_)
            refine lv_ineg hx hb dX4_valueOf_59 ?_
            obtain rfl := Option.some.inj h
            exact g_iret X hr hlk hG hS dX4_valueOf_60
          · have h := ite_n h q9
            refine lv_tableOut (tgt := 61) hx hb dX4_valueOf_1 (by have eq1 := lv_neT (a := 0) q1 (by decide); have eq3 := lv_neT (a := 1) q3 (by decide); have eq5 := lv_neT (a := 2) q5 (by decide); have eq7 := lv_neT (a := 3) q7 (by decide); have eq9 := lv_neT (a := 4) q9 (by decide); omega) (by decide) ?_
            refine lv_aload_n hx hb dX4_valueOf_61 rfl (lv_at hl 0 rfl) ?_
            refine lv_iload_n hx hb dX4_valueOf_62 rfl (lv_at hl 1 rfl) ?_
            obtain ⟨r11, hcr11, h⟩ := bd_y h
            refine g_cVI (a := a) (ci := 4) (T := TX4) (N := 10) (av := [.int v1]) (rest := []) X hG hS (ct_X4_goodOf l z k_a n_a hcr11) mt_X4_goodOf ml_X4_123 rfl ⟨rfl, rfl, Nat.le_of_ble_eq_true rfl, Nat.le_of_ble_eq_true rfl⟩ ⟨Nat.le_refl 0, Nat.le_refl 0⟩ (nx_0 n_a) k_a (by decide) rfl hl.1 (Nat.le_of_ble_eq_true rfl) rfl dX4_valueOf_63 (fun H locs hG hS => ?_)
            obtain rfl := Option.some.inj h
            exact g_iret X hr hlk hG hS dX4_valueOf_66
set_option maxRecDepth 100000 in
set_option maxHeartbeats 4000000 in
theorem wX4_choose_8 {N : Nat} {p : Program} {l : Launch} {e : Env} {s : State} {m : MethodId} {args : Array Value} {below : List Frame} {meth : Method} {c : Code} {z : gZ} {M : Mem} {a : Nat} {u1 : Int32} {u2 : Int32} {o : Int32} (X : gX p m c cX4_choose 7 s args RX4 z) (hr : meth.sig.returnType = (some .int)) (hlk : meth.locks = false) (k_a : kd a = 4) (n_a : a + 8 ≤ gn z)  : ∀ (n : Nat) (w3 : Int32) (w4 : Int32) (w5 : Int32) (H : Heap) (locs : List Loc) (ls : Array Slot), fX4_choose_8 N M a u1 u2  n w3 w4 w5 = some o → gW z M H → va_S (gA z) s.heap H locs → lv_has ls 7 [(0, .ref (gad z a)), (1, .int u1), (2, .int u2), (3, .int w3), (4, .int w4), (5, .int w5)] → W p l e { frames := 4, cells := 0, slots := 0, locals := 91 } s m args below meth c H locs 0 0 (MQ below (va_Qi (fun r' (_ : Unit) => r' = o) (fun _ t => gW z M t.heap) (gA z)) args s 0 0 (gA z)) (F0 m 8 ls []) := by
  have hx := X.1
  have hb := X.2.1
  intro n
  induction n with
  | zero => intro w3 w4 w5 H locs ls h; cases h
  | succ n ih =>
    intro w3 w4 w5 H locs ls h hG hS hl
    rw [fX4_choose_8] at h
    refine lv_iload hx hb dX4_choose_8 (lv_at hl 5 rfl) ?_
    refine lv_aload_n hx hb dX4_choose_10 rfl (lv_at hl 0 rfl) ?_
    obtain ⟨r1, hcr1, h⟩ := bd_y h
    refine g_cVI (a := a) (ci := 4) (T := TX4) (N := 10) (av := []) (rest := [.int w5]) X hG hS (ct_X4_sets l z k_a n_a hcr1) mt_X4_sets ml_X4_59 rfl ⟨rfl, rfl, Nat.le_of_ble_eq_true rfl, Nat.le_of_ble_eq_true rfl⟩ ⟨Nat.le_refl 0, Nat.le_refl 0⟩ (nx_0 n_a) k_a (by decide) rfl hl.1 (Nat.le_of_ble_eq_true rfl) rfl dX4_choose_11 (fun H locs hG hS => ?_)
    refine lv_icmp_ge (tgt := 79) hx hb dX4_choose_14 (by decide) (fun q2 => ?_) (fun q2 => ?_)
    · have h := ite_y h q2
      refine lv_iload_n hx hb dX4_choose_79 rfl (lv_at hl 3 rfl) ?_
      obtain rfl := Option.some.inj h
      exact g_iret X hr hlk hG hS dX4_choose_80
    · have h := ite_n h q2
      refine lv_iload_n hx hb dX4_choose_17 rfl (lv_at hl 2 rfl) ?_
      refine lv_if_eq (tgt := 33) hx hb dX4_choose_18 (by decide) (fun q3 => ?_) (fun q3 => ?_)
      · have h := ite_y h q3
        refine lv_aload_n hx hb dX4_choose_33 rfl (lv_at hl 0 rfl) ?_
        refine lv_iload hx hb dX4_choose_34 (lv_at hl 5 rfl) ?_
        obtain ⟨r4, hcr4, h⟩ := bd_y h
        refine g_cVI (a := a) (ci := 4) (T := TX4) (N := 10) (av := [.int w5]) (rest := []) X hG hS (ct_X4_hasMustsIn l z k_a n_a hcr4) mt_X4_hasMustsIn ml_X4_114 rfl ⟨rfl, rfl, Nat.le_of_ble_eq_true rfl, Nat.le_of_ble_eq_true rfl⟩ ⟨Nat.le_refl 0, Nat.le_refl 0⟩ (nx_0 n_a) k_a (by decide) rfl hl.1 (Nat.le_of_ble_eq_true rfl) rfl dX4_choose_36 (fun H locs hG hS => ?_)
        refine lv_if_ne (tgt := 45) hx hb dX4_choose_39 (by decide) (fun q5 => ?_) (fun q5 => ?_)
        · have h := ite_n h q5
          refine lv_aload_n hx hb dX4_choose_45 rfl (lv_at hl 0 rfl) ?_
          refine lv_iload hx hb dX4_choose_46 (lv_at hl 5 rfl) ?_
          refine lv_iload_n hx hb dX4_choose_48 rfl (lv_at hl 1 rfl) ?_
          obtain ⟨r6, hcr6, h⟩ := bd_y h
          refine g_cVI (a := a) (ci := 4) (T := TX4) (N := 10) (av := [.int w5, .int u1]) (rest := []) X hG hS (ct_X4_valueOf l z k_a n_a hcr6) mt_X4_valueOf ml_X4_117 rfl ⟨rfl, rfl, Nat.le_of_ble_eq_true rfl, Nat.le_of_ble_eq_true rfl⟩ ⟨Nat.le_refl 0, Nat.le_refl 0⟩ (nx_0 n_a) k_a (by decide) rfl hl.1 (Nat.le_of_ble_eq_true rfl) rfl dX4_choose_49 (fun H locs hG hS => ?_)
          refine lv_istore (lv' := [(6, .int r6), (0, .ref (gad z a)), (1, .int u1), (2, .int u2), (3, .int w3), (4, .int w4), (5, .int w5)]) hx hb dX4_choose_52 hl (by decide) rfl (fun ls hl => ?_)
          refine lv_iload_n hx hb dX4_choose_54 rfl (lv_at hl 4 rfl) ?_
          refine lv_iconst (v := (-1)) hx hb dX4_choose_55 (by decide) ?_
          refine lv_icmp_eq (tgt := 66) hx hb dX4_choose_56 (by decide) (fun q7 => ?_) (fun q7 => ?_)
          · have h := ite_y h q7
            refine lv_iload hx hb dX4_choose_66 (lv_at hl 6 rfl) ?_
            refine lv_istore_n (lv' := [(3, .int w5), (6, .int r6), (0, .ref (gad z a)), (1, .int u1), (2, .int u2), (4, .int w4), (5, .int w5)]) hx hb dX4_choose_68 rfl hl (by decide) rfl (fun ls hl => ?_)
            refine lv_iload hx hb dX4_choose_69 (lv_at hl 1 rfl) ?_
            refine lv_istore (lv' := [(4, .int r6), (3, .int w5), (6, .int r6), (0, .ref (gad z a)), (1, .int u1), (2, .int u2), (5, .int w5)]) hx hb dX4_choose_71 hl (by decide) rfl (fun ls hl => ?_)
            refine lv_iinc (v := (w5 + 1)) (lv' := [(5, .int (w5 + 1)), (4, .int r6), (3, .int w5), (6, .int r6), (0, .ref (gad z a)), (1, .int u1), (2, .int u2)]) hx hb dX4_choose_73 hl (k := 6) rfl rfl (by decide) rfl (fun ls hl => ?_)
            refine lv_goto (tgt := 8) hx hb dX4_choose_76 (by decide) ?_
            exact ih w5 r6 (w5 + 1) _ _ _ h hG hS (lv_sub hl [4, 5, 6, 2, 1, 0] rfl)
          · have h := ite_n h q7
            refine lv_iload hx hb dX4_choose_59 (lv_at hl 0 rfl) ?_
            refine lv_iload hx hb dX4_choose_61 (lv_at hl 5 rfl) ?_
            refine lv_icmp_le (tgt := 73) hx hb dX4_choose_63 (by decide) (fun q8 => ?_) (fun q8 => ?_)
            · have h := ite_y h q8
              refine lv_iinc (v := (w5 + 1)) (lv' := [(5, .int (w5 + 1)), (6, .int r6), (0, .ref (gad z a)), (1, .int u1), (2, .int u2), (3, .int w3), (4, .int w4)]) hx hb dX4_choose_73 hl (k := 6) rfl rfl (by decide) rfl (fun ls hl => ?_)
              refine lv_goto (tgt := 8) hx hb dX4_choose_76 (by decide) ?_
              exact ih w3 w4 (w5 + 1) _ _ _ h hG hS (lv_sub hl [2, 3, 4, 5, 6, 0] rfl)
            · have h := ite_n h q8
              refine lv_iload hx hb dX4_choose_66 (lv_at hl 6 rfl) ?_
              refine lv_istore_n (lv' := [(3, .int w5), (6, .int r6), (0, .ref (gad z a)), (1, .int u1), (2, .int u2), (4, .int w4), (5, .int w5)]) hx hb dX4_choose_68 rfl hl (by decide) rfl (fun ls hl => ?_)
              refine lv_iload hx hb dX4_choose_69 (lv_at hl 1 rfl) ?_
              refine lv_istore (lv' := [(4, .int r6), (3, .int w5), (6, .int r6), (0, .ref (gad z a)), (1, .int u1), (2, .int u2), (5, .int w5)]) hx hb dX4_choose_71 hl (by decide) rfl (fun ls hl => ?_)
              refine lv_iinc (v := (w5 + 1)) (lv' := [(5, .int (w5 + 1)), (4, .int r6), (3, .int w5), (6, .int r6), (0, .ref (gad z a)), (1, .int u1), (2, .int u2)]) hx hb dX4_choose_73 hl (k := 6) rfl rfl (by decide) rfl (fun ls hl => ?_)
              refine lv_goto (tgt := 8) hx hb dX4_choose_76 (by decide) ?_
              exact ih w5 r6 (w5 + 1) _ _ _ h hG hS (lv_sub hl [4, 5, 6, 2, 1, 0] rfl)
        · have h := ite_y h q5
          refine lv_goto (tgt := 73) hx hb dX4_choose_42 (by decide) ?_
          refine lv_iinc (v := (w5 + 1)) (lv' := [(5, .int (w5 + 1)), (0, .ref (gad z a)), (1, .int u1), (2, .int u2), (3, .int w3), (4, .int w4)]) hx hb dX4_choose_73 hl (k := 5) rfl rfl (by decide) rfl (fun ls hl => ?_)
          refine lv_goto (tgt := 8) hx hb dX4_choose_76 (by decide) ?_
          exact ih w3 w4 (w5 + 1) _ _ _ h hG hS (lv_sub hl [1, 2, 3, 4, 5, 0] rfl)
      · have h := ite_n h q3
        refine lv_aload_n hx hb dX4_choose_21 rfl (lv_at hl 0 rfl) ?_
        refine lv_iload hx hb dX4_choose_22 (lv_at hl 5 rfl) ?_
        obtain ⟨r9, hcr9, h⟩ := bd_y h
        refine g_cVI (a := a) (ci := 4) (T := TX4) (N := 10) (av := [.int w5]) (rest := []) X hG hS (ct_X4_isRest l z k_a n_a hcr9) mt_X4_isRest ml_X4_111 rfl ⟨rfl, rfl, Nat.le_of_ble_eq_true rfl, Nat.le_of_ble_eq_true rfl⟩ ⟨Nat.le_refl 0, Nat.le_refl 0⟩ (nx_0 n_a) k_a (by decide) rfl hl.1 (Nat.le_of_ble_eq_true rfl) rfl dX4_choose_24 (fun H locs hG hS => ?_)
        refine lv_if_ne (tgt := 45) hx hb dX4_choose_27 (by decide) (fun q10 => ?_) (fun q10 => ?_)
        · have h := ite_n h q10
          refine lv_aload_n hx hb dX4_choose_45 rfl (lv_at hl 0 rfl) ?_
          refine lv_iload hx hb dX4_choose_46 (lv_at hl 5 rfl) ?_
          refine lv_iload_n hx hb dX4_choose_48 rfl (lv_at hl 1 rfl) ?_
          obtain ⟨r11, hcr11, h⟩ := bd_y h
          refine g_cVI (a := a) (ci := 4) (T := TX4) (N := 10) (av := [.int w5, .int u1]) (rest := []) X hG hS (ct_X4_valueOf l z k_a n_a hcr11) mt_X4_valueOf ml_X4_117 rfl ⟨rfl, rfl, Nat.le_of_ble_eq_true rfl, Nat.le_of_ble_eq_true rfl⟩ ⟨Nat.le_refl 0, Nat.le_refl 0⟩ (nx_0 n_a) k_a (by decide) rfl hl.1 (Nat.le_of_ble_eq_true rfl) rfl dX4_choose_49 (fun H locs hG hS => ?_)
          refine lv_istore (lv' := [(6, .int r11), (0, .ref (gad z a)), (1, .int u1), (2, .int u2), (3, .int w3), (4, .int w4), (5, .int w5)]) hx hb dX4_choose_52 hl (by decide) rfl (fun ls hl => ?_)
          refine lv_iload_n hx hb dX4_choose_54 rfl (lv_at hl 4 rfl) ?_
          refine lv_iconst (v := (-1)) hx hb dX4_choose_55 (by decide) ?_
          refine lv_icmp_eq (tgt := 66) hx hb dX4_choose_56 (by decide) (fun q12 => ?_) (fun q12 => ?_)
          · have h := ite_y h q12
            refine lv_iload hx hb dX4_choose_66 (lv_at hl 6 rfl) ?_
            refine lv_istore_n (lv' := [(3, .int w5), (6, .int r11), (0, .ref (gad z a)), (1, .int u1), (2, .int u2), (4, .int w4), (5, .int w5)]) hx hb dX4_choose_68 rfl hl (by decide) rfl (fun ls hl => ?_)
            refine lv_iload hx hb dX4_choose_69 (lv_at hl 1 rfl) ?_
            refine lv_istore (lv' := [(4, .int r11), (3, .int w5), (6, .int r11), (0, .ref (gad z a)), (1, .int u1), (2, .int u2), (5, .int w5)]) hx hb dX4_choose_71 hl (by decide) rfl (fun ls hl => ?_)
            refine lv_iinc (v := (w5 + 1)) (lv' := [(5, .int (w5 + 1)), (4, .int r11), (3, .int w5), (6, .int r11), (0, .ref (gad z a)), (1, .int u1), (2, .int u2)]) hx hb dX4_choose_73 hl (k := 6) rfl rfl (by decide) rfl (fun ls hl => ?_)
            refine lv_goto (tgt := 8) hx hb dX4_choose_76 (by decide) ?_
            exact ih w5 r11 (w5 + 1) _ _ _ h hG hS (lv_sub hl [4, 5, 6, 2, 1, 0] rfl)
          · have h := ite_n h q12
            refine lv_iload hx hb dX4_choose_59 (lv_at hl 0 rfl) ?_
            refine lv_iload hx hb dX4_choose_61 (lv_at hl 5 rfl) ?_
            refine lv_icmp_le (tgt := 73) hx hb dX4_choose_63 (by decide) (fun q13 => ?_) (fun q13 => ?_)
            · have h := ite_y h q13
              refine lv_iinc (v := (w5 + 1)) (lv' := [(5, .int (w5 + 1)), (6, .int r11), (0, .ref (gad z a)), (1, .int u1), (2, .int u2), (3, .int w3), (4, .int w4)]) hx hb dX4_choose_73 hl (k := 6) rfl rfl (by decide) rfl (fun ls hl => ?_)
              refine lv_goto (tgt := 8) hx hb dX4_choose_76 (by decide) ?_
              exact ih w3 w4 (w5 + 1) _ _ _ h hG hS (lv_sub hl [2, 3, 4, 5, 6, 0] rfl)
            · have h := ite_n h q13
              refine lv_iload hx hb dX4_choose_66 (lv_at hl 6 rfl) ?_
              refine lv_istore_n (lv' := [(3, .int w5), (6, .int r11), (0, .ref (gad z a)), (1, .int u1), (2, .int u2), (4, .int w4), (5, .int w5)]) hx hb dX4_choose_68 rfl hl (by decide) rfl (fun ls hl => ?_)
              refine lv_iload hx hb dX4_choose_69 (lv_at hl 1 rfl) ?_
              refine lv_istore (lv' := [(4, .int r11), (3, .int w5), (6, .int r11), (0, .ref (gad z a)), (1, .int u1), (2, .int u2), (5, .int w5)]) hx hb dX4_choose_71 hl (by decide) rfl (fun ls hl => ?_)
              refine lv_iinc (v := (w5 + 1)) (lv' := [(5, .int (w5 + 1)), (4, .int r11), (3, .int w5), (6, .int r11), (0, .ref (gad z a)), (1, .int u1), (2, .int u2)]) hx hb dX4_choose_73 hl (k := 6) rfl rfl (by decide) rfl (fun ls hl => ?_)
              refine lv_goto (tgt := 8) hx hb dX4_choose_76 (by decide) ?_
              exact ih w5 r11 (w5 + 1) _ _ _ h hG hS (lv_sub hl [4, 5, 6, 2, 1, 0] rfl)
        · have h := ite_y h q10
          refine lv_goto (tgt := 73) hx hb dX4_choose_30 (by decide) ?_
          refine lv_iinc (v := (w5 + 1)) (lv' := [(5, .int (w5 + 1)), (0, .ref (gad z a)), (1, .int u1), (2, .int u2), (3, .int w3), (4, .int w4)]) hx hb dX4_choose_73 hl (k := 5) rfl rfl (by decide) rfl (fun ls hl => ?_)
          refine lv_goto (tgt := 8) hx hb dX4_choose_76 (by decide) ?_
          exact ih w3 w4 (w5 + 1) _ _ _ h hG hS (lv_sub hl [1, 2, 3, 4, 5, 0] rfl)
set_option maxRecDepth 100000 in
set_option maxHeartbeats 4000000 in
theorem ct_X4_choose (l : Launch) (z : gZ) {N : Nat} {M : Mem} {a : Nat} {v1 : Int32} {v2 : Int32} {o : Int32} (k_a : kd a = 4) (n_a : a + 8 ≤ gn z) (h : fX4_choose N M a v1 v2 = some o) : CtI l z yX4_choose cX4_choose 7 (some .int) { frames := 4, cells := 0, slots := 0, locals := 91 } [.ref (gad z a), .int v1, .int v2] M o M := by
  refine Ct_of rfl (Nat.le_of_ble_eq_true rfl) ?_
  intro p e s m below meth c ls X hr hlk hG hS hl
  have X : gX p m c _ _ s _ RX4 z := X
  have hl : lv_has ls 7 [(0, .ref (gad z a)), (1, .int v1), (2, .int v2)] := hl
  have hx := X.1
  have hb := X.2.1
  unfold fX4_choose at h
  refine lv_iconst (v := (-1)) hx hb dX4_choose_0 (by decide) ?_
  refine lv_istore_n (lv' := [(3, .int (-1)), (0, .ref (gad z a)), (1, .int v1), (2, .int v2)]) hx hb dX4_choose_1 rfl hl (by decide) rfl (fun ls hl => ?_)
  refine lv_iconst (v := 0) hx hb dX4_choose_2 (by decide) ?_
  refine lv_istore (lv' := [(4, .int 0), (3, .int (-1)), (0, .ref (gad z a)), (1, .int v1), (2, .int v2)]) hx hb dX4_choose_3 hl (by decide) rfl (fun ls hl => ?_)
  refine lv_iconst (v := 0) hx hb dX4_choose_5 (by decide) ?_
  refine lv_istore (lv' := [(5, .int 0), (4, .int 0), (3, .int (-1)), (0, .ref (gad z a)), (1, .int v1), (2, .int v2)]) hx hb dX4_choose_6 hl (by decide) rfl (fun ls hl => ?_)
  refine wX4_choose_8 X hr hlk k_a n_a _ _ _ _ _ _ _ h hG hS (lv_sub hl [3, 4, 5, 2, 1, 0] rfl)
set_option maxRecDepth 100000 in
set_option maxHeartbeats 4000000 in
theorem ct_X0_see (l : Launch) (z : gZ) {N : Nat} {M : Mem} {a : Nat} {v1 : Int32} {o : Mem} (k_a : kd a = 0) (n_a : a + 2 ≤ gn z) (h : fX0_see N M a v1 = some o) : CtV l z yX0_see cX0_see 2 none { frames := 0, cells := 0, slots := 0, locals := 0 } [.ref (gad z a), .int v1] M o := by
  refine Ct_of rfl (Nat.le_of_ble_eq_true rfl) ?_
  intro p e s m below meth c ls X hr hlk hG hS hl
  have X : gX p m c _ _ s _ RX0 z := X
  have hl : lv_has ls 2 [(0, .ref (gad z a)), (1, .int v1)] := hl
  have hx := X.1
  have hb := X.2.1
  unfold fX0_see at h
  refine lv_iload_n hx hb dX0_see_0 rfl (lv_at hl 1 rfl) ?_
  refine lv_if_lt (tgt := 29) hx hb dX0_see_1 (by decide) (fun q1 => ?_) (fun q1 => ?_)
  · have h := ite_y h q1
    obtain rfl := Option.some.inj h
    exact g_vret X hr hlk hG hS dX0_see_29
  · have h := ite_n h q1
    refine lv_iload_n hx hb dX0_see_4 rfl (lv_at hl 1 rfl) ?_
    refine lv_sipush (v := 4096) hx hb dX0_see_5 (by decide) ?_
    refine lv_icmp_ge (tgt := 29) hx hb dX0_see_8 (by decide) (fun q2 => ?_) (fun q2 => ?_)
    · have h := ite_y h q2
      obtain rfl := Option.some.inj h
      exact g_vret X hr hlk hG hS dX0_see_29
    · have h := ite_n h q2
      refine lv_aload_n hx hb dX0_see_11 rfl (lv_at hl 0 rfl) ?_
      refine gf_X0_0 X hG (nx_0 n_a) k_a fl_X0_11 dX0_see_12 ?_
      refine lv_iload_n hx hb dX0_see_15 rfl (lv_at hl 1 rfl) ?_
      refine lv_bipush (v := 64) hx hb dX0_see_16 (by decide) ?_
      refine lv_idiv hx hb dX0_see_18 (by decide) ?_
      refine lv_dup2_11 hx hb dX0_see_19 rfl rfl ?_
      obtain ⟨i3, h⟩ := gd_y h
      refine g_lald X hG (nx_a (a := a) (k := 1) (n := 2) n_a (Nat.le_of_ble_eq_true rfl)) (kx_0_1 k_a) (by decide) i3 dX0_see_20 ?_
      refine lv_lconst (v := 1) hx hb dX0_see_21 (by decide) ?_
      refine lv_iload_n hx hb dX0_see_22 rfl (lv_at hl 1 rfl) ?_
      refine lv_bipush (v := 64) hx hb dX0_see_23 (by decide) ?_
      refine lv_irem hx hb dX0_see_25 (by decide) ?_
      refine lv_lshl hx hb dX0_see_26 rfl ?_
      refine lv_lor hx hb dX0_see_27 ?_
      refine g_last X hG hS (nx_a (a := a) (k := 1) (n := 2) n_a (Nat.le_of_ble_eq_true rfl)) (kx_0_1 k_a) (by decide) i3 dX0_see_28 (fun H locs hG hS => ?_)
      obtain ⟨M4, eM4⟩ : ∃ y, y = sJ M (a + 1) ((v1 / 64) : Int32).toNatClampNeg ((M.2 (a + 1) ((v1 / 64) : Int32).toNatClampNeg) ||| (1 <<< (((v1 - v1 / 64 * 64) : Int32).toInt64 &&& 63))) := ⟨_, rfl⟩
      rw [← eM4] at hG
      have h := nm_y h M4 eM4
      obtain rfl := Option.some.inj h
      exact g_vret X hr hlk hG hS dX0_see_29
set_option maxRecDepth 100000 in
set_option maxHeartbeats 4000000 in
theorem ct_X4_wouldChange (l : Launch) (z : gZ) {N : Nat} {M : Mem} {a : Nat} {v1 : Int32} {v2 : Int32} {o : Int32} (k_a : kd a = 4) (n_a : a + 8 ≤ gn z) (h : fX4_wouldChange N M a v1 v2 = some o) : CtI l z yX4_wouldChange cX4_wouldChange 3 (some .boolean) { frames := 2, cells := 0, slots := 0, locals := 46 } [.ref (gad z a), .int v1, .int v2] M o M := by
  refine Ct_of rfl (Nat.le_of_ble_eq_true rfl) ?_
  intro p e s m below meth c ls X hr hlk hG hS hl
  have X : gX p m c _ _ s _ RX4 z := X
  have hl : lv_has ls 3 [(0, .ref (gad z a)), (1, .int v1), (2, .int v2)] := hl
  have hx := X.1
  have hb := X.2.1
  unfold fX4_wouldChange at h
  refine lv_aload_n hx hb dX4_wouldChange_0 rfl (lv_at hl 0 rfl) ?_
  refine lv_iload_n hx hb dX4_wouldChange_1 rfl (lv_at hl 1 rfl) ?_
  obtain ⟨r1, hcr1, h⟩ := bd_y h
  refine g_cVI (a := a) (ci := 4) (T := TX4) (N := 10) (av := [.int v1]) (rest := []) X hG hS (ct_X4_isMust l z k_a n_a hcr1) mt_X4_isMust ml_X4_99 rfl ⟨rfl, rfl, Nat.le_of_ble_eq_true rfl, Nat.le_of_ble_eq_true rfl⟩ ⟨Nat.le_refl 0, Nat.le_refl 0⟩ (nx_0 n_a) k_a (by decide) rfl hl.1 (Nat.le_of_ble_eq_true rfl) rfl dX4_wouldChange_2 (fun H locs hG hS => ?_)
  refine lv_if_ne (tgt := 21) hx hb dX4_wouldChange_5 (by decide) (fun q2 => ?_) (fun q2 => ?_)
  · have h := ite_n h q2
    refine lv_iconst (v := 0) hx hb dX4_wouldChange_21 (by decide) ?_
    obtain rfl := Option.some.inj h
    exact g_zret (zn (Or.inl rfl)) X hr hlk hG hS dX4_wouldChange_22
  · have h := ite_y h q2
    refine lv_aload_n hx hb dX4_wouldChange_8 rfl (lv_at hl 0 rfl) ?_
    refine lv_iload_n hx hb dX4_wouldChange_9 rfl (lv_at hl 1 rfl) ?_
    refine lv_iload_n hx hb dX4_wouldChange_10 rfl (lv_at hl 2 rfl) ?_
    obtain ⟨r3, hcr3, h⟩ := bd_y h
    refine g_cVI (a := a) (ci := 4) (T := TX4) (N := 10) (av := [.int v1, .int v2]) (rest := []) X hG hS (ct_X4_gainByChange l z k_a n_a hcr3) mt_X4_gainByChange ml_X4_102 rfl ⟨rfl, rfl, Nat.le_of_ble_eq_true rfl, Nat.le_of_ble_eq_true rfl⟩ ⟨Nat.le_refl 0, Nat.le_refl 0⟩ (nx_0 n_a) k_a (by decide) rfl hl.1 (Nat.le_of_ble_eq_true rfl) rfl dX4_wouldChange_11 (fun H locs hG hS => ?_)
    refine lv_if_le (tgt := 21) hx hb dX4_wouldChange_14 (by decide) (fun q4 => ?_) (fun q4 => ?_)
    · have h := ite_y h q4
      refine lv_iconst (v := 0) hx hb dX4_wouldChange_21 (by decide) ?_
      obtain rfl := Option.some.inj h
      exact g_zret (zn (Or.inl rfl)) X hr hlk hG hS dX4_wouldChange_22
    · have h := ite_n h q4
      refine lv_iconst (v := 1) hx hb dX4_wouldChange_17 (by decide) ?_
      refine lv_goto (tgt := 22) hx hb dX4_wouldChange_18 (by decide) ?_
      obtain rfl := Option.some.inj h
      exact g_zret (zn (Or.inr rfl)) X hr hlk hG hS dX4_wouldChange_22
set_option maxRecDepth 100000 in
set_option maxHeartbeats 4000000 in
theorem wX4_afterRound_4 {N : Nat} {p : Program} {l : Launch} {e : Env} {s : State} {m : MethodId} {args : Array Value} {below : List Frame} {meth : Method} {c : Code} {z : gZ} {M : Mem} {a : Nat} {o : Int32} (X : gX p m c cX4_afterRound 4 s args RX4 z) (hr : meth.sig.returnType = (some .int)) (hlk : meth.locks = false) (k_a : kd a = 4) (n_a : a + 8 ≤ gn z)  : ∀ (n : Nat) (w2 : Int32) (w3 : Int32) (H : Heap) (locs : List Loc) (ls : Array Slot), fX4_afterRound_4 N M a  n w2 w3 = some o → gW z M H → va_S (gA z) s.heap H locs → lv_has ls 4 [(0, .ref (gad z a)), (2, .int w2), (3, .int w3)] → W p l e { frames := 3, cells := 0, slots := 0, locals := 68 } s m args below meth c H locs 0 0 (MQ below (va_Qi (fun r' (_ : Unit) => r' = o) (fun _ t => gW z M t.heap) (gA z)) args s 0 0 (gA z)) (F0 m 4 ls []) := by
  have hx := X.1
  have hb := X.2.1
  intro n
  induction n with
  | zero => intro w2 w3 H locs ls h; cases h
  | succ n ih =>
    intro w2 w3 H locs ls h hG hS hl
    rw [fX4_afterRound_4] at h
    refine lv_iload_n hx hb dX4_afterRound_4 rfl (lv_at hl 2 rfl) ?_
    refine lv_aload_n hx hb dX4_afterRound_5 rfl (lv_at hl 0 rfl) ?_
    refine gf_X4_7 X hG (nx_0 n_a) k_a fl_X4_33 dX4_afterRound_6 ?_
    refine lv_icmp_ge (tgt := 33) hx hb dX4_afterRound_9 (by decide) (fun q1 => ?_) (fun q1 => ?_)
    · have h := ite_y h q1
      refine lv_iload_n hx hb dX4_afterRound_33 rfl (lv_at hl 1 rfl) ?_
      obtain rfl := Option.some.inj h
      exact g_iret X hr hlk hG hS dX4_afterRound_34
    · have h := ite_n h q1
      refine lv_aload_n hx hb dX4_afterRound_12 rfl (lv_at hl 0 rfl) ?_
      refine lv_iload_n hx hb dX4_afterRound_13 rfl (lv_at hl 2 rfl) ?_
      refine lv_iload_n hx hb dX4_afterRound_14 rfl (lv_at hl 1 rfl) ?_
      obtain ⟨r2, hcr2, h⟩ := bd_y h
      refine g_cVI (a := a) (ci := 4) (T := TX4) (N := 10) (av := [.int w3, .int w2]) (rest := []) X hG hS (ct_X4_wouldChange l z k_a n_a hcr2) mt_X4_wouldChange ml_X4_105 rfl ⟨rfl, rfl, Nat.le_of_ble_eq_true rfl, Nat.le_of_ble_eq_true rfl⟩ ⟨Nat.le_refl 0, Nat.le_refl 0⟩ (nx_0 n_a) k_a (by decide) rfl hl.1 (Nat.le_of_ble_eq_true rfl) rfl dX4_afterRound_15 (fun H locs hG hS => ?_)
      refine lv_if_eq (tgt := 27) hx hb dX4_afterRound_18 (by decide) (fun q3 => ?_) (fun q3 => ?_)
      · have h := ite_y h q3
        refine lv_iinc (v := (w3 + 1)) (lv' := [(3, .int (w3 + 1)), (0, .ref (gad z a)), (2, .int w2)]) hx hb dX4_afterRound_27 hl (k := 2) rfl rfl (by decide) rfl (fun ls hl => ?_)
        refine lv_goto (tgt := 4) hx hb dX4_afterRound_30 (by decide) ?_
        exact ih w2 (w3 + 1) _ _ _ h hG hS (lv_sub hl [1, 2, 0] rfl)
      · have h := ite_n h q3
        refine lv_iload_n hx hb dX4_afterRound_21 rfl (lv_at hl 1 rfl) ?_
        refine lv_iconst (v := 1) hx hb dX4_afterRound_22 (by decide) ?_
        refine lv_iload_n hx hb dX4_afterRound_23 rfl (lv_at hl 2 rfl) ?_
        refine lv_ishl hx hb dX4_afterRound_24 ?_
        refine lv_ixor hx hb dX4_afterRound_25 ?_
        refine lv_topi (fun x4 ex4 => ?_)
        have h := nm_y h x4 ex4
        refine lv_istore_n (lv' := [(2, .int x4), (0, .ref (gad z a)), (3, .int w3)]) hx hb dX4_afterRound_26 rfl hl (by decide) rfl (fun ls hl => ?_)
        refine lv_iinc (v := (w3 + 1)) (lv' := [(3, .int (w3 + 1)), (2, .int x4), (0, .ref (gad z a))]) hx hb dX4_afterRound_27 hl (k := 2) rfl rfl (by decide) rfl (fun ls hl => ?_)
        refine lv_goto (tgt := 4) hx hb dX4_afterRound_30 (by decide) ?_
        exact ih x4 (w3 + 1) _ _ _ h hG hS (lv_sub hl [2, 1, 0] rfl)
set_option maxRecDepth 100000 in
set_option maxHeartbeats 4000000 in
theorem ct_X4_afterRound (l : Launch) (z : gZ) {N : Nat} {M : Mem} {a : Nat} {v1 : Int32} {o : Int32} (k_a : kd a = 4) (n_a : a + 8 ≤ gn z) (h : fX4_afterRound N M a v1 = some o) : CtI l z yX4_afterRound cX4_afterRound 4 (some .int) { frames := 3, cells := 0, slots := 0, locals := 68 } [.ref (gad z a), .int v1] M o M := by
  refine Ct_of rfl (Nat.le_of_ble_eq_true rfl) ?_
  intro p e s m below meth c ls X hr hlk hG hS hl
  have X : gX p m c _ _ s _ RX4 z := X
  have hl : lv_has ls 4 [(0, .ref (gad z a)), (1, .int v1)] := hl
  have hx := X.1
  have hb := X.2.1
  unfold fX4_afterRound at h
  refine lv_iload_n hx hb dX4_afterRound_0 rfl (lv_at hl 1 rfl) ?_
  refine lv_istore_n (lv' := [(2, .int v1), (0, .ref (gad z a)), (1, .int v1)]) hx hb dX4_afterRound_1 rfl hl (by decide) rfl (fun ls hl => ?_)
  refine lv_iconst (v := 0) hx hb dX4_afterRound_2 (by decide) ?_
  refine lv_istore_n (lv' := [(3, .int 0), (2, .int v1), (0, .ref (gad z a)), (1, .int v1)]) hx hb dX4_afterRound_3 rfl hl (by decide) rfl (fun ls hl => ?_)
  refine wX4_afterRound_4 X hr hlk k_a n_a _ _ _ _ _ _ h hG hS (lv_sub hl [2, 1, 0] rfl)
set_option maxRecDepth 100000 in
set_option maxHeartbeats 4000000 in
theorem ct_X0_isSeen (l : Launch) (z : gZ) {N : Nat} {M : Mem} {a : Nat} {v1 : Int32} {o : Int32} (k_a : kd a = 0) (n_a : a + 2 ≤ gn z) (h : fX0_isSeen N M a v1 = some o) : CtI l z yX0_isSeen cX0_isSeen 2 (some .boolean) { frames := 0, cells := 0, slots := 0, locals := 0 } [.ref (gad z a), .int v1] M o M := by
  refine Ct_of rfl (Nat.le_of_ble_eq_true rfl) ?_
  intro p e s m below meth c ls X hr hlk hG hS hl
  have X : gX p m c _ _ s _ RX0 z := X
  have hl : lv_has ls 2 [(0, .ref (gad z a)), (1, .int v1)] := hl
  have hx := X.1
  have hb := X.2.1
  unfold fX0_isSeen at h
  refine lv_iload_n hx hb dX0_isSeen_0 rfl (lv_at hl 1 rfl) ?_
  refine lv_if_lt (tgt := 36) hx hb dX0_isSeen_1 (by decide) (fun q1 => ?_) (fun q1 => ?_)
  · have h := ite_y h q1
    refine lv_iconst (v := 0) hx hb dX0_isSeen_36 (by decide) ?_
    obtain rfl := Option.some.inj h
    exact g_zret (zn (Or.inl rfl)) X hr hlk hG hS dX0_isSeen_37
  · have h := ite_n h q1
    refine lv_iload_n hx hb dX0_isSeen_4 rfl (lv_at hl 1 rfl) ?_
    refine lv_sipush (v := 4096) hx hb dX0_isSeen_5 (by decide) ?_
    refine lv_icmp_ge (tgt := 36) hx hb dX0_isSeen_8 (by decide) (fun q2 => ?_) (fun q2 => ?_)
    · have h := ite_y h q2
      refine lv_iconst (v := 0) hx hb dX0_isSeen_36 (by decide) ?_
      obtain rfl := Option.some.inj h
      exact g_zret (zn (Or.inl rfl)) X hr hlk hG hS dX0_isSeen_37
    · have h := ite_n h q2
      refine lv_aload_n hx hb dX0_isSeen_11 rfl (lv_at hl 0 rfl) ?_
      refine gf_X0_0 X hG (nx_0 n_a) k_a fl_X0_11 dX0_isSeen_12 ?_
      refine lv_iload_n hx hb dX0_isSeen_15 rfl (lv_at hl 1 rfl) ?_
      refine lv_bipush (v := 64) hx hb dX0_isSeen_16 (by decide) ?_
      refine lv_idiv hx hb dX0_isSeen_18 (by decide) ?_
      obtain ⟨i3, h⟩ := gd_y h
      refine g_lald X hG (nx_a (a := a) (k := 1) (n := 2) n_a (Nat.le_of_ble_eq_true rfl)) (kx_0_1 k_a) (by decide) i3 dX0_isSeen_19 ?_
      refine lv_lconst (v := 1) hx hb dX0_isSeen_20 (by decide) ?_
      refine lv_iload_n hx hb dX0_isSeen_21 rfl (lv_at hl 1 rfl) ?_
      refine lv_bipush (v := 64) hx hb dX0_isSeen_22 (by decide) ?_
      refine lv_irem hx hb dX0_isSeen_24 (by decide) ?_
      refine lv_lshl hx hb dX0_isSeen_25 rfl ?_
      refine lv_land hx hb dX0_isSeen_26 ?_
      refine lv_lconst (v := 0) hx hb dX0_isSeen_27 (by decide) ?_
      refine W.lcmp hx hb dX0_isSeen_28 ?_
      refine lv_if_eq (tgt := 36) hx hb dX0_isSeen_29 (by decide) (fun q4 => ?_) (fun q4 => ?_)
      · have h := ite_y h q4
        refine lv_iconst (v := 0) hx hb dX0_isSeen_36 (by decide) ?_
        obtain rfl := Option.some.inj h
        exact g_zret (zn (Or.inl rfl)) X hr hlk hG hS dX0_isSeen_37
      · have h := ite_n h q4
        refine lv_iconst (v := 1) hx hb dX0_isSeen_32 (by decide) ?_
        refine lv_goto (tgt := 37) hx hb dX0_isSeen_33 (by decide) ?_
        obtain rfl := Option.some.inj h
        exact g_zret (zn (Or.inr rfl)) X hr hlk hG hS dX0_isSeen_37
set_option maxRecDepth 100000 in
set_option maxHeartbeats 4000000 in
theorem wX0_roundsBackTo_4 {N : Nat} {p : Program} {l : Launch} {e : Env} {s : State} {m : MethodId} {args : Array Value} {below : List Frame} {meth : Method} {c : Code} {z : gZ} {M : Mem} {b0 : Nat} {u1 : Int32} {o : Int32} (X : gX p m c cX0_roundsBackTo 4 s args RX0 z) (hr : meth.sig.returnType = (some .int)) (hlk : meth.locks = false) (k_b0 : kd b0 = 4) (n_b0 : b0 + 8 ≤ gn z)  : ∀ (n : Nat) (w2 : Int32) (w3 : Int32) (H : Heap) (locs : List Loc) (ls : Array Slot), fX0_roundsBackTo_4 N M b0 u1  n w2 w3 = some o → gW z M H → va_S (gA z) s.heap H locs → lv_has ls 4 [(0, .ref (gad z b0)), (1, .int u1), (2, .int w2), (3, .int w3)] → W p l e { frames := 4, cells := 0, slots := 0, locals := 91 } s m args below meth c H locs 0 0 (MQ below (va_Qi (fun r' (_ : Unit) => r' = o) (fun _ t => gW z M t.heap) (gA z)) args s 0 0 (gA z)) (F0 m 4 ls []) := by
  have hx := X.1
  have hb := X.2.1
  intro n
  induction n with
  | zero => intro w2 w3 H locs ls h; cases h
  | succ n ih =>
    intro w2 w3 H locs ls h hG hS hl
    rw [fX0_roundsBackTo_4] at h
    refine lv_iload_n hx hb dX0_roundsBackTo_4 rfl (lv_at hl 3 rfl) ?_
    refine lv_sipush (v := 4096) hx hb dX0_roundsBackTo_5 (by decide) ?_
    refine lv_icmp_gt (tgt := 30) hx hb dX0_roundsBackTo_8 (by decide) (fun q1 => ?_) (fun q1 => ?_)
    · have h := ite_y h q1
      refine lv_iconst (v := 0) hx hb dX0_roundsBackTo_30 (by decide) ?_
      obtain rfl := Option.some.inj h
      exact g_iret X hr hlk hG hS dX0_roundsBackTo_31
    · have h := ite_n h q1
      refine lv_aload_n hx hb dX0_roundsBackTo_11 rfl (lv_at hl 0 rfl) ?_
      refine lv_iload_n hx hb dX0_roundsBackTo_12 rfl (lv_at hl 2 rfl) ?_
      obtain ⟨r2, hcr2, h⟩ := bd_y h
      refine g_cVI (a := b0) (ci := 4) (T := TX4) (N := 10) (av := [.int w2]) (rest := []) X hG hS (ct_X4_afterRound l z k_b0 n_b0 hcr2) mt_X4_afterRound ml_X0_35 rfl ⟨rfl, rfl, Nat.le_of_ble_eq_true rfl, Nat.le_of_ble_eq_true rfl⟩ ⟨Nat.le_refl 0, Nat.le_refl 0⟩ (nx_0 n_b0) k_b0 (by decide) rfl hl.1 (Nat.le_of_ble_eq_true rfl) rfl dX0_roundsBackTo_13 (fun H locs hG hS => ?_)
      refine lv_istore_n (lv' := [(2, .int r2), (0, .ref (gad z b0)), (1, .int u1), (3, .int w3)]) hx hb dX0_roundsBackTo_16 rfl hl (by decide) rfl (fun ls hl => ?_)
      refine lv_iload_n hx hb dX0_roundsBackTo_17 rfl (lv_at hl 0 rfl) ?_
      refine lv_iload_n hx hb dX0_roundsBackTo_18 rfl (lv_at hl 2 rfl) ?_
      refine lv_icmp_ne (tgt := 24) hx hb dX0_roundsBackTo_19 (by decide) (fun q3 => ?_) (fun q3 => ?_)
      · have h := ite_n h q3
        refine lv_iinc (v := (w3 + 1)) (lv' := [(3, .int (w3 + 1)), (2, .int r2), (0, .ref (gad z b0)), (1, .int u1)]) hx hb dX0_roundsBackTo_24 hl (k := 3) rfl rfl (by decide) rfl (fun ls hl => ?_)
        refine lv_goto (tgt := 4) hx hb dX0_roundsBackTo_27 (by decide) ?_
        exact ih r2 (w3 + 1) _ _ _ h hG hS (lv_sub hl [2, 3, 1, 0] rfl)
      · have h := ite_y h q3
        refine lv_iload_n hx hb dX0_roundsBackTo_22 rfl (lv_at hl 3 rfl) ?_
        obtain rfl := Option.some.inj h
        exact g_iret X hr hlk hG hS dX0_roundsBackTo_23
set_option maxRecDepth 100000 in
set_option maxHeartbeats 4000000 in
theorem ct_X0_roundsBackTo (l : Launch) (z : gZ) {N : Nat} {M : Mem} {b0 : Nat} {v1 : Int32} {o : Int32} (k_b0 : kd b0 = 4) (n_b0 : b0 + 8 ≤ gn z) (h : fX0_roundsBackTo N M b0 v1 = some o) : CtI l z yX0_roundsBackTo cX0_roundsBackTo 4 (some .int) { frames := 4, cells := 0, slots := 0, locals := 91 } [.ref (gad z b0), .int v1] M o M := by
  refine Ct_of rfl (Nat.le_of_ble_eq_true rfl) ?_
  intro p e s m below meth c ls X hr hlk hG hS hl
  have X : gX p m c _ _ s _ RX0 z := X
  have hl : lv_has ls 4 [(0, .ref (gad z b0)), (1, .int v1)] := hl
  have hx := X.1
  have hb := X.2.1
  unfold fX0_roundsBackTo at h
  refine lv_iload_n hx hb dX0_roundsBackTo_0 rfl (lv_at hl 1 rfl) ?_
  refine lv_istore_n (lv' := [(2, .int v1), (0, .ref (gad z b0)), (1, .int v1)]) hx hb dX0_roundsBackTo_1 rfl hl (by decide) rfl (fun ls hl => ?_)
  refine lv_iconst (v := 1) hx hb dX0_roundsBackTo_2 (by decide) ?_
  refine lv_istore_n (lv' := [(3, .int 1), (2, .int v1), (0, .ref (gad z b0)), (1, .int v1)]) hx hb dX0_roundsBackTo_3 rfl hl (by decide) rfl (fun ls hl => ?_)
  refine wX0_roundsBackTo_4 X hr hlk k_b0 n_b0 _ _ _ _ _ _ h hG hS (lv_sub hl [2, 3, 1, 0] rfl)
set_option maxRecDepth 100000 in
set_option maxHeartbeats 4000000 in
theorem wX0_run_25 {N : Nat} {p : Program} {l : Launch} {e : Env} {s : State} {m : MethodId} {args : Array Value} {below : List Frame} {meth : Method} {c : Code} {z : gZ} {a : Nat} {b1 : Nat} {o : Mem} (X : gX p m c cX0_run 5 s args RX0 z) (hr : meth.sig.returnType = none) (hlk : meth.locks = false) (k_a : kd a = 0) (n_a : a + 2 ≤ gn z) (k_b1 : kd b1 = 4) (n_b1 : b1 + 8 ≤ gn z)  : ∀ (n : Nat) (Mw : Mem) (w3 : Int32) (H : Heap) (locs : List Loc) (ls : Array Slot), fX0_run_25 N a b1  n Mw w3 = some o → gW z Mw H → va_S (gA z) s.heap H locs → lv_has ls 5 [(0, .ref (gad z a)), (1, .ref (gad z b1)), (3, .int w3)] → W p l e { frames := 5, cells := 0, slots := 0, locals := 114 } s m args below meth c H locs 0 0 (MQ below (va_Qv (fun (_ : Unit) => True) (fun _ t => gW z o t.heap) (gA z)) args s 0 0 (gA z)) (F0 m 25 ls []) := by
  have hx := X.1
  have hb := X.2.1
  intro n
  induction n with
  | zero => intro Mw w3 H locs ls h; cases h
  | succ n ih =>
    intro Mw w3 H locs ls h hG hS hl
    rw [fX0_run_25] at h
    refine lv_iload_n hx hb dX0_run_25 rfl (lv_at hl 2 rfl) ?_
    refine lv_sipush (v := 4096) hx hb dX0_run_26 (by decide) ?_
    refine lv_icmp_gt (tgt := 115) hx hb dX0_run_29 (by decide) (fun q1 => ?_) (fun q1 => ?_)
    · have h := ite_y h q1
      obtain rfl := Option.some.inj h
      exact g_vret X hr hlk hG hS dX0_run_115
    · have h := ite_n h q1
      refine lv_aload_n hx hb dX0_run_32 rfl (lv_at hl 0 rfl) ?_
      refine lv_aload_n hx hb dX0_run_33 rfl (lv_at hl 0 rfl) ?_
      refine gf_X0_1 X hG (nx_0 n_a) k_a fl_X0_21 dX0_run_34 ?_
      obtain ⟨r2, hcr2, h⟩ := bd_y h
      refine g_cVV (a := a) (ci := 0) (T := TX0) (N := 4) (av := [.int (Mw.1 a 1)]) (rest := []) X hG hS (ct_X0_see l z k_a n_a hcr2) mt_X0_see ml_X0_31 rfl ⟨rfl, rfl, Nat.le_of_ble_eq_true rfl, Nat.le_of_ble_eq_true rfl⟩ ⟨Nat.le_refl 0, Nat.le_refl 0⟩ (nx_0 n_a) k_a (by decide) rfl hl.1 (Nat.le_of_ble_eq_true rfl) rfl dX0_run_37 (fun H locs hG hS => ?_)
      refine lv_aload_n hx hb dX0_run_40 rfl (lv_at hl 0 rfl) ?_
      refine gf_X0_1 X hG (nx_0 n_a) k_a fl_X0_21 dX0_run_41 ?_
      refine lv_topi (fun x3 ex3 => ?_)
      have h := nm_y h x3 ex3
      refine lv_istore (lv' := [(4, .int x3), (0, .ref (gad z a)), (1, .ref (gad z b1)), (3, .int w3)]) hx hb dX0_run_44 hl (by decide) rfl (fun ls hl => ?_)
      refine lv_aload_n hx hb dX0_run_46 rfl (lv_at hl 1 rfl) ?_
      refine lv_aload_n hx hb dX0_run_47 rfl (lv_at hl 2 rfl) ?_
      refine lv_iload hx hb dX0_run_48 (lv_at hl 0 rfl) ?_
      obtain ⟨r4, hcr4, h⟩ := bd_y h
      refine g_cVI (a := b1) (ci := 4) (T := TX4) (N := 10) (av := [.int x3]) (rest := [.ref (gad z a)]) X hG hS (ct_X4_afterRound l z k_b1 n_b1 hcr4) mt_X4_afterRound ml_X0_35 rfl ⟨rfl, rfl, Nat.le_of_ble_eq_true rfl, Nat.le_of_ble_eq_true rfl⟩ ⟨Nat.le_refl 0, Nat.le_refl 0⟩ (nx_0 n_b1) k_b1 (by decide) rfl hl.1 (Nat.le_of_ble_eq_true rfl) rfl dX0_run_50 (fun H locs hG hS => ?_)
      refine pf_X0_1 X hG hS (nx_0 n_a) k_a fl_X0_21 dX0_run_53 (fun H locs hG hS => ?_)
      obtain ⟨M5, eM5⟩ : ∃ y, y = sI r2 a 1 r4 := ⟨_, rfl⟩
      rw [← eM5] at hG
      have h := nm_y h M5 eM5
      refine lv_aload_n hx hb dX0_run_56 rfl (lv_at hl 1 rfl) ?_
      refine lv_dup hx hb dX0_run_57 rfl ?_
      refine gf_X0_2 X hG (nx_0 n_a) k_a fl_X0_25 dX0_run_58 ?_
      refine lv_iload hx hb dX0_run_61 (lv_at hl 0 rfl) ?_
      refine lv_aload_n hx hb dX0_run_63 rfl (lv_at hl 1 rfl) ?_
      refine gf_X0_1 X hG (nx_0 n_a) k_a fl_X0_21 dX0_run_64 ?_
      refine lv_ixor hx hb dX0_run_67 ?_
      obtain ⟨r6, hcr6, h⟩ := bd_y h
      refine g_cSI (av := [.int (x3 ^^^ (M5.1 a 1))]) (rest := [.int (M5.1 a 2), .ref (gad z a)]) X hG hS (ct_J6_bitCount_0f7a4 l z  hcr6) mt_J6_bitCount_0f7a4 ml_X0_41 rfl ⟨rfl, rfl, Nat.le_of_ble_eq_true rfl, Nat.le_of_ble_eq_true rfl⟩ ⟨Nat.le_refl 0, Nat.le_refl 0⟩ hl.1 (Nat.le_of_ble_eq_true rfl) rfl dX0_run_68 (fun H locs hG hS => ?_)
      refine lv_iadd hx hb dX0_run_71 ?_
      refine pf_X0_2 X hG hS (nx_0 n_a) k_a fl_X0_25 dX0_run_72 (fun H locs hG hS => ?_)
      obtain ⟨M7, eM7⟩ : ∃ y, y = sI M5 a 2 ((M5.1 a 2) + r6) := ⟨_, rfl⟩
      rw [← eM7] at hG
      have h := nm_y h M7 eM7
      refine lv_aload_n hx hb dX0_run_75 rfl (lv_at hl 1 rfl) ?_
      refine gf_X0_1 X hG (nx_0 n_a) k_a fl_X0_21 dX0_run_76 ?_
      refine lv_iload hx hb dX0_run_79 (lv_at hl 0 rfl) ?_
      refine lv_icmp_ne (tgt := 85) hx hb dX0_run_81 (by decide) (fun q8 => ?_) (fun q8 => ?_)
      · have h := ite_n h q8
        refine lv_aload_n hx hb dX0_run_85 rfl (lv_at hl 1 rfl) ?_
        refine lv_aload_n hx hb dX0_run_86 rfl (lv_at hl 1 rfl) ?_
        refine gf_X0_1 X hG (nx_0 n_a) k_a fl_X0_21 dX0_run_87 ?_
        obtain ⟨r9, hcr9, h⟩ := bd_y h
        refine g_cVI (a := a) (ci := 0) (T := TX0) (N := 4) (av := [.int (M7.1 a 1)]) (rest := []) X hG hS (ct_X0_isSeen l z k_a n_a hcr9) mt_X0_isSeen ml_X0_46 rfl ⟨rfl, rfl, Nat.le_of_ble_eq_true rfl, Nat.le_of_ble_eq_true rfl⟩ ⟨Nat.le_refl 0, Nat.le_refl 0⟩ (nx_0 n_a) k_a (by decide) rfl hl.1 (Nat.le_of_ble_eq_true rfl) rfl dX0_run_90 (fun H locs hG hS => ?_)
        refine lv_if_eq (tgt := 109) hx hb dX0_run_93 (by decide) (fun q10 => ?_) (fun q10 => ?_)
        · have h := ite_y h q10
          refine lv_iinc (v := (w3 + 1)) (lv' := [(3, .int (w3 + 1)), (4, .int x3), (0, .ref (gad z a)), (1, .ref (gad z b1))]) hx hb dX0_run_109 hl (k := 3) rfl rfl (by decide) rfl (fun ls hl => ?_)
          refine lv_goto (tgt := 25) hx hb dX0_run_112 (by decide) ?_
          exact ih M7 (w3 + 1) _ _ _ h hG hS (lv_sub hl [2, 3, 0] rfl)
        · have h := ite_n h q10
          refine lv_aload_n hx hb dX0_run_96 rfl (lv_at hl 1 rfl) ?_
          refine lv_aload_n hx hb dX0_run_97 rfl (lv_at hl 2 rfl) ?_
          refine lv_aload_n hx hb dX0_run_98 rfl (lv_at hl 1 rfl) ?_
          refine gf_X0_1 X hG (nx_0 n_a) k_a fl_X0_21 dX0_run_99 ?_
          obtain ⟨r11, hcr11, h⟩ := bd_y h
          refine g_cSI (av := [.ref (gad z b1), .int (M7.1 a 1)]) (rest := [.ref (gad z a)]) X hG hS (ct_X0_roundsBackTo l z k_b1 n_b1 hcr11) mt_X0_roundsBackTo ml_X0_50 rfl ⟨rfl, rfl, Nat.le_of_ble_eq_true rfl, Nat.le_of_ble_eq_true rfl⟩ ⟨Nat.le_refl 0, Nat.le_refl 0⟩ hl.1 (Nat.le_of_ble_eq_true rfl) rfl dX0_run_102 (fun H locs hG hS => ?_)
          refine pf_X0_3 X hG hS (nx_0 n_a) k_a fl_X0_28 dX0_run_105 (fun H locs hG hS => ?_)
          obtain ⟨M12, eM12⟩ : ∃ y, y = sI M7 a 3 r11 := ⟨_, rfl⟩
          rw [← eM12] at hG
          have h := nm_y h M12 eM12
          obtain rfl := Option.some.inj h
          exact g_vret X hr hlk hG hS dX0_run_108
      · have h := ite_y h q8
        obtain rfl := Option.some.inj h
        exact g_vret X hr hlk hG hS dX0_run_84
set_option maxRecDepth 100000 in
set_option maxHeartbeats 4000000 in
theorem ct_X0_run (l : Launch) (z : gZ) {N : Nat} {M : Mem} {a : Nat} {b1 : Nat} {v2 : Int32} {o : Mem} (k_a : kd a = 0) (n_a : a + 2 ≤ gn z) (k_b1 : kd b1 = 4) (n_b1 : b1 + 8 ≤ gn z) (h : fX0_run N M a b1 v2 = some o) : CtV l z yX0_run cX0_run 5 none { frames := 5, cells := 0, slots := 0, locals := 114 } [.ref (gad z a), .ref (gad z b1), .int v2] M o := by
  refine Ct_of rfl (Nat.le_of_ble_eq_true rfl) ?_
  intro p e s m below meth c ls X hr hlk hG hS hl
  have X : gX p m c _ _ s _ RX0 z := X
  have hl : lv_has ls 5 [(0, .ref (gad z a)), (1, .ref (gad z b1)), (2, .int v2)] := hl
  have hx := X.1
  have hb := X.2.1
  unfold fX0_run at h
  refine lv_aload_n hx hb dX0_run_0 rfl (lv_at hl 0 rfl) ?_
  refine gf_X0_0 X hG (nx_0 n_a) k_a fl_X0_11 dX0_run_1 ?_
  refine lv_lconst (v := 0) hx hb dX0_run_4 (by decide) ?_
  obtain ⟨r1, hcr1, h⟩ := bd_y h
  refine g_cSV (av := [.ref (gad z (a + 1)), .long 0]) (rest := []) X hG hS (ct_J7_fill_d0a16 l z (kx_0_1 k_a) (nx_a (a := a) (k := 1) (n := 2) n_a (Nat.le_of_ble_eq_true rfl)) (by decide) hcr1) mt_J7_fill_d0a16 ml_X0_15 rfl ⟨rfl, rfl, Nat.le_of_ble_eq_true rfl, Nat.le_of_ble_eq_true rfl⟩ ⟨Nat.le_refl 0, Nat.le_refl 0⟩ hl.1 (Nat.le_of_ble_eq_true rfl) rfl dX0_run_5 (fun H locs hG hS => ?_)
  refine lv_aload_n hx hb dX0_run_8 rfl (lv_at hl 0 rfl) ?_
  refine lv_iload_n hx hb dX0_run_9 rfl (lv_at hl 2 rfl) ?_
  refine pf_X0_1 X hG hS (nx_0 n_a) k_a fl_X0_21 dX0_run_10 (fun H locs hG hS => ?_)
  obtain ⟨M2, eM2⟩ : ∃ y, y = sI r1 a 1 v2 := ⟨_, rfl⟩
  rw [← eM2] at hG
  have h := nm_y h M2 eM2
  refine lv_aload_n hx hb dX0_run_13 rfl (lv_at hl 0 rfl) ?_
  refine lv_iconst (v := 0) hx hb dX0_run_14 (by decide) ?_
  refine pf_X0_2 X hG hS (nx_0 n_a) k_a fl_X0_25 dX0_run_15 (fun H locs hG hS => ?_)
  obtain ⟨M3, eM3⟩ : ∃ y, y = sI M2 a 2 0 := ⟨_, rfl⟩
  rw [← eM3] at hG
  have h := nm_y h M3 eM3
  refine lv_aload_n hx hb dX0_run_18 rfl (lv_at hl 0 rfl) ?_
  refine lv_iconst (v := 0) hx hb dX0_run_19 (by decide) ?_
  refine pf_X0_3 X hG hS (nx_0 n_a) k_a fl_X0_28 dX0_run_20 (fun H locs hG hS => ?_)
  obtain ⟨M4, eM4⟩ : ∃ y, y = sI M3 a 3 0 := ⟨_, rfl⟩
  rw [← eM4] at hG
  have h := nm_y h M4 eM4
  refine lv_iconst (v := 0) hx hb dX0_run_23 (by decide) ?_
  refine lv_istore_n (lv' := [(3, .int 0), (0, .ref (gad z a)), (1, .ref (gad z b1)), (2, .int v2)]) hx hb dX0_run_24 rfl hl (by decide) rfl (fun ls hl => ?_)
  refine wX0_run_25 X hr hlk k_a n_a k_b1 n_b1 _ _ _ _ _ _ h hG hS (lv_sub hl [1, 2, 0] rfl)
set_option maxRecDepth 100000 in
set_option maxHeartbeats 4000000 in
theorem ct_X4_needOf (l : Launch) (z : gZ) {N : Nat} {M : Mem} {a : Nat} {v1 : Int32} {v2 : Int32} {o : Int32} (k_a : kd a = 4) (n_a : a + 8 ≤ gn z) (h : fX4_needOf N M a v1 v2 = some o) : CtI l z yX4_needOf cX4_needOf 3 (some .int) { frames := 3, cells := 0, slots := 0, locals := 68 } [.ref (gad z a), .int v1, .int v2] M o M := by
  refine Ct_of rfl (Nat.le_of_ble_eq_true rfl) ?_
  intro p e s m below meth c ls X hr hlk hG hS hl
  have X : gX p m c _ _ s _ RX4 z := X
  have hl : lv_has ls 3 [(0, .ref (gad z a)), (1, .int v1), (2, .int v2)] := hl
  have hx := X.1
  have hb := X.2.1
  unfold fX4_needOf at h
  refine lv_aload_n hx hb dX4_needOf_0 rfl (lv_at hl 0 rfl) ?_
  refine lv_iload_n hx hb dX4_needOf_1 rfl (lv_at hl 1 rfl) ?_
  refine lv_iload_n hx hb dX4_needOf_2 rfl (lv_at hl 2 rfl) ?_
  obtain ⟨r1, hcr1, h⟩ := bd_y h
  refine g_cVI (a := a) (ci := 4) (T := TX4) (N := 10) (av := [.int v1, .int v2]) (rest := []) X hG hS (ct_X4_wouldChange l z k_a n_a hcr1) mt_X4_wouldChange ml_X4_105 rfl ⟨rfl, rfl, Nat.le_of_ble_eq_true rfl, Nat.le_of_ble_eq_true rfl⟩ ⟨Nat.le_refl 0, Nat.le_refl 0⟩ (nx_0 n_a) k_a (by decide) rfl hl.1 (Nat.le_of_ble_eq_true rfl) rfl dX4_needOf_3 (fun H locs hG hS => ?_)
  refine lv_if_eq (tgt := 18) hx hb dX4_needOf_6 (by decide) (fun q2 => ?_) (fun q2 => ?_)
  · have h := ite_y h q2
    refine lv_iconst (v := 0) hx hb dX4_needOf_18 (by decide) ?_
    obtain rfl := Option.some.inj h
    exact g_iret X hr hlk hG hS dX4_needOf_19
  · have h := ite_n h q2
    refine lv_aload_n hx hb dX4_needOf_9 rfl (lv_at hl 0 rfl) ?_
    refine lv_iload_n hx hb dX4_needOf_10 rfl (lv_at hl 1 rfl) ?_
    refine lv_iload_n hx hb dX4_needOf_11 rfl (lv_at hl 2 rfl) ?_
    obtain ⟨r3, hcr3, h⟩ := bd_y h
    refine g_cVI (a := a) (ci := 4) (T := TX4) (N := 10) (av := [.int v1, .int v2]) (rest := []) X hG hS (ct_X4_gainByChange l z k_a n_a hcr3) mt_X4_gainByChange ml_X4_102 rfl ⟨rfl, rfl, Nat.le_of_ble_eq_true rfl, Nat.le_of_ble_eq_true rfl⟩ ⟨Nat.le_refl 0, Nat.le_refl 0⟩ (nx_0 n_a) k_a (by decide) rfl hl.1 (Nat.le_of_ble_eq_true rfl) rfl dX4_needOf_12 (fun H locs hG hS => ?_)
    refine lv_goto (tgt := 19) hx hb dX4_needOf_15 (by decide) ?_
    obtain rfl := Option.some.inj h
    exact g_iret X hr hlk hG hS dX4_needOf_19
set_option maxRecDepth 100000 in
set_option maxHeartbeats 4000000 in
theorem ct_X4_doesSurely (l : Launch) (z : gZ) {N : Nat} {M : Mem} {a : Nat} {v1 : Int32} {v2 : Int32} {o : Int32} (k_a : kd a = 4) (n_a : a + 8 ≤ gn z) (h : fX4_doesSurely N M a v1 v2 = some o) : CtI l z yX4_doesSurely cX4_doesSurely 5 (some .boolean) { frames := 1, cells := 0, slots := 0, locals := 23 } [.ref (gad z a), .int v1, .int v2] M o M := by
  refine Ct_of rfl (Nat.le_of_ble_eq_true rfl) ?_
  intro p e s m below meth c ls X hr hlk hG hS hl
  have X : gX p m c _ _ s _ RX4 z := X
  have hl : lv_has ls 5 [(0, .ref (gad z a)), (1, .int v1), (2, .int v2)] := hl
  have hx := X.1
  have hb := X.2.1
  unfold fX4_doesSurely at h
  refine lv_aload_n hx hb dX4_doesSurely_0 rfl (lv_at hl 0 rfl) ?_
  refine gf_X4_4 X hG (nx_0 n_a) k_a fl_X4_24 dX4_doesSurely_1 ?_
  refine lv_iload_n hx hb dX4_doesSurely_4 rfl (lv_at hl 1 rfl) ?_
  obtain ⟨i1, h⟩ := gd_y h
  refine g_iald X hG (nx_a (a := a) (k := 5) (n := 8) n_a (Nat.le_of_ble_eq_true rfl)) (kx_4_5 k_a) (by decide) i1 dX4_doesSurely_5 ?_
  refine lv_topi (fun x2 ex2 => ?_)
  have h := nm_y h x2 ex2
  refine lv_istore_n (lv' := [(3, .int x2), (0, .ref (gad z a)), (1, .int v1), (2, .int v2)]) hx hb dX4_doesSurely_6 rfl hl (by decide) rfl (fun ls hl => ?_)
  refine lv_aload_n hx hb dX4_doesSurely_7 rfl (lv_at hl 1 rfl) ?_
  refine gf_X4_3 X hG (nx_0 n_a) k_a fl_X4_21 dX4_doesSurely_8 ?_
  refine lv_iload_n hx hb dX4_doesSurely_11 rfl (lv_at hl 2 rfl) ?_
  refine g_iald X hG (nx_a (a := a) (k := 4) (n := 8) n_a (Nat.le_of_ble_eq_true rfl)) (kx_4_4 k_a) (by decide) i1 dX4_doesSurely_12 ?_
  by_cases q3 : (M.1 (a + 4) (v1 : Int32).toNatClampNeg) = 1
  · have h := ite_y h q3
    refine lv_tableIn (tgt := 48) hx hb dX4_doesSurely_13 (by rw [q3]; decide) (by rw [q3]; decide) (by rw [q3]; rfl) (by decide) ?_
    refine lv_iload_n hx hb dX4_doesSurely_48 rfl (lv_at hl 0 rfl) ?_
    refine lv_iconst (v := 1) hx hb dX4_doesSurely_49 (by decide) ?_
    refine lv_icmp_ne (tgt := 57) hx hb dX4_doesSurely_50 (by decide) (fun q4 => ?_) (fun q4 => ?_)
    · have h := ite_n h q4
      refine lv_iconst (v := 0) hx hb dX4_doesSurely_57 (by decide) ?_
      obtain rfl := Option.some.inj h
      exact g_zret (zn (Or.inl rfl)) X hr hlk hG hS dX4_doesSurely_58
    · have h := ite_y h q4
      refine lv_iconst (v := 1) hx hb dX4_doesSurely_53 (by decide) ?_
      refine lv_goto (tgt := 58) hx hb dX4_doesSurely_54 (by decide) ?_
      obtain rfl := Option.some.inj h
      exact g_zret (zn (Or.inr rfl)) X hr hlk hG hS dX4_doesSurely_58
  · have h := ite_n h q3
    by_cases q5 : (M.1 (a + 4) (v1 : Int32).toNatClampNeg) = 2
    · have h := ite_y h q5
      refine lv_tableIn (tgt := 121) hx hb dX4_doesSurely_13 (by rw [q5]; decide) (by rw [q5]; decide) (by rw [q5]; rfl) (by decide) ?_
      refine lv_iconst (v := 0) hx hb dX4_doesSurely_121 (by decide) ?_
      obtain rfl := Option.some.inj h
      exact g_zret (zn (Or.inl rfl)) X hr hlk hG hS dX4_doesSurely_122
    · have h := ite_n h q5
      by_cases q6 : (M.1 (a + 4) (v1 : Int32).toNatClampNeg) = 3
      · have h := ite_y h q6
        refine lv_tableIn (tgt := 59) hx hb dX4_doesSurely_13 (by rw [q6]; decide) (by rw [q6]; decide) (by rw [q6]; rfl) (by decide) ?_
        refine lv_aload_n hx hb dX4_doesSurely_59 rfl (lv_at hl 1 rfl) ?_
        refine gf_X4_2 X hG (nx_0 n_a) k_a fl_X4_18 dX4_doesSurely_60 ?_
        refine lv_iload_n hx hb dX4_doesSurely_63 rfl (lv_at hl 2 rfl) ?_
        refine g_iald X hG (nx_a (a := a) (k := 3) (n := 8) n_a (Nat.le_of_ble_eq_true rfl)) (kx_4_3 k_a) (by decide) i1 dX4_doesSurely_64 ?_
        obtain ⟨r7, hcr7, h⟩ := bd_y h
        refine g_cSI (av := [.int (M.1 (a + 3) (v1 : Int32).toNatClampNeg)]) (rest := []) X hG hS (ct_J6_bitCount_0f7a4 l z  hcr7) mt_J6_bitCount_0f7a4 ml_X4_86 rfl ⟨rfl, rfl, Nat.le_of_ble_eq_true rfl, Nat.le_of_ble_eq_true rfl⟩ ⟨Nat.le_refl 0, Nat.le_refl 0⟩ hl.1 (Nat.le_of_ble_eq_true rfl) rfl dX4_doesSurely_65 (fun H locs hG hS => ?_)
        refine lv_iload_n hx hb dX4_doesSurely_68 rfl (lv_at hl 0 rfl) ?_
        refine lv_icmp_gt (tgt := 76) hx hb dX4_doesSurely_69 (by decide) (fun q8 => ?_) (fun q8 => ?_)
        · have h := ite_y h q8
          refine lv_iconst (v := 0) hx hb dX4_doesSurely_76 (by decide) ?_
          obtain rfl := Option.some.inj h
          exact g_zret (zn (Or.inl rfl)) X hr hlk hG hS dX4_doesSurely_77
        · have h := ite_n h q8
          refine lv_iconst (v := 1) hx hb dX4_doesSurely_72 (by decide) ?_
          refine lv_goto (tgt := 77) hx hb dX4_doesSurely_73 (by decide) ?_
          obtain rfl := Option.some.inj h
          exact g_zret (zn (Or.inr rfl)) X hr hlk hG hS dX4_doesSurely_77
      · have h := ite_n h q6
        by_cases q9 : (M.1 (a + 4) (v1 : Int32).toNatClampNeg) = 4
        · have h := ite_y h q9
          refine lv_tableIn (tgt := 78) hx hb dX4_doesSurely_13 (by rw [q9]; decide) (by rw [q9]; decide) (by rw [q9]; rfl) (by decide) ?_
          refine lv_iload_n hx hb dX4_doesSurely_78 rfl (lv_at hl 0 rfl) ?_
          refine lv_bipush (v := 100) hx hb dX4_doesSurely_79 (by decide) ?_
          refine lv_idiv hx hb dX4_doesSurely_81 (by decide) ?_
          refine lv_topi (fun x10 ex10 => ?_)
          have h := nm_y h x10 ex10
          refine lv_istore (lv' := [(4, .int x10), (3, .int x2), (0, .ref (gad z a)), (1, .int v1), (2, .int v2)]) hx hb dX4_doesSurely_82 hl (by decide) rfl (fun ls hl => ?_)
          refine lv_iload hx hb dX4_doesSurely_84 (lv_at hl 0 rfl) ?_
          refine lv_if_le (tgt := 104) hx hb dX4_doesSurely_86 (by decide) (fun q11 => ?_) (fun q11 => ?_)
          · have h := ite_y h q11
            refine lv_iconst (v := 0) hx hb dX4_doesSurely_104 (by decide) ?_
            obtain rfl := Option.some.inj h
            exact g_zret (zn (Or.inl rfl)) X hr hlk hG hS dX4_doesSurely_105
          · have h := ite_n h q11
            refine lv_iload_n hx hb dX4_doesSurely_89 rfl (lv_at hl 4 rfl) ?_
            refine lv_iload hx hb dX4_doesSurely_90 (lv_at hl 0 rfl) ?_
            obtain ⟨q12, h⟩ := gc_y h
            refine lv_irem hx hb dX4_doesSurely_92 q12 ?_
            refine lv_iload_n hx hb dX4_doesSurely_93 rfl (lv_at hl 1 rfl) ?_
            refine lv_bipush (v := 100) hx hb dX4_doesSurely_94 (by decide) ?_
            refine lv_irem hx hb dX4_doesSurely_96 (by decide) ?_
            refine lv_icmp_ne (tgt := 104) hx hb dX4_doesSurely_97 (by decide) (fun q13 => ?_) (fun q13 => ?_)
            · have h := ite_n h q13
              refine lv_iconst (v := 0) hx hb dX4_doesSurely_104 (by decide) ?_
              obtain rfl := Option.some.inj h
              exact g_zret (zn (Or.inl rfl)) X hr hlk hG hS dX4_doesSurely_105
            · have h := ite_y h q13
              refine lv_iconst (v := 1) hx hb dX4_doesSurely_100 (by decide) ?_
              refine lv_goto (tgt := 105) hx hb dX4_doesSurely_101 (by decide) ?_
              obtain rfl := Option.some.inj h
              exact g_zret (zn (Or.inr rfl)) X hr hlk hG hS dX4_doesSurely_105
        · have h := ite_n h q9
          by_cases q14 : (M.1 (a + 4) (v1 : Int32).toNatClampNeg) = 5
          · have h := ite_y h q14
            refine lv_tableIn (tgt := 106) hx hb dX4_doesSurely_13 (by rw [q14]; decide) (by rw [q14]; decide) (by rw [q14]; rfl) (by decide) ?_
            refine lv_aload_n hx hb dX4_doesSurely_106 rfl (lv_at hl 1 rfl) ?_
            refine lv_iload_n hx hb dX4_doesSurely_107 rfl (lv_at hl 2 rfl) ?_
            refine lv_iload_n hx hb dX4_doesSurely_108 rfl (lv_at hl 0 rfl) ?_
            obtain ⟨r15, hcr15, h⟩ := bd_y h
            refine g_cVI (a := a) (ci := 4) (T := TX4) (N := 10) (av := [.int v1, .int x2]) (rest := []) X hG hS (ct_X4_edge l z k_a n_a hcr15) mt_X4_edge ml_X4_96 rfl ⟨rfl, rfl, Nat.le_of_ble_eq_true rfl, Nat.le_of_ble_eq_true rfl⟩ ⟨Nat.le_refl 0, Nat.le_refl 0⟩ (nx_0 n_a) k_a (by decide) rfl hl.1 (Nat.le_of_ble_eq_true rfl) rfl dX4_doesSurely_109 (fun H locs hG hS => ?_)
            refine lv_if_le (tgt := 119) hx hb dX4_doesSurely_112 (by decide) (fun q16 => ?_) (fun q16 => ?_)
            · have h := ite_y h q16
              refine lv_iconst (v := 0) hx hb dX4_doesSurely_119 (by decide) ?_
              obtain rfl := Option.some.inj h
              exact g_zret (zn (Or.inl rfl)) X hr hlk hG hS dX4_doesSurely_120
            · have h := ite_n h q16
              refine lv_iconst (v := 1) hx hb dX4_doesSurely_115 (by decide) ?_
              refine lv_goto (tgt := 120) hx hb dX4_doesSurely_116 (by decide) ?_
              obtain rfl := Option.some.inj h
              exact g_zret (zn (Or.inr rfl)) X hr hlk hG hS dX4_doesSurely_120
          · have h := ite_n h q14
            refine lv_tableOut (tgt := 121) hx hb dX4_doesSurely_13 (by have eq3 := lv_neT (a := 1) q3 (by decide); have eq5 := lv_neT (a := 2) q5 (by decide); have eq6 := lv_neT (a := 3) q6 (by decide); have eq9 := lv_neT (a := 4) q9 (by decide); have eq14 := lv_neT (a := 5) q14 (by decide); omega) (by decide) ?_
            refine lv_iconst (v := 0) hx hb dX4_doesSurely_121 (by decide) ?_
            obtain rfl := Option.some.inj h
            exact g_zret (zn (Or.inl rfl)) X hr hlk hG hS dX4_doesSurely_122
set_option maxRecDepth 100000 in
set_option maxHeartbeats 4000000 in
theorem ct_X4_chanceOf (l : Launch) (z : gZ) {N : Nat} {M : Mem} {a : Nat} {v1 : Int32} {v2 : Int32} {o : Int32} (k_a : kd a = 4) (n_a : a + 8 ≤ gn z) (h : fX4_chanceOf N M a v1 v2 = some o) : CtI l z yX4_chanceOf cX4_chanceOf 3 (some .int) { frames := 2, cells := 0, slots := 0, locals := 47 } [.ref (gad z a), .int v1, .int v2] M o M := by
  refine Ct_of rfl (Nat.le_of_ble_eq_true rfl) ?_
  intro p e s m below meth c ls X hr hlk hG hS hl
  have X : gX p m c _ _ s _ RX4 z := X
  have hl : lv_has ls 3 [(0, .ref (gad z a)), (1, .int v1), (2, .int v2)] := hl
  have hx := X.1
  have hb := X.2.1
  unfold fX4_chanceOf at h
  refine lv_aload_n hx hb dX4_chanceOf_0 rfl (lv_at hl 0 rfl) ?_
  refine lv_iload_n hx hb dX4_chanceOf_1 rfl (lv_at hl 1 rfl) ?_
  obtain ⟨r1, hcr1, h⟩ := bd_y h
  refine g_cVI (a := a) (ci := 4) (T := TX4) (N := 10) (av := [.int v1]) (rest := []) X hG hS (ct_X4_isMust l z k_a n_a hcr1) mt_X4_isMust ml_X4_99 rfl ⟨rfl, rfl, Nat.le_of_ble_eq_true rfl, Nat.le_of_ble_eq_true rfl⟩ ⟨Nat.le_refl 0, Nat.le_refl 0⟩ (nx_0 n_a) k_a (by decide) rfl hl.1 (Nat.le_of_ble_eq_true rfl) rfl dX4_chanceOf_2 (fun H locs hG hS => ?_)
  refine lv_if_eq (tgt := 12) hx hb dX4_chanceOf_5 (by decide) (fun q2 => ?_) (fun q2 => ?_)
  · have h := ite_y h q2
    refine lv_aload_n hx hb dX4_chanceOf_12 rfl (lv_at hl 0 rfl) ?_
    refine gf_X4_3 X hG (nx_0 n_a) k_a fl_X4_21 dX4_chanceOf_13 ?_
    refine lv_iload_n hx hb dX4_chanceOf_16 rfl (lv_at hl 1 rfl) ?_
    obtain ⟨i3, h⟩ := gd_y h
    refine g_iald X hG (nx_a (a := a) (k := 4) (n := 8) n_a (Nat.le_of_ble_eq_true rfl)) (kx_4_4 k_a) (by decide) i3 dX4_chanceOf_17 ?_
    refine lv_iconst (v := 2) hx hb dX4_chanceOf_18 (by decide) ?_
    refine lv_icmp_ne (tgt := 29) hx hb dX4_chanceOf_19 (by decide) (fun q4 => ?_) (fun q4 => ?_)
    · have h := ite_n h q4
      refine lv_aload_n hx hb dX4_chanceOf_29 rfl (lv_at hl 0 rfl) ?_
      refine lv_iload_n hx hb dX4_chanceOf_30 rfl (lv_at hl 1 rfl) ?_
      refine lv_iload_n hx hb dX4_chanceOf_31 rfl (lv_at hl 2 rfl) ?_
      obtain ⟨r5, hcr5, h⟩ := bd_y h
      refine g_cVI (a := a) (ci := 4) (T := TX4) (N := 10) (av := [.int v1, .int v2]) (rest := []) X hG hS (ct_X4_doesSurely l z k_a n_a hcr5) mt_X4_doesSurely ml_X4_126 rfl ⟨rfl, rfl, Nat.le_of_ble_eq_true rfl, Nat.le_of_ble_eq_true rfl⟩ ⟨Nat.le_refl 0, Nat.le_refl 0⟩ (nx_0 n_a) k_a (by decide) rfl hl.1 (Nat.le_of_ble_eq_true rfl) rfl dX4_chanceOf_32 (fun H locs hG hS => ?_)
      refine lv_if_eq (tgt := 44) hx hb dX4_chanceOf_35 (by decide) (fun q6 => ?_) (fun q6 => ?_)
      · have h := ite_y h q6
        refine lv_iconst (v := 0) hx hb dX4_chanceOf_44 (by decide) ?_
        obtain rfl := Option.some.inj h
        exact g_iret X hr hlk hG hS dX4_chanceOf_45
      · have h := ite_n h q6
        refine lv_sipush (v := 1000) hx hb dX4_chanceOf_38 (by decide) ?_
        refine lv_goto (tgt := 45) hx hb dX4_chanceOf_41 (by decide) ?_
        obtain rfl := Option.some.inj h
        exact g_iret X hr hlk hG hS dX4_chanceOf_45
    · have h := ite_y h q4
      refine lv_aload_n hx hb dX4_chanceOf_22 rfl (lv_at hl 0 rfl) ?_
      refine gf_X4_4 X hG (nx_0 n_a) k_a fl_X4_24 dX4_chanceOf_23 ?_
      refine lv_iload_n hx hb dX4_chanceOf_26 rfl (lv_at hl 1 rfl) ?_
      refine g_iald X hG (nx_a (a := a) (k := 5) (n := 8) n_a (Nat.le_of_ble_eq_true rfl)) (kx_4_5 k_a) (by decide) i3 dX4_chanceOf_27 ?_
      obtain rfl := Option.some.inj h
      exact g_iret X hr hlk hG hS dX4_chanceOf_28
  · have h := ite_n h q2
    refine lv_sipush (v := 1000) hx hb dX4_chanceOf_8 (by decide) ?_
    obtain rfl := Option.some.inj h
    exact g_iret X hr hlk hG hS dX4_chanceOf_11
set_option maxRecDepth 100000 in
set_option maxHeartbeats 4000000 in
theorem ct_X5_draw (l : Launch) (z : gZ) {N : Nat} {M : Mem} {a : Nat} {v1 : Int32} {o : Int32 × Mem} (k_a : kd a = 5) (n_a : a + 44 ≤ gn z) (h : fX5_draw N M a v1 = some o) : CtI l z yX5_draw cX5_draw 2 (some .int) { frames := 0, cells := 0, slots := 0, locals := 0 } [.ref (gad z a), .int v1] M o.1 o.2 := by
  refine Ct_of rfl (Nat.le_of_ble_eq_true rfl) ?_
  intro p e s m below meth c ls X hr hlk hG hS hl
  have X : gX p m c _ _ s _ RX5 z := X
  have hl : lv_has ls 2 [(0, .ref (gad z a)), (1, .int v1)] := hl
  have hx := X.1
  have hb := X.2.1
  unfold fX5_draw at h
  refine lv_aload_n hx hb dX5_draw_0 rfl (lv_at hl 0 rfl) ?_
  refine lv_aload_n hx hb dX5_draw_1 rfl (lv_at hl 0 rfl) ?_
  refine gf_X5_4 X hG (nx_0 n_a) k_a fl_X5_28 dX5_draw_2 ?_
  refine lv_ldc (v := 1103515245) hx hb X.2.2.2.1 (X.2.2.2.2.1 _ cn_X5_49) dX5_draw_5 ?_
  refine lv_imul hx hb dX5_draw_7 ?_
  refine lv_sipush (v := 12345) hx hb dX5_draw_8 (by decide) ?_
  refine lv_iadd hx hb dX5_draw_11 ?_
  refine pf_X5_4 X hG hS (nx_0 n_a) k_a fl_X5_28 dX5_draw_12 (fun H locs hG hS => ?_)
  obtain ⟨M1, eM1⟩ : ∃ y, y = sI M a 4 (((M.1 a 4) * 1103515245) + 12345) := ⟨_, rfl⟩
  rw [← eM1] at hG
  have h := nm_y h M1 eM1
  refine lv_iload_n hx hb dX5_draw_15 rfl (lv_at hl 1 rfl) ?_
  refine lv_if_le (tgt := 31) hx hb dX5_draw_16 (by decide) (fun q2 => ?_) (fun q2 => ?_)
  · have h := ite_y h q2
    refine lv_iconst (v := 0) hx hb dX5_draw_31 (by decide) ?_
    obtain rfl := Option.some.inj h
    exact g_iret X hr hlk hG hS dX5_draw_32
  · have h := ite_n h q2
    refine lv_aload_n hx hb dX5_draw_19 rfl (lv_at hl 0 rfl) ?_
    refine gf_X5_4 X hG (nx_0 n_a) k_a fl_X5_28 dX5_draw_20 ?_
    refine lv_bipush (v := 16) hx hb dX5_draw_23 (by decide) ?_
    refine lv_iushr hx hb dX5_draw_25 rfl ?_
    refine lv_iload_n hx hb dX5_draw_26 rfl (lv_at hl 1 rfl) ?_
    obtain ⟨q3, h⟩ := gc_y h
    refine lv_irem hx hb dX5_draw_27 q3 ?_
    refine lv_goto (tgt := 32) hx hb dX5_draw_28 (by decide) ?_
    obtain rfl := Option.some.inj h
    exact g_iret X hr hlk hG hS dX5_draw_32
set_option maxRecDepth 100000 in
set_option maxHeartbeats 4000000 in
theorem wX4_lightAfter_5 {N : Nat} {p : Program} {l : Launch} {e : Env} {s : State} {m : MethodId} {args : Array Value} {below : List Frame} {meth : Method} {c : Code} {z : gZ} {M : Mem} {a : Nat} {u2 : Int32} {o : Int32} (X : gX p m c cX4_lightAfter 5 s args RX4 z) (hr : meth.sig.returnType = (some .int)) (hlk : meth.locks = false) (k_a : kd a = 4) (n_a : a + 8 ≤ gn z)  : ∀ (n : Nat) (w3 : Int32) (w4 : Int32) (H : Heap) (locs : List Loc) (ls : Array Slot), fX4_lightAfter_5 N M a u2  n w3 w4 = some o → gW z M H → va_S (gA z) s.heap H locs → lv_has ls 5 [(0, .ref (gad z a)), (2, .int u2), (3, .int w3), (4, .int w4)] → W p l e { frames := 3, cells := 0, slots := 0, locals := 69 } s m args below meth c H locs 0 0 (MQ below (va_Qi (fun r' (_ : Unit) => r' = o) (fun _ t => gW z M t.heap) (gA z)) args s 0 0 (gA z)) (F0 m 5 ls []) := by
  have hx := X.1
  have hb := X.2.1
  intro n
  induction n with
  | zero => intro w3 w4 H locs ls h; cases h
  | succ n ih =>
    intro w3 w4 H locs ls h hG hS hl
    rw [fX4_lightAfter_5] at h
    refine lv_iload hx hb dX4_lightAfter_5 (lv_at hl 3 rfl) ?_
    refine lv_aload_n hx hb dX4_lightAfter_7 rfl (lv_at hl 0 rfl) ?_
    refine gf_X4_7 X hG (nx_0 n_a) k_a fl_X4_33 dX4_lightAfter_8 ?_
    refine lv_icmp_ge (tgt := 38) hx hb dX4_lightAfter_11 (by decide) (fun q1 => ?_) (fun q1 => ?_)
    · have h := ite_y h q1
      refine lv_iload_n hx hb dX4_lightAfter_38 rfl (lv_at hl 2 rfl) ?_
      obtain rfl := Option.some.inj h
      exact g_iret X hr hlk hG hS dX4_lightAfter_39
    · have h := ite_n h q1
      refine lv_iload_n hx hb dX4_lightAfter_14 rfl (lv_at hl 2 rfl) ?_
      refine lv_sipush (v := 1000) hx hb dX4_lightAfter_15 (by decide) ?_
      refine lv_aload_n hx hb dX4_lightAfter_18 rfl (lv_at hl 0 rfl) ?_
      refine lv_iload hx hb dX4_lightAfter_19 (lv_at hl 3 rfl) ?_
      refine lv_iload_n hx hb dX4_lightAfter_21 rfl (lv_at hl 1 rfl) ?_
      obtain ⟨r2, hcr2, h⟩ := bd_y h
      refine g_cVI (a := a) (ci := 4) (T := TX4) (N := 10) (av := [.int w4, .int u2]) (rest := [.int 1000, .int w3]) X hG hS (ct_X4_chanceOf l z k_a n_a hcr2) mt_X4_chanceOf ml_X4_129 rfl ⟨rfl, rfl, Nat.le_of_ble_eq_true rfl, Nat.le_of_ble_eq_true rfl⟩ ⟨Nat.le_refl 0, Nat.le_refl 0⟩ (nx_0 n_a) k_a (by decide) rfl hl.1 (Nat.le_of_ble_eq_true rfl) rfl dX4_lightAfter_22 (fun H locs hG hS => ?_)
      refine lv_isub hx hb dX4_lightAfter_25 ?_
      refine lv_imul hx hb dX4_lightAfter_26 ?_
      refine lv_sipush (v := 1000) hx hb dX4_lightAfter_27 (by decide) ?_
      refine lv_idiv hx hb dX4_lightAfter_30 (by decide) ?_
      refine lv_topi (fun x3 ex3 => ?_)
      have h := nm_y h x3 ex3
      refine lv_istore_n (lv' := [(3, .int x3), (0, .ref (gad z a)), (2, .int u2), (4, .int w4)]) hx hb dX4_lightAfter_31 rfl hl (by decide) rfl (fun ls hl => ?_)
      refine lv_iinc (v := (w4 + 1)) (lv' := [(4, .int (w4 + 1)), (3, .int x3), (0, .ref (gad z a)), (2, .int u2)]) hx hb dX4_lightAfter_32 hl (k := 3) rfl rfl (by decide) rfl (fun ls hl => ?_)
      refine lv_goto (tgt := 5) hx hb dX4_lightAfter_35 (by decide) ?_
      exact ih x3 (w4 + 1) _ _ _ h hG hS (lv_sub hl [2, 3, 1, 0] rfl)
set_option maxRecDepth 100000 in
set_option maxHeartbeats 4000000 in
theorem ct_X4_lightAfter (l : Launch) (z : gZ) {N : Nat} {M : Mem} {a : Nat} {v1 : Int32} {v2 : Int32} {o : Int32} (k_a : kd a = 4) (n_a : a + 8 ≤ gn z) (h : fX4_lightAfter N M a v1 v2 = some o) : CtI l z yX4_lightAfter cX4_lightAfter 5 (some .int) { frames := 3, cells := 0, slots := 0, locals := 69 } [.ref (gad z a), .int v1, .int v2] M o M := by
  refine Ct_of rfl (Nat.le_of_ble_eq_true rfl) ?_
  intro p e s m below meth c ls X hr hlk hG hS hl
  have X : gX p m c _ _ s _ RX4 z := X
  have hl : lv_has ls 5 [(0, .ref (gad z a)), (1, .int v1), (2, .int v2)] := hl
  have hx := X.1
  have hb := X.2.1
  unfold fX4_lightAfter at h
  refine lv_iload_n hx hb dX4_lightAfter_0 rfl (lv_at hl 1 rfl) ?_
  refine lv_istore_n (lv' := [(3, .int v1), (0, .ref (gad z a)), (1, .int v1), (2, .int v2)]) hx hb dX4_lightAfter_1 rfl hl (by decide) rfl (fun ls hl => ?_)
  refine lv_iconst (v := 0) hx hb dX4_lightAfter_2 (by decide) ?_
  refine lv_istore (lv' := [(4, .int 0), (3, .int v1), (0, .ref (gad z a)), (1, .int v1), (2, .int v2)]) hx hb dX4_lightAfter_3 hl (by decide) rfl (fun ls hl => ?_)
  refine wX4_lightAfter_5 X hr hlk k_a n_a _ _ _ _ _ _ h hG hS (lv_sub hl [2, 4, 1, 0] rfl)
set_option maxRecDepth 100000 in
set_option maxHeartbeats 4000000 in
theorem ct_X4_become (l : Launch) (z : gZ) {N : Nat} {M : Mem} {a : Nat} {b1 : Nat} {o : Mem} (k_a : kd a = 4) (n_a : a + 8 ≤ gn z) (k_b1 : kd b1 = 4) (n_b1 : b1 + 8 ≤ gn z) (h : fX4_become N M a b1 = some o) : CtV l z yX4_become cX4_become 2 none { frames := 1, cells := 0, slots := 0, locals := 30 } [.ref (gad z a), .ref (gad z b1)] M o := by
  refine Ct_of rfl (Nat.le_of_ble_eq_true rfl) ?_
  intro p e s m below meth c ls X hr hlk hG hS hl
  have X : gX p m c _ _ s _ RX4 z := X
  have hl : lv_has ls 2 [(0, .ref (gad z a)), (1, .ref (gad z b1))] := hl
  have hx := X.1
  have hb := X.2.1
  unfold fX4_become at h
  refine lv_aload_n hx hb dX4_become_0 rfl (lv_at hl 0 rfl) ?_
  refine lv_aload_n hx hb dX4_become_1 rfl (lv_at hl 1 rfl) ?_
  refine gf_X4_7 X hG (nx_0 n_b1) k_b1 fl_X4_33 dX4_become_2 ?_
  refine pf_X4_7 X hG hS (nx_0 n_a) k_a fl_X4_33 dX4_become_5 (fun H locs hG hS => ?_)
  obtain ⟨M1, eM1⟩ : ∃ y, y = sI M a 7 (M.1 b1 7) := ⟨_, rfl⟩
  rw [← eM1] at hG
  have h := nm_y h M1 eM1
  refine lv_aload_n hx hb dX4_become_8 rfl (lv_at hl 0 rfl) ?_
  refine lv_aload_n hx hb dX4_become_9 rfl (lv_at hl 1 rfl) ?_
  refine gf_X4_8 X hG (nx_0 n_b1) k_b1 fl_X4_37 dX4_become_10 ?_
  refine pf_X4_8 X hG hS (nx_0 n_a) k_a fl_X4_37 dX4_become_13 (fun H locs hG hS => ?_)
  obtain ⟨M2, eM2⟩ : ∃ y, y = sI M1 a 8 (M1.1 b1 8) := ⟨_, rfl⟩
  rw [← eM2] at hG
  have h := nm_y h M2 eM2
  refine lv_aload_n hx hb dX4_become_16 rfl (lv_at hl 0 rfl) ?_
  refine lv_aload_n hx hb dX4_become_17 rfl (lv_at hl 1 rfl) ?_
  refine gf_X4_9 X hG (nx_0 n_b1) k_b1 fl_X4_40 dX4_become_18 ?_
  refine pf_X4_9 X hG hS (nx_0 n_a) k_a fl_X4_40 dX4_become_21 (fun H locs hG hS => ?_)
  obtain ⟨M3, eM3⟩ : ∃ y, y = sI M2 a 9 (M2.1 b1 9) := ⟨_, rfl⟩
  rw [← eM3] at hG
  have h := nm_y h M3 eM3
  refine lv_aload_n hx hb dX4_become_24 rfl (lv_at hl 1 rfl) ?_
  refine gf_X4_0 X hG (nx_0 n_b1) k_b1 fl_X4_9 dX4_become_25 ?_
  refine lv_iconst (v := 0) hx hb dX4_become_28 (by decide) ?_
  refine lv_aload_n hx hb dX4_become_29 rfl (lv_at hl 0 rfl) ?_
  refine gf_X4_0 X hG (nx_0 n_a) k_a fl_X4_9 dX4_become_30 ?_
  refine lv_iconst (v := 0) hx hb dX4_become_33 (by decide) ?_
  refine lv_bipush (v := 12) hx hb dX4_become_34 (by decide) ?_
  obtain ⟨q4, h⟩ := gc_y h
  refine g_copyI X hG hS (nx_a (a := b1) (k := 1) (n := 8) n_b1 (Nat.le_of_ble_eq_true rfl)) (kx_4_1 k_b1) (by decide) (nx_a (a := a) (k := 1) (n := 8) n_a (Nat.le_of_ble_eq_true rfl)) (kx_4_1 k_a) (by decide) q4 ac_X4_49 hl.1 (Nat.le_of_ble_eq_true rfl) (Nat.le_of_ble_eq_true rfl) dX4_become_36 (fun H locs hG hS => ?_)
  obtain ⟨M5, eM5⟩ : ∃ y, y = fI M3 (a + 1) (va_cpy (M3.1 (b1 + 1)) (M3.1 (a + 1)) (0 : Int32).toNatClampNeg (0 : Int32).toNatClampNeg (12 : Int32).toNatClampNeg) := ⟨_, rfl⟩
  rw [← eM5] at hG
  have h := nm_y h M5 eM5
  refine lv_aload_n hx hb dX4_become_39 rfl (lv_at hl 1 rfl) ?_
  refine gf_X4_1 X hG (nx_0 n_b1) k_b1 fl_X4_15 dX4_become_40 ?_
  refine lv_iconst (v := 0) hx hb dX4_become_43 (by decide) ?_
  refine lv_aload_n hx hb dX4_become_44 rfl (lv_at hl 0 rfl) ?_
  refine gf_X4_1 X hG (nx_0 n_a) k_a fl_X4_15 dX4_become_45 ?_
  refine lv_iconst (v := 0) hx hb dX4_become_48 (by decide) ?_
  refine lv_bipush (v := 12) hx hb dX4_become_49 (by decide) ?_
  obtain ⟨q6, h⟩ := gc_y h
  refine g_copyI X hG hS (nx_a (a := b1) (k := 2) (n := 8) n_b1 (Nat.le_of_ble_eq_true rfl)) (kx_4_2 k_b1) (by decide) (nx_a (a := a) (k := 2) (n := 8) n_a (Nat.le_of_ble_eq_true rfl)) (kx_4_2 k_a) (by decide) q6 ac_X4_49 hl.1 (Nat.le_of_ble_eq_true rfl) (Nat.le_of_ble_eq_true rfl) dX4_become_51 (fun H locs hG hS => ?_)
  obtain ⟨M7, eM7⟩ : ∃ y, y = fI M5 (a + 2) (va_cpy (M5.1 (b1 + 2)) (M5.1 (a + 2)) (0 : Int32).toNatClampNeg (0 : Int32).toNatClampNeg (12 : Int32).toNatClampNeg) := ⟨_, rfl⟩
  rw [← eM7] at hG
  have h := nm_y h M7 eM7
  refine lv_aload_n hx hb dX4_become_54 rfl (lv_at hl 1 rfl) ?_
  refine gf_X4_2 X hG (nx_0 n_b1) k_b1 fl_X4_18 dX4_become_55 ?_
  refine lv_iconst (v := 0) hx hb dX4_become_58 (by decide) ?_
  refine lv_aload_n hx hb dX4_become_59 rfl (lv_at hl 0 rfl) ?_
  refine gf_X4_2 X hG (nx_0 n_a) k_a fl_X4_18 dX4_become_60 ?_
  refine lv_iconst (v := 0) hx hb dX4_become_63 (by decide) ?_
  refine lv_bipush (v := 12) hx hb dX4_become_64 (by decide) ?_
  obtain ⟨q8, h⟩ := gc_y h
  refine g_copyI X hG hS (nx_a (a := b1) (k := 3) (n := 8) n_b1 (Nat.le_of_ble_eq_true rfl)) (kx_4_3 k_b1) (by decide) (nx_a (a := a) (k := 3) (n := 8) n_a (Nat.le_of_ble_eq_true rfl)) (kx_4_3 k_a) (by decide) q8 ac_X4_49 hl.1 (Nat.le_of_ble_eq_true rfl) (Nat.le_of_ble_eq_true rfl) dX4_become_66 (fun H locs hG hS => ?_)
  obtain ⟨M9, eM9⟩ : ∃ y, y = fI M7 (a + 3) (va_cpy (M7.1 (b1 + 3)) (M7.1 (a + 3)) (0 : Int32).toNatClampNeg (0 : Int32).toNatClampNeg (12 : Int32).toNatClampNeg) := ⟨_, rfl⟩
  rw [← eM9] at hG
  have h := nm_y h M9 eM9
  refine lv_aload_n hx hb dX4_become_69 rfl (lv_at hl 1 rfl) ?_
  refine gf_X4_3 X hG (nx_0 n_b1) k_b1 fl_X4_21 dX4_become_70 ?_
  refine lv_iconst (v := 0) hx hb dX4_become_73 (by decide) ?_
  refine lv_aload_n hx hb dX4_become_74 rfl (lv_at hl 0 rfl) ?_
  refine gf_X4_3 X hG (nx_0 n_a) k_a fl_X4_21 dX4_become_75 ?_
  refine lv_iconst (v := 0) hx hb dX4_become_78 (by decide) ?_
  refine lv_bipush (v := 12) hx hb dX4_become_79 (by decide) ?_
  obtain ⟨q10, h⟩ := gc_y h
  refine g_copyI X hG hS (nx_a (a := b1) (k := 4) (n := 8) n_b1 (Nat.le_of_ble_eq_true rfl)) (kx_4_4 k_b1) (by decide) (nx_a (a := a) (k := 4) (n := 8) n_a (Nat.le_of_ble_eq_true rfl)) (kx_4_4 k_a) (by decide) q10 ac_X4_49 hl.1 (Nat.le_of_ble_eq_true rfl) (Nat.le_of_ble_eq_true rfl) dX4_become_81 (fun H locs hG hS => ?_)
  obtain ⟨M11, eM11⟩ : ∃ y, y = fI M9 (a + 4) (va_cpy (M9.1 (b1 + 4)) (M9.1 (a + 4)) (0 : Int32).toNatClampNeg (0 : Int32).toNatClampNeg (12 : Int32).toNatClampNeg) := ⟨_, rfl⟩
  rw [← eM11] at hG
  have h := nm_y h M11 eM11
  refine lv_aload_n hx hb dX4_become_84 rfl (lv_at hl 1 rfl) ?_
  refine gf_X4_4 X hG (nx_0 n_b1) k_b1 fl_X4_24 dX4_become_85 ?_
  refine lv_iconst (v := 0) hx hb dX4_become_88 (by decide) ?_
  refine lv_aload_n hx hb dX4_become_89 rfl (lv_at hl 0 rfl) ?_
  refine gf_X4_4 X hG (nx_0 n_a) k_a fl_X4_24 dX4_become_90 ?_
  refine lv_iconst (v := 0) hx hb dX4_become_93 (by decide) ?_
  refine lv_bipush (v := 12) hx hb dX4_become_94 (by decide) ?_
  obtain ⟨q12, h⟩ := gc_y h
  refine g_copyI X hG hS (nx_a (a := b1) (k := 5) (n := 8) n_b1 (Nat.le_of_ble_eq_true rfl)) (kx_4_5 k_b1) (by decide) (nx_a (a := a) (k := 5) (n := 8) n_a (Nat.le_of_ble_eq_true rfl)) (kx_4_5 k_a) (by decide) q12 ac_X4_49 hl.1 (Nat.le_of_ble_eq_true rfl) (Nat.le_of_ble_eq_true rfl) dX4_become_96 (fun H locs hG hS => ?_)
  obtain ⟨M13, eM13⟩ : ∃ y, y = fI M11 (a + 5) (va_cpy (M11.1 (b1 + 5)) (M11.1 (a + 5)) (0 : Int32).toNatClampNeg (0 : Int32).toNatClampNeg (12 : Int32).toNatClampNeg) := ⟨_, rfl⟩
  rw [← eM13] at hG
  have h := nm_y h M13 eM13
  refine lv_aload_n hx hb dX4_become_99 rfl (lv_at hl 1 rfl) ?_
  refine gf_X4_5 X hG (nx_0 n_b1) k_b1 fl_X4_27 dX4_become_100 ?_
  refine lv_iconst (v := 0) hx hb dX4_become_103 (by decide) ?_
  refine lv_aload_n hx hb dX4_become_104 rfl (lv_at hl 0 rfl) ?_
  refine gf_X4_5 X hG (nx_0 n_a) k_a fl_X4_27 dX4_become_105 ?_
  refine lv_iconst (v := 0) hx hb dX4_become_108 (by decide) ?_
  refine lv_sipush (v := 144) hx hb dX4_become_109 (by decide) ?_
  obtain ⟨q14, h⟩ := gc_y h
  refine g_copyI X hG hS (nx_a (a := b1) (k := 6) (n := 8) n_b1 (Nat.le_of_ble_eq_true rfl)) (kx_4_6 k_b1) (by decide) (nx_a (a := a) (k := 6) (n := 8) n_a (Nat.le_of_ble_eq_true rfl)) (kx_4_6 k_a) (by decide) q14 ac_X4_49 hl.1 (Nat.le_of_ble_eq_true rfl) (Nat.le_of_ble_eq_true rfl) dX4_become_112 (fun H locs hG hS => ?_)
  obtain ⟨M15, eM15⟩ : ∃ y, y = fI M13 (a + 6) (va_cpy (M13.1 (b1 + 6)) (M13.1 (a + 6)) (0 : Int32).toNatClampNeg (0 : Int32).toNatClampNeg (144 : Int32).toNatClampNeg) := ⟨_, rfl⟩
  rw [← eM15] at hG
  have h := nm_y h M15 eM15
  refine lv_aload_n hx hb dX4_become_115 rfl (lv_at hl 1 rfl) ?_
  refine gf_X4_6 X hG (nx_0 n_b1) k_b1 fl_X4_30 dX4_become_116 ?_
  refine lv_iconst (v := 0) hx hb dX4_become_119 (by decide) ?_
  refine lv_aload_n hx hb dX4_become_120 rfl (lv_at hl 0 rfl) ?_
  refine gf_X4_6 X hG (nx_0 n_a) k_a fl_X4_30 dX4_become_121 ?_
  refine lv_iconst (v := 0) hx hb dX4_become_124 (by decide) ?_
  refine lv_bipush (v := 12) hx hb dX4_become_125 (by decide) ?_
  obtain ⟨q16, h⟩ := gc_y h
  refine g_copyI X hG hS (nx_a (a := b1) (k := 7) (n := 8) n_b1 (Nat.le_of_ble_eq_true rfl)) (kx_4_7 k_b1) (by decide) (nx_a (a := a) (k := 7) (n := 8) n_a (Nat.le_of_ble_eq_true rfl)) (kx_4_7 k_a) (by decide) q16 ac_X4_49 hl.1 (Nat.le_of_ble_eq_true rfl) (Nat.le_of_ble_eq_true rfl) dX4_become_127 (fun H locs hG hS => ?_)
  obtain ⟨M17, eM17⟩ : ∃ y, y = fI M15 (a + 7) (va_cpy (M15.1 (b1 + 7)) (M15.1 (a + 7)) (0 : Int32).toNatClampNeg (0 : Int32).toNatClampNeg (12 : Int32).toNatClampNeg) := ⟨_, rfl⟩
  rw [← eM17] at hG
  have h := nm_y h M17 eM17
  obtain rfl := Option.some.inj h
  exact g_vret X hr hlk hG hS dX4_become_130
set_option maxRecDepth 100000 in
set_option maxHeartbeats 4000000 in
theorem ct_X2_start (l : Launch) (z : gZ) {N : Nat} {M : Mem} {a : Nat} {b1 : Nat} {v2 : Int32} {o : Mem} (k_a : kd a = 2) (n_a : a + 9 ≤ gn z) (k_b1 : kd b1 = 4) (n_b1 : b1 + 8 ≤ gn z) (h : fX2_start N M a b1 v2 = some o) : CtV l z yX2_start cX2_start 3 none { frames := 2, cells := 0, slots := 0, locals := 51 } [.ref (gad z a), .ref (gad z b1), .int v2] M o := by
  refine Ct_of rfl (Nat.le_of_ble_eq_true rfl) ?_
  intro p e s m below meth c ls X hr hlk hG hS hl
  have X : gX p m c _ _ s _ RX2 z := X
  have hl : lv_has ls 3 [(0, .ref (gad z a)), (1, .ref (gad z b1)), (2, .int v2)] := hl
  have hx := X.1
  have hb := X.2.1
  unfold fX2_start at h
  refine lv_aload_n hx hb dX2_start_0 rfl (lv_at hl 0 rfl) ?_
  refine gf_X2_0 X hG (nx_0 n_a) k_a fl_X2_12 dX2_start_1 ?_
  refine lv_aload_n hx hb dX2_start_4 rfl (lv_at hl 1 rfl) ?_
  obtain ⟨r1, hcr1, h⟩ := bd_y h
  refine g_cVV (a := (a + 1)) (ci := 4) (T := TX4) (N := 10) (av := [.ref (gad z b1)]) (rest := []) X hG hS (ct_X4_become l z (kx_2_1 k_a) (nx_o (a := a) (k := 1) (n := 9) (c := 8) n_a (Nat.le_of_ble_eq_true rfl)) k_b1 n_b1 hcr1) mt_X4_become ml_X2_18 rfl ⟨rfl, rfl, Nat.le_of_ble_eq_true rfl, Nat.le_of_ble_eq_true rfl⟩ ⟨Nat.le_refl 0, Nat.le_refl 0⟩ (nx_0 (nx_o (a := a) (k := 1) (n := 9) (c := 8) n_a (Nat.le_of_ble_eq_true rfl))) (kx_2_1 k_a) (by decide) rfl hl.1 (Nat.le_of_ble_eq_true rfl) rfl dX2_start_5 (fun H locs hG hS => ?_)
  refine lv_aload_n hx hb dX2_start_8 rfl (lv_at hl 0 rfl) ?_
  refine lv_iconst (v := 1) hx hb dX2_start_9 (by decide) ?_
  refine pf_X2_1 X hG hS (by decide) (nx_0 n_a) k_a fl_X2_22 dX2_start_10 (fun H locs hG hS => ?_)
  obtain ⟨M2, eM2⟩ : ∃ y, y = sI r1 a 1 1 := ⟨_, rfl⟩
  rw [← eM2] at hG
  have h := nm_y h M2 eM2
  refine lv_aload_n hx hb dX2_start_13 rfl (lv_at hl 0 rfl) ?_
  refine lv_iload_n hx hb dX2_start_14 rfl (lv_at hl 2 rfl) ?_
  refine pf_X2_2 X hG hS (nx_0 n_a) k_a fl_X2_26 dX2_start_15 (fun H locs hG hS => ?_)
  obtain ⟨M3, eM3⟩ : ∃ y, y = sI M2 a 2 v2 := ⟨_, rfl⟩
  rw [← eM3] at hG
  have h := nm_y h M3 eM3
  refine lv_aload_n hx hb dX2_start_18 rfl (lv_at hl 0 rfl) ?_
  refine lv_iconst (v := 0) hx hb dX2_start_19 (by decide) ?_
  refine pf_X2_3 X hG hS (nx_0 n_a) k_a fl_X2_30 dX2_start_20 (fun H locs hG hS => ?_)
  obtain ⟨M4, eM4⟩ : ∃ y, y = sI M3 a 3 0 := ⟨_, rfl⟩
  rw [← eM4] at hG
  have h := nm_y h M4 eM4
  refine lv_aload_n hx hb dX2_start_23 rfl (lv_at hl 0 rfl) ?_
  refine lv_iconst (v := 0) hx hb dX2_start_24 (by decide) ?_
  refine pf_X2_4 X hG hS (nx_0 n_a) k_a fl_X2_33 dX2_start_25 (fun H locs hG hS => ?_)
  obtain ⟨M5, eM5⟩ : ∃ y, y = sI M4 a 4 0 := ⟨_, rfl⟩
  rw [← eM5] at hG
  have h := nm_y h M5 eM5
  refine lv_aload_n hx hb dX2_start_28 rfl (lv_at hl 0 rfl) ?_
  refine lv_iconst (v := (-1)) hx hb dX2_start_29 (by decide) ?_
  refine pf_X2_5 X hG hS (nx_0 n_a) k_a fl_X2_36 dX2_start_30 (fun H locs hG hS => ?_)
  obtain ⟨M6, eM6⟩ : ∃ y, y = sI M5 a 5 (-1) := ⟨_, rfl⟩
  rw [← eM6] at hG
  have h := nm_y h M6 eM6
  obtain rfl := Option.some.inj h
  exact g_vret X hr hlk hG hS dX2_start_33
set_option maxRecDepth 100000 in
set_option maxHeartbeats 4000000 in
theorem ct_X2_isDone (l : Launch) (z : gZ) {N : Nat} {M : Mem} {a : Nat} {o : Int32} (k_a : kd a = 2) (n_a : a + 9 ≤ gn z) (h : fX2_isDone N M a = some o) : CtI l z yX2_isDone cX2_isDone 1 (some .boolean) { frames := 1, cells := 0, slots := 0, locals := 20 } [.ref (gad z a)] M o M := by
  refine Ct_of rfl (Nat.le_of_ble_eq_true rfl) ?_
  intro p e s m below meth c ls X hr hlk hG hS hl
  have X : gX p m c _ _ s _ RX2 z := X
  have hl : lv_has ls 1 [(0, .ref (gad z a))] := hl
  have hx := X.1
  have hb := X.2.1
  unfold fX2_isDone at h
  refine lv_aload_n hx hb dX2_isDone_0 rfl (lv_at hl 0 rfl) ?_
  refine gf_X2_3 X hG (nx_0 n_a) k_a fl_X2_30 dX2_isDone_1 ?_
  refine lv_aload_n hx hb dX2_isDone_4 rfl (lv_at hl 0 rfl) ?_
  refine gf_X2_0 X hG (nx_0 n_a) k_a fl_X2_12 dX2_isDone_5 ?_
  obtain ⟨r1, hcr1, h⟩ := bd_y h
  refine g_cVI (a := (a + 1)) (ci := 4) (T := TX4) (N := 10) (av := []) (rest := [.int (M.1 a 3)]) X hG hS (ct_X4_sets l z (kx_2_1 k_a) (nx_o (a := a) (k := 1) (n := 9) (c := 8) n_a (Nat.le_of_ble_eq_true rfl)) hcr1) mt_X4_sets ml_X2_39 rfl ⟨rfl, rfl, Nat.le_of_ble_eq_true rfl, Nat.le_of_ble_eq_true rfl⟩ ⟨Nat.le_refl 0, Nat.le_refl 0⟩ (nx_0 (nx_o (a := a) (k := 1) (n := 9) (c := 8) n_a (Nat.le_of_ble_eq_true rfl))) (kx_2_1 k_a) (by decide) rfl hl.1 (Nat.le_of_ble_eq_true rfl) rfl dX2_isDone_8 (fun H locs hG hS => ?_)
  refine lv_icmp_lt (tgt := 18) hx hb dX2_isDone_11 (by decide) (fun q2 => ?_) (fun q2 => ?_)
  · have h := ite_y h q2
    refine lv_iconst (v := 0) hx hb dX2_isDone_18 (by decide) ?_
    obtain rfl := Option.some.inj h
    exact g_zret (zn (Or.inl rfl)) X hr hlk hG hS dX2_isDone_19
  · have h := ite_n h q2
    refine lv_iconst (v := 1) hx hb dX2_isDone_14 (by decide) ?_
    refine lv_goto (tgt := 19) hx hb dX2_isDone_15 (by decide) ?_
    obtain rfl := Option.some.inj h
    exact g_zret (zn (Or.inr rfl)) X hr hlk hG hS dX2_isDone_19
set_option maxRecDepth 100000 in
set_option maxHeartbeats 4000000 in
theorem wX2_advance_7 {N : Nat} {p : Program} {l : Launch} {e : Env} {s : State} {m : MethodId} {args : Array Value} {below : List Frame} {meth : Method} {c : Code} {z : gZ} {a : Nat} {u1 : Int32} {u2 : Int32} {o : Int32 × Mem} (X : gX p m c cX2_advance 4 s args RX2 z) (hr : meth.sig.returnType = (some .int)) (hlk : meth.locks = false) (k_a : kd a = 2) (n_a : a + 9 ≤ gn z)  : ∀ (n : Nat) (Mw : Mem) (w3 : Int32) (H : Heap) (locs : List Loc) (ls : Array Slot), fX2_advance_7 N a u1 u2  n Mw w3 = some o → gW z Mw H → va_S (gA z) s.heap H locs → lv_has ls 4 [(0, .ref (gad z a)), (1, .int u1), (2, .int u2), (3, .int w3)] → W p l e { frames := 4, cells := 0, slots := 0, locals := 89 } s m args below meth c H locs 0 0 (MQ below (va_Qi (fun r' (_ : Unit) => r' = o.1) (fun _ t => gW z o.2 t.heap) (gA z)) args s 0 0 (gA z)) (F0 m 7 ls []) := by
  have hx := X.1
  have hb := X.2.1
  intro n
  induction n with
  | zero => intro Mw w3 H locs ls h; cases h
  | succ n ih =>
    intro Mw w3 H locs ls h hG hS hl
    rw [fX2_advance_7] at h
    refine lv_iload_n hx hb dX2_advance_7 rfl (lv_at hl 3 rfl) ?_
    refine lv_iload_n hx hb dX2_advance_8 rfl (lv_at hl 1 rfl) ?_
    refine lv_icmp_ge (tgt := 67) hx hb dX2_advance_9 (by decide) (fun q1 => ?_) (fun q1 => ?_)
    · have h := ite_y h q1
      refine lv_aload_n hx hb dX2_advance_67 rfl (lv_at hl 0 rfl) ?_
      refine gf_X2_4 X hG (nx_0 n_a) k_a fl_X2_33 dX2_advance_68 ?_
      refine lv_iload_n hx hb dX2_advance_71 rfl (lv_at hl 2 rfl) ?_
      refine lv_isub hx hb dX2_advance_72 ?_
      obtain rfl := Option.some.inj h
      exact g_iret X hr hlk hG hS dX2_advance_73
    · have h := ite_n h q1
      refine lv_aload_n hx hb dX2_advance_12 rfl (lv_at hl 0 rfl) ?_
      obtain ⟨r2, hcr2, h⟩ := bd_y h
      refine g_cVI (a := a) (ci := 2) (T := TX2) (N := 6) (av := []) (rest := []) X hG hS (ct_X2_isDone l z k_a n_a hcr2) mt_X2_isDone ml_X2_43 rfl ⟨rfl, rfl, Nat.le_of_ble_eq_true rfl, Nat.le_of_ble_eq_true rfl⟩ ⟨Nat.le_refl 0, Nat.le_refl 0⟩ (nx_0 n_a) k_a (by decide) rfl hl.1 (Nat.le_of_ble_eq_true rfl) rfl dX2_advance_13 (fun H locs hG hS => ?_)
      refine lv_if_ne (tgt := 67) hx hb dX2_advance_16 (by decide) (fun q3 => ?_) (fun q3 => ?_)
      · have h := ite_n h q3
        refine lv_aload_n hx hb dX2_advance_67 rfl (lv_at hl 0 rfl) ?_
        refine gf_X2_4 X hG (nx_0 n_a) k_a fl_X2_33 dX2_advance_68 ?_
        refine lv_iload_n hx hb dX2_advance_71 rfl (lv_at hl 2 rfl) ?_
        refine lv_isub hx hb dX2_advance_72 ?_
        obtain rfl := Option.some.inj h
        exact g_iret X hr hlk hG hS dX2_advance_73
      · have h := ite_y h q3
        refine lv_aload_n hx hb dX2_advance_19 rfl (lv_at hl 0 rfl) ?_
        refine gf_X2_0 X hG (nx_0 n_a) k_a fl_X2_12 dX2_advance_20 ?_
        refine lv_aload_n hx hb dX2_advance_23 rfl (lv_at hl 0 rfl) ?_
        refine gf_X2_3 X hG (nx_0 n_a) k_a fl_X2_30 dX2_advance_24 ?_
        obtain ⟨r4, hcr4, h⟩ := bd_y h
        refine g_cVI (a := (a + 1)) (ci := 4) (T := TX4) (N := 10) (av := [.int (Mw.1 a 3)]) (rest := []) X hG hS (ct_X4_isRest l z (kx_2_1 k_a) (nx_o (a := a) (k := 1) (n := 9) (c := 8) n_a (Nat.le_of_ble_eq_true rfl)) hcr4) mt_X4_isRest ml_X2_47 rfl ⟨rfl, rfl, Nat.le_of_ble_eq_true rfl, Nat.le_of_ble_eq_true rfl⟩ ⟨Nat.le_refl 0, Nat.le_refl 0⟩ (nx_0 (nx_o (a := a) (k := 1) (n := 9) (c := 8) n_a (Nat.le_of_ble_eq_true rfl))) (kx_2_1 k_a) (by decide) rfl hl.1 (Nat.le_of_ble_eq_true rfl) rfl dX2_advance_27 (fun H locs hG hS => ?_)
        refine lv_if_eq (tgt := 51) hx hb dX2_advance_30 (by decide) (fun q5 => ?_) (fun q5 => ?_)
        · have h := ite_y h q5
          refine lv_aload_n hx hb dX2_advance_51 rfl (lv_at hl 0 rfl) ?_
          refine lv_dup hx hb dX2_advance_52 rfl ?_
          refine gf_X2_3 X hG (nx_0 n_a) k_a fl_X2_30 dX2_advance_53 ?_
          refine lv_iconst (v := 1) hx hb dX2_advance_56 (by decide) ?_
          refine lv_iadd hx hb dX2_advance_57 ?_
          refine pf_X2_3 X hG hS (nx_0 n_a) k_a fl_X2_30 dX2_advance_58 (fun H locs hG hS => ?_)
          obtain ⟨M6, eM6⟩ : ∃ y, y = sI Mw a 3 ((Mw.1 a 3) + 1) := ⟨_, rfl⟩
          rw [← eM6] at hG
          have h := nm_y h M6 eM6
          refine lv_iinc (v := (w3 + 1)) (lv' := [(3, .int (w3 + 1)), (0, .ref (gad z a)), (1, .int u1), (2, .int u2)]) hx hb dX2_advance_61 hl (k := 3) rfl rfl (by decide) rfl (fun ls hl => ?_)
          refine lv_goto (tgt := 7) hx hb dX2_advance_64 (by decide) ?_
          exact ih M6 (w3 + 1) _ _ _ h hG hS (lv_sub hl [1, 2, 3, 0] rfl)
        · have h := ite_n h q5
          refine lv_aload_n hx hb dX2_advance_33 rfl (lv_at hl 0 rfl) ?_
          refine lv_dup hx hb dX2_advance_34 rfl ?_
          refine gf_X2_4 X hG (nx_0 n_a) k_a fl_X2_33 dX2_advance_35 ?_
          refine lv_iconst (v := 1) hx hb dX2_advance_38 (by decide) ?_
          refine lv_iadd hx hb dX2_advance_39 ?_
          refine pf_X2_4 X hG hS (nx_0 n_a) k_a fl_X2_33 dX2_advance_40 (fun H locs hG hS => ?_)
          obtain ⟨M7, eM7⟩ : ∃ y, y = sI Mw a 4 ((Mw.1 a 4) + 1) := ⟨_, rfl⟩
          rw [← eM7] at hG
          have h := nm_y h M7 eM7
          refine lv_aload_n hx hb dX2_advance_43 rfl (lv_at hl 0 rfl) ?_
          refine lv_aload_n hx hb dX2_advance_44 rfl (lv_at hl 0 rfl) ?_
          refine gf_X2_3 X hG (nx_0 n_a) k_a fl_X2_30 dX2_advance_45 ?_
          refine pf_X2_5 X hG hS (nx_0 n_a) k_a fl_X2_36 dX2_advance_48 (fun H locs hG hS => ?_)
          obtain ⟨M8, eM8⟩ : ∃ y, y = sI M7 a 5 (M7.1 a 3) := ⟨_, rfl⟩
          rw [← eM8] at hG
          have h := nm_y h M8 eM8
          refine lv_aload_n hx hb dX2_advance_51 rfl (lv_at hl 0 rfl) ?_
          refine lv_dup hx hb dX2_advance_52 rfl ?_
          refine gf_X2_3 X hG (nx_0 n_a) k_a fl_X2_30 dX2_advance_53 ?_
          refine lv_iconst (v := 1) hx hb dX2_advance_56 (by decide) ?_
          refine lv_iadd hx hb dX2_advance_57 ?_
          refine pf_X2_3 X hG hS (nx_0 n_a) k_a fl_X2_30 dX2_advance_58 (fun H locs hG hS => ?_)
          obtain ⟨M9, eM9⟩ : ∃ y, y = sI M8 a 3 ((M8.1 a 3) + 1) := ⟨_, rfl⟩
          rw [← eM9] at hG
          have h := nm_y h M9 eM9
          refine lv_iinc (v := (w3 + 1)) (lv' := [(3, .int (w3 + 1)), (0, .ref (gad z a)), (1, .int u1), (2, .int u2)]) hx hb dX2_advance_61 hl (k := 3) rfl rfl (by decide) rfl (fun ls hl => ?_)
          refine lv_goto (tgt := 7) hx hb dX2_advance_64 (by decide) ?_
          exact ih M9 (w3 + 1) _ _ _ h hG hS (lv_sub hl [1, 2, 3, 0] rfl)
set_option maxRecDepth 100000 in
set_option maxHeartbeats 4000000 in
theorem ct_X2_advance (l : Launch) (z : gZ) {N : Nat} {M : Mem} {a : Nat} {v1 : Int32} {o : Int32 × Mem} (k_a : kd a = 2) (n_a : a + 9 ≤ gn z) (h : fX2_advance N M a v1 = some o) : CtI l z yX2_advance cX2_advance 4 (some .int) { frames := 4, cells := 0, slots := 0, locals := 89 } [.ref (gad z a), .int v1] M o.1 o.2 := by
  refine Ct_of rfl (Nat.le_of_ble_eq_true rfl) ?_
  intro p e s m below meth c ls X hr hlk hG hS hl
  have X : gX p m c _ _ s _ RX2 z := X
  have hl : lv_has ls 4 [(0, .ref (gad z a)), (1, .int v1)] := hl
  have hx := X.1
  have hb := X.2.1
  unfold fX2_advance at h
  refine lv_aload_n hx hb dX2_advance_0 rfl (lv_at hl 0 rfl) ?_
  refine gf_X2_4 X hG (nx_0 n_a) k_a fl_X2_33 dX2_advance_1 ?_
  refine lv_topi (fun x1 ex1 => ?_)
  have h := nm_y h x1 ex1
  refine lv_istore_n (lv' := [(2, .int x1), (0, .ref (gad z a)), (1, .int v1)]) hx hb dX2_advance_4 rfl hl (by decide) rfl (fun ls hl => ?_)
  refine lv_iconst (v := 0) hx hb dX2_advance_5 (by decide) ?_
  refine lv_istore_n (lv' := [(3, .int 0), (2, .int x1), (0, .ref (gad z a)), (1, .int v1)]) hx hb dX2_advance_6 rfl hl (by decide) rfl (fun ls hl => ?_)
  refine wX2_advance_7 X hr hlk k_a n_a _ _ _ _ _ _ h hG hS (lv_sub hl [2, 3, 1, 0] rfl)
set_option maxRecDepth 100000 in
set_option maxHeartbeats 4000000 in
theorem ct_X2_become (l : Launch) (z : gZ) {N : Nat} {M : Mem} {a : Nat} {b1 : Nat} {o : Mem} (k_a : kd a = 2) (n_a : a + 9 ≤ gn z) (k_b1 : kd b1 = 2) (n_b1 : b1 + 9 ≤ gn z) (h : fX2_become N M a b1 = some o) : CtV l z yX2_become cX2_become 2 none { frames := 2, cells := 0, slots := 0, locals := 51 } [.ref (gad z a), .ref (gad z b1)] M o := by
  refine Ct_of rfl (Nat.le_of_ble_eq_true rfl) ?_
  intro p e s m below meth c ls X hr hlk hG hS hl
  have X : gX p m c _ _ s _ RX2 z := X
  have hl : lv_has ls 2 [(0, .ref (gad z a)), (1, .ref (gad z b1))] := hl
  have hx := X.1
  have hb := X.2.1
  unfold fX2_become at h
  refine lv_aload_n hx hb dX2_become_0 rfl (lv_at hl 0 rfl) ?_
  refine gf_X2_0 X hG (nx_0 n_a) k_a fl_X2_12 dX2_become_1 ?_
  refine lv_aload_n hx hb dX2_become_4 rfl (lv_at hl 1 rfl) ?_
  refine gf_X2_0 X hG (nx_0 n_b1) k_b1 fl_X2_12 dX2_become_5 ?_
  obtain ⟨r1, hcr1, h⟩ := bd_y h
  refine g_cVV (a := (a + 1)) (ci := 4) (T := TX4) (N := 10) (av := [.ref (gad z (b1 + 1))]) (rest := []) X hG hS (ct_X4_become l z (kx_2_1 k_a) (nx_o (a := a) (k := 1) (n := 9) (c := 8) n_a (Nat.le_of_ble_eq_true rfl)) (kx_2_1 k_b1) (nx_o (a := b1) (k := 1) (n := 9) (c := 8) n_b1 (Nat.le_of_ble_eq_true rfl)) hcr1) mt_X4_become ml_X2_18 rfl ⟨rfl, rfl, Nat.le_of_ble_eq_true rfl, Nat.le_of_ble_eq_true rfl⟩ ⟨Nat.le_refl 0, Nat.le_refl 0⟩ (nx_0 (nx_o (a := a) (k := 1) (n := 9) (c := 8) n_a (Nat.le_of_ble_eq_true rfl))) (kx_2_1 k_a) (by decide) rfl hl.1 (Nat.le_of_ble_eq_true rfl) rfl dX2_become_8 (fun H locs hG hS => ?_)
  refine lv_aload_n hx hb dX2_become_11 rfl (lv_at hl 0 rfl) ?_
  refine lv_aload_n hx hb dX2_become_12 rfl (lv_at hl 1 rfl) ?_
  refine gf_X2_1 X hG (nx_0 n_b1) k_b1 fl_X2_22 dX2_become_13 ?_
  obtain ⟨q2, h⟩ := gc_y h
  refine pf_X2_1 X hG hS q2 (nx_0 n_a) k_a fl_X2_22 dX2_become_16 (fun H locs hG hS => ?_)
  obtain ⟨M3, eM3⟩ : ∃ y, y = sI r1 a 1 (r1.1 b1 1) := ⟨_, rfl⟩
  rw [← eM3] at hG
  have h := nm_y h M3 eM3
  refine lv_aload_n hx hb dX2_become_19 rfl (lv_at hl 0 rfl) ?_
  refine lv_aload_n hx hb dX2_become_20 rfl (lv_at hl 1 rfl) ?_
  refine gf_X2_2 X hG (nx_0 n_b1) k_b1 fl_X2_26 dX2_become_21 ?_
  refine pf_X2_2 X hG hS (nx_0 n_a) k_a fl_X2_26 dX2_become_24 (fun H locs hG hS => ?_)
  obtain ⟨M4, eM4⟩ : ∃ y, y = sI M3 a 2 (M3.1 b1 2) := ⟨_, rfl⟩
  rw [← eM4] at hG
  have h := nm_y h M4 eM4
  refine lv_aload_n hx hb dX2_become_27 rfl (lv_at hl 0 rfl) ?_
  refine lv_aload_n hx hb dX2_become_28 rfl (lv_at hl 1 rfl) ?_
  refine gf_X2_3 X hG (nx_0 n_b1) k_b1 fl_X2_30 dX2_become_29 ?_
  refine pf_X2_3 X hG hS (nx_0 n_a) k_a fl_X2_30 dX2_become_32 (fun H locs hG hS => ?_)
  obtain ⟨M5, eM5⟩ : ∃ y, y = sI M4 a 3 (M4.1 b1 3) := ⟨_, rfl⟩
  rw [← eM5] at hG
  have h := nm_y h M5 eM5
  refine lv_aload_n hx hb dX2_become_35 rfl (lv_at hl 0 rfl) ?_
  refine lv_aload_n hx hb dX2_become_36 rfl (lv_at hl 1 rfl) ?_
  refine gf_X2_4 X hG (nx_0 n_b1) k_b1 fl_X2_33 dX2_become_37 ?_
  refine pf_X2_4 X hG hS (nx_0 n_a) k_a fl_X2_33 dX2_become_40 (fun H locs hG hS => ?_)
  obtain ⟨M6, eM6⟩ : ∃ y, y = sI M5 a 4 (M5.1 b1 4) := ⟨_, rfl⟩
  rw [← eM6] at hG
  have h := nm_y h M6 eM6
  refine lv_aload_n hx hb dX2_become_43 rfl (lv_at hl 0 rfl) ?_
  refine lv_aload_n hx hb dX2_become_44 rfl (lv_at hl 1 rfl) ?_
  refine gf_X2_5 X hG (nx_0 n_b1) k_b1 fl_X2_36 dX2_become_45 ?_
  refine pf_X2_5 X hG hS (nx_0 n_a) k_a fl_X2_36 dX2_become_48 (fun H locs hG hS => ?_)
  obtain ⟨M7, eM7⟩ : ∃ y, y = sI M6 a 5 (M6.1 b1 5) := ⟨_, rfl⟩
  rw [← eM7] at hG
  have h := nm_y h M7 eM7
  obtain rfl := Option.some.inj h
  exact g_vret X hr hlk hG hS dX2_become_51
set_option maxRecDepth 100000 in
set_option maxHeartbeats 4000000 in
theorem wX5_become_2 {N : Nat} {p : Program} {l : Launch} {e : Env} {s : State} {m : MethodId} {args : Array Value} {below : List Frame} {meth : Method} {c : Code} {z : gZ} {a : Nat} {b1 : Nat} {o : Mem} (X : gX p m c cX5_become 3 s args RX5 z) (hr : meth.sig.returnType = none) (hlk : meth.locks = false) (k_a : kd a = 5) (n_a : a + 44 ≤ gn z) (k_b1 : kd b1 = 5) (n_b1 : b1 + 44 ≤ gn z)  : ∀ (n : Nat) (Mw : Mem) (w2 : Int32) (H : Heap) (locs : List Loc) (ls : Array Slot), fX5_become_2 N a b1  n Mw w2 = some o → gW z Mw H → va_S (gA z) s.heap H locs → lv_has ls 3 [(0, .ref (gad z a)), (1, .ref (gad z b1)), (2, .int w2)] → W p l e { frames := 3, cells := 0, slots := 0, locals := 72 } s m args below meth c H locs 0 0 (MQ below (va_Qv (fun (_ : Unit) => True) (fun _ t => gW z o t.heap) (gA z)) args s 0 0 (gA z)) (F0 m 2 ls []) := by
  have hx := X.1
  have hb := X.2.1
  intro n
  induction n with
  | zero => intro Mw w2 H locs ls h; cases h
  | succ n ih =>
    intro Mw w2 H locs ls h hG hS hl
    rw [fX5_become_2] at h
    refine lv_iload_n hx hb dX5_become_2 rfl (lv_at hl 2 rfl) ?_
    refine lv_aload_n hx hb dX5_become_3 rfl (lv_at hl 1 rfl) ?_
    refine gf_X5_3 X hG (nx_0 n_b1) k_b1 fl_X5_33 dX5_become_4 ?_
    refine lv_icmp_ge (tgt := 36) hx hb dX5_become_7 (by decide) (fun q1 => ?_) (fun q1 => ?_)
    · have h := ite_y h q1
      refine lv_aload_n hx hb dX5_become_36 rfl (lv_at hl 1 rfl) ?_
      refine gf_X5_1 X hG (nx_0 n_b1) k_b1 fl_X5_17 dX5_become_37 ?_
      refine lv_iconst (v := 0) hx hb dX5_become_40 (by decide) ?_
      refine lv_aload_n hx hb dX5_become_41 rfl (lv_at hl 0 rfl) ?_
      refine gf_X5_1 X hG (nx_0 n_a) k_a fl_X5_17 dX5_become_42 ?_
      refine lv_iconst (v := 0) hx hb dX5_become_45 (by decide) ?_
      refine lv_bipush (v := 6) hx hb dX5_become_46 (by decide) ?_
      obtain ⟨q2, h⟩ := gc_y h
      refine g_copyI X hG hS (nx_a (a := b1) (k := 2) (n := 44) n_b1 (Nat.le_of_ble_eq_true rfl)) (kx_5_2 k_b1) (by decide) (nx_a (a := a) (k := 2) (n := 44) n_a (Nat.le_of_ble_eq_true rfl)) (kx_5_2 k_a) (by decide) q2 ac_X5_40 hl.1 (Nat.le_of_ble_eq_true rfl) (Nat.le_of_ble_eq_true rfl) dX5_become_48 (fun H locs hG hS => ?_)
      obtain ⟨M3, eM3⟩ : ∃ y, y = fI Mw (a + 2) (va_cpy (Mw.1 (b1 + 2)) (Mw.1 (a + 2)) (0 : Int32).toNatClampNeg (0 : Int32).toNatClampNeg (6 : Int32).toNatClampNeg) := ⟨_, rfl⟩
      rw [← eM3] at hG
      have h := nm_y h M3 eM3
      refine lv_aload_n hx hb dX5_become_51 rfl (lv_at hl 0 rfl) ?_
      refine gf_X5_2 X hG (nx_0 n_a) k_a fl_X5_24 dX5_become_52 ?_
      refine lv_aload_n hx hb dX5_become_55 rfl (lv_at hl 1 rfl) ?_
      refine gf_X5_2 X hG (nx_0 n_b1) k_b1 fl_X5_24 dX5_become_56 ?_
      obtain ⟨r4, hcr4, h⟩ := bd_y h
      refine g_cVV (a := (a + 3)) (ci := 2) (T := TX2) (N := 6) (av := [.ref (gad z (b1 + 3))]) (rest := []) X hG hS (ct_X2_become l z (kx_5_3 k_a) (nx_o (a := a) (k := 3) (n := 44) (c := 9) n_a (Nat.le_of_ble_eq_true rfl)) (kx_5_3 k_b1) (nx_o (a := b1) (k := 3) (n := 44) (c := 9) n_b1 (Nat.le_of_ble_eq_true rfl)) hcr4) mt_X2_become ml_X5_46 rfl ⟨rfl, rfl, Nat.le_of_ble_eq_true rfl, Nat.le_of_ble_eq_true rfl⟩ ⟨Nat.le_refl 0, Nat.le_refl 0⟩ (nx_0 (nx_o (a := a) (k := 3) (n := 44) (c := 9) n_a (Nat.le_of_ble_eq_true rfl))) (kx_5_3 k_a) (by decide) rfl hl.1 (Nat.le_of_ble_eq_true rfl) rfl dX5_become_59 (fun H locs hG hS => ?_)
      refine lv_aload_n hx hb dX5_become_62 rfl (lv_at hl 0 rfl) ?_
      refine lv_aload_n hx hb dX5_become_63 rfl (lv_at hl 1 rfl) ?_
      refine gf_X5_3 X hG (nx_0 n_b1) k_b1 fl_X5_33 dX5_become_64 ?_
      refine pf_X5_3 X hG hS (nx_0 n_a) k_a fl_X5_33 dX5_become_67 (fun H locs hG hS => ?_)
      obtain ⟨M5, eM5⟩ : ∃ y, y = sI r4 a 3 (r4.1 b1 3) := ⟨_, rfl⟩
      rw [← eM5] at hG
      have h := nm_y h M5 eM5
      refine lv_aload_n hx hb dX5_become_70 rfl (lv_at hl 0 rfl) ?_
      refine lv_aload_n hx hb dX5_become_71 rfl (lv_at hl 1 rfl) ?_
      refine gf_X5_4 X hG (nx_0 n_b1) k_b1 fl_X5_28 dX5_become_72 ?_
      refine pf_X5_4 X hG hS (nx_0 n_a) k_a fl_X5_28 dX5_become_75 (fun H locs hG hS => ?_)
      obtain ⟨M6, eM6⟩ : ∃ y, y = sI M5 a 4 (M5.1 b1 4) := ⟨_, rfl⟩
      rw [← eM6] at hG
      have h := nm_y h M6 eM6
      obtain rfl := Option.some.inj h
      exact g_vret X hr hlk hG hS dX5_become_78
    · have h := ite_n h q1
      refine lv_iload_n hx hb dX5_become_10 rfl (lv_at hl 2 rfl) ?_
      refine lv_iconst (v := 4) hx hb dX5_become_11 (by decide) ?_
      refine lv_icmp_ge (tgt := 36) hx hb dX5_become_12 (by decide) (fun q7 => ?_) (fun q7 => ?_)
      · have h := ite_y h q7
        refine lv_aload_n hx hb dX5_become_36 rfl (lv_at hl 1 rfl) ?_
        refine gf_X5_1 X hG (nx_0 n_b1) k_b1 fl_X5_17 dX5_become_37 ?_
        refine lv_iconst (v := 0) hx hb dX5_become_40 (by decide) ?_
        refine lv_aload_n hx hb dX5_become_41 rfl (lv_at hl 0 rfl) ?_
        refine gf_X5_1 X hG (nx_0 n_a) k_a fl_X5_17 dX5_become_42 ?_
        refine lv_iconst (v := 0) hx hb dX5_become_45 (by decide) ?_
        refine lv_bipush (v := 6) hx hb dX5_become_46 (by decide) ?_
        obtain ⟨q8, h⟩ := gc_y h
        refine g_copyI X hG hS (nx_a (a := b1) (k := 2) (n := 44) n_b1 (Nat.le_of_ble_eq_true rfl)) (kx_5_2 k_b1) (by decide) (nx_a (a := a) (k := 2) (n := 44) n_a (Nat.le_of_ble_eq_true rfl)) (kx_5_2 k_a) (by decide) q8 ac_X5_40 hl.1 (Nat.le_of_ble_eq_true rfl) (Nat.le_of_ble_eq_true rfl) dX5_become_48 (fun H locs hG hS => ?_)
        obtain ⟨M9, eM9⟩ : ∃ y, y = fI Mw (a + 2) (va_cpy (Mw.1 (b1 + 2)) (Mw.1 (a + 2)) (0 : Int32).toNatClampNeg (0 : Int32).toNatClampNeg (6 : Int32).toNatClampNeg) := ⟨_, rfl⟩
        rw [← eM9] at hG
        have h := nm_y h M9 eM9
        refine lv_aload_n hx hb dX5_become_51 rfl (lv_at hl 0 rfl) ?_
        refine gf_X5_2 X hG (nx_0 n_a) k_a fl_X5_24 dX5_become_52 ?_
        refine lv_aload_n hx hb dX5_become_55 rfl (lv_at hl 1 rfl) ?_
        refine gf_X5_2 X hG (nx_0 n_b1) k_b1 fl_X5_24 dX5_become_56 ?_
        obtain ⟨r10, hcr10, h⟩ := bd_y h
        refine g_cVV (a := (a + 3)) (ci := 2) (T := TX2) (N := 6) (av := [.ref (gad z (b1 + 3))]) (rest := []) X hG hS (ct_X2_become l z (kx_5_3 k_a) (nx_o (a := a) (k := 3) (n := 44) (c := 9) n_a (Nat.le_of_ble_eq_true rfl)) (kx_5_3 k_b1) (nx_o (a := b1) (k := 3) (n := 44) (c := 9) n_b1 (Nat.le_of_ble_eq_true rfl)) hcr10) mt_X2_become ml_X5_46 rfl ⟨rfl, rfl, Nat.le_of_ble_eq_true rfl, Nat.le_of_ble_eq_true rfl⟩ ⟨Nat.le_refl 0, Nat.le_refl 0⟩ (nx_0 (nx_o (a := a) (k := 3) (n := 44) (c := 9) n_a (Nat.le_of_ble_eq_true rfl))) (kx_5_3 k_a) (by decide) rfl hl.1 (Nat.le_of_ble_eq_true rfl) rfl dX5_become_59 (fun H locs hG hS => ?_)
        refine lv_aload_n hx hb dX5_become_62 rfl (lv_at hl 0 rfl) ?_
        refine lv_aload_n hx hb dX5_become_63 rfl (lv_at hl 1 rfl) ?_
        refine gf_X5_3 X hG (nx_0 n_b1) k_b1 fl_X5_33 dX5_become_64 ?_
        refine pf_X5_3 X hG hS (nx_0 n_a) k_a fl_X5_33 dX5_become_67 (fun H locs hG hS => ?_)
        obtain ⟨M11, eM11⟩ : ∃ y, y = sI r10 a 3 (r10.1 b1 3) := ⟨_, rfl⟩
        rw [← eM11] at hG
        have h := nm_y h M11 eM11
        refine lv_aload_n hx hb dX5_become_70 rfl (lv_at hl 0 rfl) ?_
        refine lv_aload_n hx hb dX5_become_71 rfl (lv_at hl 1 rfl) ?_
        refine gf_X5_4 X hG (nx_0 n_b1) k_b1 fl_X5_28 dX5_become_72 ?_
        refine pf_X5_4 X hG hS (nx_0 n_a) k_a fl_X5_28 dX5_become_75 (fun H locs hG hS => ?_)
        obtain ⟨M12, eM12⟩ : ∃ y, y = sI M11 a 4 (M11.1 b1 4) := ⟨_, rfl⟩
        rw [← eM12] at hG
        have h := nm_y h M12 eM12
        obtain rfl := Option.some.inj h
        exact g_vret X hr hlk hG hS dX5_become_78
      · have h := ite_n h q7
        refine lv_aload_n hx hb dX5_become_15 rfl (lv_at hl 0 rfl) ?_
        refine gf_X5_0 X hG (nx_0 n_a) k_a fl_X5_11 dX5_become_16 ?_
        refine lv_iload_n hx hb dX5_become_19 rfl (lv_at hl 2 rfl) ?_
        obtain ⟨i13, h⟩ := gd_y h
        refine g_aldS X hG (nx_a (a := a) (k := 1) (n := 44) n_a (Nat.le_of_ble_eq_true rfl)) (kx_5_1 k_a) (by decide) i13 dX5_become_20 ?_
        refine lv_aload_n hx hb dX5_become_21 rfl (lv_at hl 1 rfl) ?_
        refine gf_X5_0 X hG (nx_0 n_b1) k_b1 fl_X5_11 dX5_become_22 ?_
        refine lv_iload_n hx hb dX5_become_25 rfl (lv_at hl 2 rfl) ?_
        refine g_aldS X hG (nx_a (a := b1) (k := 1) (n := 44) n_b1 (Nat.le_of_ble_eq_true rfl)) (kx_5_1 k_b1) (by decide) i13 dX5_become_26 ?_
        obtain ⟨r14, hcr14, h⟩ := bd_y h
        refine g_cVV (a := ((a + 1) + 11 + 8 * (w2 : Int32).toNatClampNeg)) (ci := 4) (T := TX4) (N := 10) (av := [.ref (gad z ((b1 + 1) + 11 + 8 * (w2 : Int32).toNatClampNeg))]) (rest := []) X hG hS (ct_X4_become l z (kS4 (kx_5_1 k_a) i13) (nS4 n_a i13) (kS4 (kx_5_1 k_b1) i13) (nS4 n_b1 i13) hcr14) mt_X4_become ml_X5_36 rfl ⟨rfl, rfl, Nat.le_of_ble_eq_true rfl, Nat.le_of_ble_eq_true rfl⟩ ⟨Nat.le_refl 0, Nat.le_refl 0⟩ (nx_0 (nS4 n_a i13)) (kS4 (kx_5_1 k_a) i13) (by decide) rfl hl.1 (Nat.le_of_ble_eq_true rfl) rfl dX5_become_27 (fun H locs hG hS => ?_)
        refine lv_iinc (v := (w2 + 1)) (lv' := [(2, .int (w2 + 1)), (0, .ref (gad z a)), (1, .ref (gad z b1))]) hx hb dX5_become_30 hl (k := 2) rfl rfl (by decide) rfl (fun ls hl => ?_)
        refine lv_goto (tgt := 2) hx hb dX5_become_33 (by decide) ?_
        exact ih r14 (w2 + 1) _ _ _ h hG hS (lv_sub hl [1, 2, 0] rfl)
set_option maxRecDepth 100000 in
set_option maxHeartbeats 4000000 in
theorem ct_X5_become (l : Launch) (z : gZ) {N : Nat} {M : Mem} {a : Nat} {b1 : Nat} {o : Mem} (k_a : kd a = 5) (n_a : a + 44 ≤ gn z) (k_b1 : kd b1 = 5) (n_b1 : b1 + 44 ≤ gn z) (h : fX5_become N M a b1 = some o) : CtV l z yX5_become cX5_become 3 none { frames := 3, cells := 0, slots := 0, locals := 72 } [.ref (gad z a), .ref (gad z b1)] M o := by
  refine Ct_of rfl (Nat.le_of_ble_eq_true rfl) ?_
  intro p e s m below meth c ls X hr hlk hG hS hl
  have X : gX p m c _ _ s _ RX5 z := X
  have hl : lv_has ls 3 [(0, .ref (gad z a)), (1, .ref (gad z b1))] := hl
  have hx := X.1
  have hb := X.2.1
  unfold fX5_become at h
  refine lv_iconst (v := 0) hx hb dX5_become_0 (by decide) ?_
  refine lv_istore_n (lv' := [(2, .int 0), (0, .ref (gad z a)), (1, .ref (gad z b1))]) hx hb dX5_become_1 rfl hl (by decide) rfl (fun ls hl => ?_)
  refine wX5_become_2 X hr hlk k_a n_a k_b1 n_b1 _ _ _ _ _ _ h hG hS (lv_sub hl [1, 2, 0] rfl)
