set_option maxRecDepth 100000 in
set_option maxHeartbeats 4000000 in
theorem ct_X6_isWithin (l : Launch) (z : gZ) {N : Nat} {M : Mem} {v0 : Int32} {v1 : Int32} {v2 : Int32} {o : Int32}  (h : fX6_isWithin N M v0 v1 v2 = some o) : CtI l z yX6_isWithin cX6_isWithin 3 (some .boolean) { frames := 0, cells := 0, slots := 0, locals := 0 } [.int v0, .int v1, .int v2] M o M := by
  refine Ct_of rfl (Nat.le_of_ble_eq_true rfl) ?_
  intro p e s m below meth c ls X hr hlk hG hS hl
  have X : gX p m c _ _ s _ RX6 z := X
  have hl : lv_has ls 3 [(0, .int v0), (1, .int v1), (2, .int v2)] := hl
  have hx := X.1
  have hb := X.2.1
  unfold fX6_isWithin at h
  refine lv_iload_n hx hb dX6_isWithin_0 rfl (lv_at hl 0 rfl) ?_
  refine lv_iload_n hx hb dX6_isWithin_1 rfl (lv_at hl 1 rfl) ?_
  refine lv_icmp_lt (tgt := 14) hx hb dX6_isWithin_2 (by decide) (fun q1 => ?_) (fun q1 => ?_)
  · have h := ite_y h q1
    refine lv_iconst (v := 0) hx hb dX6_isWithin_14 (by decide) ?_
    obtain rfl := Option.some.inj h
    exact g_zret (zn (Or.inl rfl)) X hr hlk hG hS dX6_isWithin_15
  · have h := ite_n h q1
    refine lv_iload_n hx hb dX6_isWithin_5 rfl (lv_at hl 0 rfl) ?_
    refine lv_iload_n hx hb dX6_isWithin_6 rfl (lv_at hl 2 rfl) ?_
    refine lv_icmp_gt (tgt := 14) hx hb dX6_isWithin_7 (by decide) (fun q2 => ?_) (fun q2 => ?_)
    · have h := ite_y h q2
      refine lv_iconst (v := 0) hx hb dX6_isWithin_14 (by decide) ?_
      obtain rfl := Option.some.inj h
      exact g_zret (zn (Or.inl rfl)) X hr hlk hG hS dX6_isWithin_15
    · have h := ite_n h q2
      refine lv_iconst (v := 1) hx hb dX6_isWithin_10 (by decide) ?_
      refine lv_goto (tgt := 15) hx hb dX6_isWithin_11 (by decide) ?_
      obtain rfl := Option.some.inj h
      exact g_zret (zn (Or.inr rfl)) X hr hlk hG hS dX6_isWithin_15
set_option maxRecDepth 100000 in
set_option maxHeartbeats 4000000 in
theorem ct_X6_shelfAt (l : Launch) (z : gZ) {N : Nat} {M : Mem} {a : Nat} {v1 : Int32} {o : Option Nat} (k_a : kd a = 6) (n_a : a + 119 ≤ gn z) (h : fX6_shelfAt N M a v1 = some o) : CtR l z yX6_shelfAt cX6_shelfAt 2 (some (.object RX3)) { frames := 1, cells := 0, slots := 0, locals := 22 } [.ref (gad z a), .int v1] M o M := by
  refine Ct_of rfl (Nat.le_of_ble_eq_true rfl) ?_
  intro p e s m below meth c ls X hr hlk hG hS hl
  have X : gX p m c _ _ s _ RX6 z := X
  have hl : lv_has ls 2 [(0, .ref (gad z a)), (1, .int v1)] := hl
  have hx := X.1
  have hb := X.2.1
  unfold fX6_shelfAt at h
  refine lv_iload_n hx hb dX6_shelfAt_0 rfl (lv_at hl 1 rfl) ?_
  refine lv_iconst (v := 0) hx hb dX6_shelfAt_1 (by decide) ?_
  refine lv_bipush (v := 7) hx hb dX6_shelfAt_2 (by decide) ?_
  obtain ⟨r1, hcr1, h⟩ := bd_y h
  refine g_cSI (av := [.int v1, .int 0, .int 7]) (rest := []) X hG hS (ct_X6_isWithin l z  hcr1) mt_X6_isWithin ml_X6_55 rfl ⟨rfl, rfl, Nat.le_of_ble_eq_true rfl, Nat.le_of_ble_eq_true rfl⟩ ⟨Nat.le_refl 0, Nat.le_refl 0⟩ hl.1 (Nat.le_of_ble_eq_true rfl) rfl dX6_shelfAt_4 (fun H locs hG hS => ?_)
  refine lv_if_eq (tgt := 19) hx hb dX6_shelfAt_7 (by decide) (fun q2 => ?_) (fun q2 => ?_)
  · have h := ite_y h q2
    refine lv_null hx hb dX6_shelfAt_19 ?_
    obtain rfl := Option.some.inj h
    exact g_aret none X hr hlk hG hS dX6_shelfAt_20
  · have h := ite_n h q2
    refine lv_aload_n hx hb dX6_shelfAt_10 rfl (lv_at hl 0 rfl) ?_
    refine gf_X6_0 X hG (nx_0 n_a) k_a fl_X6_11 dX6_shelfAt_11 ?_
    refine lv_iload_n hx hb dX6_shelfAt_14 rfl (lv_at hl 1 rfl) ?_
    obtain ⟨i3, h⟩ := gd_y h
    refine g_aldH X hG (nx_a (a := a) (k := 1) (n := 119) n_a (Nat.le_of_ble_eq_true rfl)) (kx_6_1 k_a) (by decide) i3 dX6_shelfAt_15 ?_
    refine lv_goto (tgt := 20) hx hb dX6_shelfAt_16 (by decide) ?_
    obtain rfl := Option.some.inj h
    exact g_aret (some ((a + 1) + 102 + 2 * (v1 : Int32).toNatClampNeg)) X hr hlk hG hS dX6_shelfAt_20
set_option maxRecDepth 100000 in
set_option maxHeartbeats 4000000 in
theorem ct_X6_refuse (l : Launch) (z : gZ) {N : Nat} {M : Mem} {a : Nat} {v1 : Int32} {o : Int32 × Mem} (k_a : kd a = 6) (n_a : a + 119 ≤ gn z) (h : fX6_refuse N M a v1 = some o) : CtI l z yX6_refuse cX6_refuse 3 (some .int) { frames := 0, cells := 0, slots := 0, locals := 0 } [.ref (gad z a), .int v1] M o.1 o.2 := by
  refine Ct_of rfl (Nat.le_of_ble_eq_true rfl) ?_
  intro p e s m below meth c ls X hr hlk hG hS hl
  have X : gX p m c _ _ s _ RX6 z := X
  have hl : lv_has ls 3 [(0, .ref (gad z a)), (1, .int v1)] := hl
  have hx := X.1
  have hb := X.2.1
  unfold fX6_refuse at h
  refine lv_bipush (v := (-2)) hx hb dX6_refuse_0 (by decide) ?_
  refine lv_iload_n hx hb dX6_refuse_2 rfl (lv_at hl 1 rfl) ?_
  refine lv_isub hx hb dX6_refuse_3 ?_
  refine lv_topi (fun x1 ex1 => ?_)
  have h := nm_y h x1 ex1
  refine lv_istore_n (lv' := [(2, .int x1), (0, .ref (gad z a)), (1, .int v1)]) hx hb dX6_refuse_4 rfl hl (by decide) rfl (fun ls hl => ?_)
  refine lv_iload_n hx hb dX6_refuse_5 rfl (lv_at hl 0 rfl) ?_
  refine lv_if_lt (tgt := 24) hx hb dX6_refuse_6 (by decide) (fun q2 => ?_) (fun q2 => ?_)
  · have h := ite_y h q2
    refine lv_iload_n hx hb dX6_refuse_24 rfl (lv_at hl 2 rfl) ?_
    obtain rfl := Option.some.inj h
    exact g_iret X hr hlk hG hS dX6_refuse_25
  · have h := ite_n h q2
    refine lv_iload_n hx hb dX6_refuse_9 rfl (lv_at hl 0 rfl) ?_
    refine lv_iconst (v := 5) hx hb dX6_refuse_10 (by decide) ?_
    refine lv_icmp_ge (tgt := 24) hx hb dX6_refuse_11 (by decide) (fun q3 => ?_) (fun q3 => ?_)
    · have h := ite_y h q3
      refine lv_iload_n hx hb dX6_refuse_24 rfl (lv_at hl 2 rfl) ?_
      obtain rfl := Option.some.inj h
      exact g_iret X hr hlk hG hS dX6_refuse_25
    · have h := ite_n h q3
      refine lv_aload_n hx hb dX6_refuse_14 rfl (lv_at hl 1 rfl) ?_
      refine gf_X6_6 X hG (nx_0 n_a) k_a fl_X6_46 dX6_refuse_15 ?_
      refine lv_iload_n hx hb dX6_refuse_18 rfl (lv_at hl 0 rfl) ?_
      refine lv_dup2_11 hx hb dX6_refuse_19 rfl rfl ?_
      obtain ⟨i4, h⟩ := gd_y h
      refine g_iald X hG (nx_a (a := a) (k := 102) (n := 119) n_a (Nat.le_of_ble_eq_true rfl)) (kx_6_102 k_a) (by decide) i4 dX6_refuse_20 ?_
      refine lv_iconst (v := 1) hx hb dX6_refuse_21 (by decide) ?_
      refine lv_iadd hx hb dX6_refuse_22 ?_
      refine g_iast X hG hS (nx_a (a := a) (k := 102) (n := 119) n_a (Nat.le_of_ble_eq_true rfl)) (kx_6_102 k_a) (by decide) i4 dX6_refuse_23 (fun H locs hG hS => ?_)
      obtain ⟨M5, eM5⟩ : ∃ y, y = sI M (a + 102) (x1 : Int32).toNatClampNeg ((M.1 (a + 102) (x1 : Int32).toNatClampNeg) + 1) := ⟨_, rfl⟩
      rw [← eM5] at hG
      have h := nm_y h M5 eM5
      refine lv_iload_n hx hb dX6_refuse_24 rfl (lv_at hl 2 rfl) ?_
      obtain rfl := Option.some.inj h
      exact g_iret X hr hlk hG hS dX6_refuse_25
set_option maxRecDepth 100000 in
set_option maxHeartbeats 4000000 in
theorem ct_X6_row (l : Launch) (z : gZ) {N : Nat} {M : Mem} {a : Nat} {v1 : Int32} {v2 : Int32} {v3 : Int32} {o : Int32 × Mem} (k_a : kd a = 6) (n_a : a + 119 ≤ gn z) (h : fX6_row N M a v1 v2 v3 = some o) : CtI l z yX6_row cX6_row 5 (some .int) { frames := 2, cells := 0, slots := 0, locals := 46 } [.ref (gad z a), .int v1, .int v2, .int v3] M o.1 o.2 := by
  refine Ct_of rfl (Nat.le_of_ble_eq_true rfl) ?_
  intro p e s m below meth c ls X hr hlk hG hS hl
  have X : gX p m c _ _ s _ RX6 z := X
  have hl : lv_has ls 5 [(0, .ref (gad z a)), (1, .int v1), (2, .int v2), (3, .int v3)] := hl
  have hx := X.1
  have hb := X.2.1
  unfold fX6_row at h
  refine lv_aload_n hx hb dX6_row_0 rfl (lv_at hl 0 rfl) ?_
  refine lv_iload_n hx hb dX6_row_1 rfl (lv_at hl 1 rfl) ?_
  obtain ⟨r1, hcr1, h⟩ := bd_y h
  refine g_cVR (a := a) (ci := 6) (T := TX6) (N := 8) (av := [.int v1]) (rest := []) X hG hS (ct_X6_shelfAt l z k_a n_a hcr1) mt_X6_shelfAt ml_X6_51 rfl ⟨rfl, rfl, Nat.le_of_ble_eq_true rfl, Nat.le_of_ble_eq_true rfl⟩ ⟨Nat.le_refl 0, Nat.le_refl 0⟩ (nx_0 n_a) k_a (by decide) rfl hl.1 (Nat.le_of_ble_eq_true rfl) rfl dX6_row_2 (fun H locs hG hS => ?_)
  have h0 := onO_y h
  clear h
  obtain ⟨eq2, h⟩ | ⟨q2, eq2, h⟩ := h0
  · subst eq2
    refine g_rfN ?_
    refine lv_astoreN (lv' := [(4, .null), (0, .ref (gad z a)), (1, .int v1), (2, .int v2), (3, .int v3)]) hx hb dX6_row_5 hl (by decide) rfl (fun ls hl => ?_)
    refine lv_aloadN hx hb dX6_row_7 (lv_at hl 0 rfl) ?_
    refine lv_ifnullN (tgt := 31) hx hb dX6_row_9 (by decide) ?_
    refine lv_aload_n hx hb dX6_row_31 rfl (lv_at hl 1 rfl) ?_
    refine lv_bipush (v := (-2)) hx hb dX6_row_32 (by decide) ?_
    obtain ⟨r3, hcr3, h⟩ := bd_y h
    refine g_cVI (a := a) (ci := 6) (T := TX6) (N := 8) (av := [.int (-2)]) (rest := []) X hG hS (ct_X6_refuse l z k_a n_a hcr3) mt_X6_refuse ml_X6_59 rfl ⟨rfl, rfl, Nat.le_of_ble_eq_true rfl, Nat.le_of_ble_eq_true rfl⟩ ⟨Nat.le_refl 0, Nat.le_refl 0⟩ (nx_0 n_a) k_a (by decide) rfl hl.1 (Nat.le_of_ble_eq_true rfl) rfl dX6_row_34 (fun H locs hG hS => ?_)
    obtain rfl := Option.some.inj h
    exact g_iret X hr hlk hG hS dX6_row_37
  · subst eq2
    refine g_rfS ?_
    obtain ⟨⟨k_q2, n1_q2⟩, h⟩ := gc_y h
    have n_q2 : q2 + 2 ≤ gn z := Nat.le_trans n1_q2 n_a
    refine lv_astore (lv' := [(4, .ref (gad z q2)), (0, .ref (gad z a)), (1, .int v1), (2, .int v2), (3, .int v3)]) hx hb dX6_row_5 hl (by decide) rfl (fun ls hl => ?_)
    refine lv_aload hx hb dX6_row_7 (lv_at hl 0 rfl) ?_
    refine lv_ifnull hx hb dX6_row_9 ?_
    refine lv_iload_n hx hb dX6_row_12 rfl (lv_at hl 3 rfl) ?_
    refine lv_iconst (v := 0) hx hb dX6_row_13 (by decide) ?_
    refine lv_iconst (v := 4) hx hb dX6_row_14 (by decide) ?_
    obtain ⟨r4, hcr4, h⟩ := bd_y h
    refine g_cSI (av := [.int v2, .int 0, .int 4]) (rest := []) X hG hS (ct_X6_isWithin l z  hcr4) mt_X6_isWithin ml_X6_55 rfl ⟨rfl, rfl, Nat.le_of_ble_eq_true rfl, Nat.le_of_ble_eq_true rfl⟩ ⟨Nat.le_refl 0, Nat.le_refl 0⟩ hl.1 (Nat.le_of_ble_eq_true rfl) rfl dX6_row_15 (fun H locs hG hS => ?_)
    refine lv_if_eq (tgt := 31) hx hb dX6_row_18 (by decide) (fun q5 => ?_) (fun q5 => ?_)
    · have h := ite_y h q5
      refine lv_aload_n hx hb dX6_row_31 rfl (lv_at hl 1 rfl) ?_
      refine lv_bipush (v := (-2)) hx hb dX6_row_32 (by decide) ?_
      obtain ⟨r6, hcr6, h⟩ := bd_y h
      refine g_cVI (a := a) (ci := 6) (T := TX6) (N := 8) (av := [.int (-2)]) (rest := []) X hG hS (ct_X6_refuse l z k_a n_a hcr6) mt_X6_refuse ml_X6_59 rfl ⟨rfl, rfl, Nat.le_of_ble_eq_true rfl, Nat.le_of_ble_eq_true rfl⟩ ⟨Nat.le_refl 0, Nat.le_refl 0⟩ (nx_0 n_a) k_a (by decide) rfl hl.1 (Nat.le_of_ble_eq_true rfl) rfl dX6_row_34 (fun H locs hG hS => ?_)
      obtain rfl := Option.some.inj h
      exact g_iret X hr hlk hG hS dX6_row_37
    · have h := ite_n h q5
      refine lv_iload_n hx hb dX6_row_21 rfl (lv_at hl 4 rfl) ?_
      refine lv_iconst (v := 0) hx hb dX6_row_22 (by decide) ?_
      refine lv_bipush (v := 40) hx hb dX6_row_23 (by decide) ?_
      obtain ⟨r7, hcr7, h⟩ := bd_y h
      refine g_cSI (av := [.int v3, .int 0, .int 40]) (rest := []) X hG hS (ct_X6_isWithin l z  hcr7) mt_X6_isWithin ml_X6_55 rfl ⟨rfl, rfl, Nat.le_of_ble_eq_true rfl, Nat.le_of_ble_eq_true rfl⟩ ⟨Nat.le_refl 0, Nat.le_refl 0⟩ hl.1 (Nat.le_of_ble_eq_true rfl) rfl dX6_row_25 (fun H locs hG hS => ?_)
      refine lv_if_ne (tgt := 38) hx hb dX6_row_28 (by decide) (fun q8 => ?_) (fun q8 => ?_)
      · have h := ite_n h q8
        refine lv_aload hx hb dX6_row_38 (lv_at hl 0 rfl) ?_
        refine lv_iload_n hx hb dX6_row_40 rfl (lv_at hl 3 rfl) ?_
        refine lv_iload_n hx hb dX6_row_41 rfl (lv_at hl 4 rfl) ?_
        obtain ⟨r9, hcr9, h⟩ := bd_y h
        refine g_cVV (a := q2) (ci := 3) (T := TX3) (N := 4) (av := [.int v2, .int v3]) (rest := []) X hG hS (ct_X3_putRow l z k_q2 n_q2 hcr9) mt_X3_putRow ml_X6_63 rfl ⟨rfl, rfl, Nat.le_of_ble_eq_true rfl, Nat.le_of_ble_eq_true rfl⟩ ⟨Nat.le_refl 0, Nat.le_refl 0⟩ (nx_0 n_q2) k_q2 (by decide) rfl hl.1 (Nat.le_of_ble_eq_true rfl) rfl dX6_row_42 (fun H locs hG hS => ?_)
        refine lv_iconst (v := 1) hx hb dX6_row_45 (by decide) ?_
        obtain rfl := Option.some.inj h
        exact g_iret X hr hlk hG hS dX6_row_46
      · have h := ite_y h q8
        refine lv_aload_n hx hb dX6_row_31 rfl (lv_at hl 1 rfl) ?_
        refine lv_bipush (v := (-2)) hx hb dX6_row_32 (by decide) ?_
        obtain ⟨r10, hcr10, h⟩ := bd_y h
        refine g_cVI (a := a) (ci := 6) (T := TX6) (N := 8) (av := [.int (-2)]) (rest := []) X hG hS (ct_X6_refuse l z k_a n_a hcr10) mt_X6_refuse ml_X6_59 rfl ⟨rfl, rfl, Nat.le_of_ble_eq_true rfl, Nat.le_of_ble_eq_true rfl⟩ ⟨Nat.le_refl 0, Nat.le_refl 0⟩ (nx_0 n_a) k_a (by decide) rfl hl.1 (Nat.le_of_ble_eq_true rfl) rfl dX6_row_34 (fun H locs hG hS => ?_)
        obtain rfl := Option.some.inj h
        exact g_iret X hr hlk hG hS dX6_row_37
set_option maxRecDepth 100000 in
set_option maxHeartbeats 4000000 in
theorem ct_X6_set (l : Launch) (z : gZ) {N : Nat} {M : Mem} {a : Nat} {v1 : Int32} {v2 : Int32} {v3 : Int64} {o : Int32 × Mem} (k_a : kd a = 6) (n_a : a + 119 ≤ gn z) (h : fX6_set N M a v1 v2 v3 = some o) : CtI l z yX6_set cX6_set 6 (some .int) { frames := 2, cells := 0, slots := 0, locals := 43 } [.ref (gad z a), .int v1, .int v2, .long v3] M o.1 o.2 := by
  refine Ct_of rfl (Nat.le_of_ble_eq_true rfl) ?_
  intro p e s m below meth c ls X hr hlk hG hS hl
  have X : gX p m c _ _ s _ RX6 z := X
  have hl : lv_has ls 6 [(0, .ref (gad z a)), (1, .int v1), (2, .int v2), (3, .long v3)] := hl
  have hx := X.1
  have hb := X.2.1
  unfold fX6_set at h
  refine lv_aload_n hx hb dX6_set_0 rfl (lv_at hl 0 rfl) ?_
  refine lv_iload_n hx hb dX6_set_1 rfl (lv_at hl 1 rfl) ?_
  obtain ⟨r1, hcr1, h⟩ := bd_y h
  refine g_cVR (a := a) (ci := 6) (T := TX6) (N := 8) (av := [.int v1]) (rest := []) X hG hS (ct_X6_shelfAt l z k_a n_a hcr1) mt_X6_shelfAt ml_X6_51 rfl ⟨rfl, rfl, Nat.le_of_ble_eq_true rfl, Nat.le_of_ble_eq_true rfl⟩ ⟨Nat.le_refl 0, Nat.le_refl 0⟩ (nx_0 n_a) k_a (by decide) rfl hl.1 (Nat.le_of_ble_eq_true rfl) rfl dX6_set_2 (fun H locs hG hS => ?_)
  have h0 := onO_y h
  clear h
  obtain ⟨eq2, h⟩ | ⟨q2, eq2, h⟩ := h0
  · subst eq2
    refine g_rfN ?_
    refine lv_astoreN (lv' := [(5, .null), (0, .ref (gad z a)), (1, .int v1), (2, .int v2), (3, .long v3)]) hx hb dX6_set_5 hl (by decide) rfl (fun ls hl => ?_)
    refine lv_aloadN hx hb dX6_set_7 (lv_at hl 0 rfl) ?_
    refine lv_ifnonnullN hx hb dX6_set_9 ?_
    refine lv_aload_n hx hb dX6_set_12 rfl (lv_at hl 1 rfl) ?_
    refine lv_bipush (v := (-2)) hx hb dX6_set_13 (by decide) ?_
    obtain ⟨r3, hcr3, h⟩ := bd_y h
    refine g_cVI (a := a) (ci := 6) (T := TX6) (N := 8) (av := [.int (-2)]) (rest := []) X hG hS (ct_X6_refuse l z k_a n_a hcr3) mt_X6_refuse ml_X6_59 rfl ⟨rfl, rfl, Nat.le_of_ble_eq_true rfl, Nat.le_of_ble_eq_true rfl⟩ ⟨Nat.le_refl 0, Nat.le_refl 0⟩ (nx_0 n_a) k_a (by decide) rfl hl.1 (Nat.le_of_ble_eq_true rfl) rfl dX6_set_15 (fun H locs hG hS => ?_)
    obtain rfl := Option.some.inj h
    exact g_iret X hr hlk hG hS dX6_set_18
  · subst eq2
    refine g_rfS ?_
    obtain ⟨⟨k_q2, n1_q2⟩, h⟩ := gc_y h
    have n_q2 : q2 + 2 ≤ gn z := Nat.le_trans n1_q2 n_a
    refine lv_astore (lv' := [(5, .ref (gad z q2)), (0, .ref (gad z a)), (1, .int v1), (2, .int v2), (3, .long v3)]) hx hb dX6_set_5 hl (by decide) rfl (fun ls hl => ?_)
    refine lv_aload hx hb dX6_set_7 (lv_at hl 0 rfl) ?_
    refine lv_ifnonnull (tgt := 19) hx hb dX6_set_9 (by decide) ?_
    refine lv_aload hx hb dX6_set_19 (lv_at hl 0 rfl) ?_
    obtain ⟨r4, hcr4, h⟩ := bd_y h
    refine g_cVI (a := q2) (ci := 3) (T := TX3) (N := 4) (av := []) (rest := []) X hG hS (ct_X3_isWay l z k_q2 n_q2 hcr4) mt_X3_isWay ml_X6_67 rfl ⟨rfl, rfl, Nat.le_of_ble_eq_true rfl, Nat.le_of_ble_eq_true rfl⟩ ⟨Nat.le_refl 0, Nat.le_refl 0⟩ (nx_0 n_q2) k_q2 (by decide) rfl hl.1 (Nat.le_of_ble_eq_true rfl) rfl dX6_set_21 (fun H locs hG hS => ?_)
    refine lv_if_eq (tgt := 34) hx hb dX6_set_24 (by decide) (fun q5 => ?_) (fun q5 => ?_)
    · have h := ite_y h q5
      refine lv_aload hx hb dX6_set_34 (lv_at hl 0 rfl) ?_
      obtain ⟨r6, hcr6, h⟩ := bd_y h
      refine g_cVI (a := q2) (ci := 3) (T := TX3) (N := 4) (av := []) (rest := []) X hG hS (ct_X3_isRow l z k_q2 n_q2 hcr6) mt_X3_isRow ml_X6_71 rfl ⟨rfl, rfl, Nat.le_of_ble_eq_true rfl, Nat.le_of_ble_eq_true rfl⟩ ⟨Nat.le_refl 0, Nat.le_refl 0⟩ (nx_0 n_q2) k_q2 (by decide) rfl hl.1 (Nat.le_of_ble_eq_true rfl) rfl dX6_set_36 (fun H locs hG hS => ?_)
      refine lv_if_ne (tgt := 49) hx hb dX6_set_39 (by decide) (fun q7 => ?_) (fun q7 => ?_)
      · have h := ite_n h q7
        refine lv_aload hx hb dX6_set_49 (lv_at hl 0 rfl) ?_
        refine lv_iload_n hx hb dX6_set_51 rfl (lv_at hl 3 rfl) ?_
        refine lv_iconst (v := 1) hx hb dX6_set_52 (by decide) ?_
        obtain ⟨r8, hcr8, h⟩ := bd_y h
        refine g_cVI (a := q2) (ci := 3) (T := TX3) (N := 4) (av := [.int v2, .int 1]) (rest := []) X hG hS (ct_X3_hasPlaces l z k_q2 n_q2 hcr8) mt_X3_hasPlaces ml_X6_74 rfl ⟨rfl, rfl, Nat.le_of_ble_eq_true rfl, Nat.le_of_ble_eq_true rfl⟩ ⟨Nat.le_refl 0, Nat.le_refl 0⟩ (nx_0 n_q2) k_q2 (by decide) rfl hl.1 (Nat.le_of_ble_eq_true rfl) rfl dX6_set_53 (fun H locs hG hS => ?_)
        refine lv_if_ne (tgt := 66) hx hb dX6_set_56 (by decide) (fun q9 => ?_) (fun q9 => ?_)
        · have h := ite_n h q9
          refine lv_aload hx hb dX6_set_66 (lv_at hl 0 rfl) ?_
          refine lv_iload_n hx hb dX6_set_68 rfl (lv_at hl 3 rfl) ?_
          refine lv_lload_n hx hb dX6_set_69 rfl (lv_at hl 4 rfl) ?_
          obtain ⟨r10, hcr10, h⟩ := bd_y h
          refine g_cVV (a := q2) (ci := 3) (T := TX3) (N := 4) (av := [.int v2, .long v3]) (rest := []) X hG hS (ct_X3_put l z k_q2 n_q2 hcr10) mt_X3_put ml_X6_78 rfl ⟨rfl, rfl, Nat.le_of_ble_eq_true rfl, Nat.le_of_ble_eq_true rfl⟩ ⟨Nat.le_refl 0, Nat.le_refl 0⟩ (nx_0 n_q2) k_q2 (by decide) rfl hl.1 (Nat.le_of_ble_eq_true rfl) rfl dX6_set_70 (fun H locs hG hS => ?_)
          refine lv_iconst (v := 1) hx hb dX6_set_73 (by decide) ?_
          obtain rfl := Option.some.inj h
          exact g_iret X hr hlk hG hS dX6_set_74
        · have h := ite_y h q9
          refine lv_aload_n hx hb dX6_set_59 rfl (lv_at hl 1 rfl) ?_
          refine lv_bipush (v := (-2)) hx hb dX6_set_60 (by decide) ?_
          obtain ⟨r11, hcr11, h⟩ := bd_y h
          refine g_cVI (a := a) (ci := 6) (T := TX6) (N := 8) (av := [.int (-2)]) (rest := []) X hG hS (ct_X6_refuse l z k_a n_a hcr11) mt_X6_refuse ml_X6_59 rfl ⟨rfl, rfl, Nat.le_of_ble_eq_true rfl, Nat.le_of_ble_eq_true rfl⟩ ⟨Nat.le_refl 0, Nat.le_refl 0⟩ (nx_0 n_a) k_a (by decide) rfl hl.1 (Nat.le_of_ble_eq_true rfl) rfl dX6_set_62 (fun H locs hG hS => ?_)
          obtain rfl := Option.some.inj h
          exact g_iret X hr hlk hG hS dX6_set_65
      · have h := ite_y h q7
        refine lv_aload_n hx hb dX6_set_42 rfl (lv_at hl 1 rfl) ?_
        refine lv_bipush (v := (-4)) hx hb dX6_set_43 (by decide) ?_
        obtain ⟨r12, hcr12, h⟩ := bd_y h
        refine g_cVI (a := a) (ci := 6) (T := TX6) (N := 8) (av := [.int (-4)]) (rest := []) X hG hS (ct_X6_refuse l z k_a n_a hcr12) mt_X6_refuse ml_X6_59 rfl ⟨rfl, rfl, Nat.le_of_ble_eq_true rfl, Nat.le_of_ble_eq_true rfl⟩ ⟨Nat.le_refl 0, Nat.le_refl 0⟩ (nx_0 n_a) k_a (by decide) rfl hl.1 (Nat.le_of_ble_eq_true rfl) rfl dX6_set_45 (fun H locs hG hS => ?_)
        obtain rfl := Option.some.inj h
        exact g_iret X hr hlk hG hS dX6_set_48
    · have h := ite_n h q5
      refine lv_aload_n hx hb dX6_set_27 rfl (lv_at hl 1 rfl) ?_
      refine lv_bipush (v := (-3)) hx hb dX6_set_28 (by decide) ?_
      obtain ⟨r13, hcr13, h⟩ := bd_y h
      refine g_cVI (a := a) (ci := 6) (T := TX6) (N := 8) (av := [.int (-3)]) (rest := []) X hG hS (ct_X6_refuse l z k_a n_a hcr13) mt_X6_refuse ml_X6_59 rfl ⟨rfl, rfl, Nat.le_of_ble_eq_true rfl, Nat.le_of_ble_eq_true rfl⟩ ⟨Nat.le_refl 0, Nat.le_refl 0⟩ (nx_0 n_a) k_a (by decide) rfl hl.1 (Nat.le_of_ble_eq_true rfl) rfl dX6_set_30 (fun H locs hG hS => ?_)
      obtain rfl := Option.some.inj h
      exact g_iret X hr hlk hG hS dX6_set_33
set_option maxRecDepth 100000 in
set_option maxHeartbeats 4000000 in
theorem ct_X6_isWayToldBy (l : Launch) (z : gZ) {N : Nat} {M : Mem} {v0 : Int32} {v1 : Int32} {o : Int32}  (h : fX6_isWayToldBy N M v0 v1 = some o) : CtI l z yX6_isWayToldBy cX6_isWayToldBy 2 (some .boolean) { frames := 1, cells := 0, slots := 0, locals := 22 } [.int v0, .int v1] M o M := by
  refine Ct_of rfl (Nat.le_of_ble_eq_true rfl) ?_
  intro p e s m below meth c ls X hr hlk hG hS hl
  have X : gX p m c _ _ s _ RX6 z := X
  have hl : lv_has ls 2 [(0, .int v0), (1, .int v1)] := hl
  have hx := X.1
  have hb := X.2.1
  unfold fX6_isWayToldBy at h
  refine lv_iload_n hx hb dX6_isWayToldBy_0 rfl (lv_at hl 0 rfl) ?_
  by_cases q1 : v0 = 1
  · have h := ite_y h q1
    refine lv_tableIn (tgt := 36) hx hb dX6_isWayToldBy_1 (by rw [q1]; decide) (by rw [q1]; decide) (by rw [q1]; rfl) (by decide) ?_
    refine lv_iload_n hx hb dX6_isWayToldBy_36 rfl (lv_at hl 1 rfl) ?_
    refine lv_iconst (v := 0) hx hb dX6_isWayToldBy_37 (by decide) ?_
    refine lv_iconst (v := 1) hx hb dX6_isWayToldBy_38 (by decide) ?_
    obtain ⟨r2, hcr2, h⟩ := bd_y h
    refine g_cSI (av := [.int v1, .int 0, .int 1]) (rest := []) X hG hS (ct_X6_isWithin l z  hcr2) mt_X6_isWithin ml_X6_55 rfl ⟨rfl, rfl, Nat.le_of_ble_eq_true rfl, Nat.le_of_ble_eq_true rfl⟩ ⟨Nat.le_refl 0, Nat.le_refl 0⟩ hl.1 (Nat.le_of_ble_eq_true rfl) rfl dX6_isWayToldBy_39 (fun H locs hG hS => ?_)
    obtain ⟨q3, h⟩ := gc_y h
    obtain rfl := Option.some.inj h
    exact g_zret (zn q3) X hr hlk hG hS dX6_isWayToldBy_42
  · have h := ite_n h q1
    by_cases q4 : v0 = 2
    · have h := ite_y h q4
      refine lv_tableIn (tgt := 43) hx hb dX6_isWayToldBy_1 (by rw [q4]; decide) (by rw [q4]; decide) (by rw [q4]; rfl) (by decide) ?_
      refine lv_iload_n hx hb dX6_isWayToldBy_43 rfl (lv_at hl 1 rfl) ?_
      refine lv_iconst (v := 0) hx hb dX6_isWayToldBy_44 (by decide) ?_
      refine lv_sipush (v := 1000) hx hb dX6_isWayToldBy_45 (by decide) ?_
      obtain ⟨r5, hcr5, h⟩ := bd_y h
      refine g_cSI (av := [.int v1, .int 0, .int 1000]) (rest := []) X hG hS (ct_X6_isWithin l z  hcr5) mt_X6_isWithin ml_X6_55 rfl ⟨rfl, rfl, Nat.le_of_ble_eq_true rfl, Nat.le_of_ble_eq_true rfl⟩ ⟨Nat.le_refl 0, Nat.le_refl 0⟩ hl.1 (Nat.le_of_ble_eq_true rfl) rfl dX6_isWayToldBy_48 (fun H locs hG hS => ?_)
      obtain ⟨q6, h⟩ := gc_y h
      obtain rfl := Option.some.inj h
      exact g_zret (zn q6) X hr hlk hG hS dX6_isWayToldBy_51
    · have h := ite_n h q4
      by_cases q7 : v0 = 3
      · have h := ite_y h q7
        refine lv_tableIn (tgt := 52) hx hb dX6_isWayToldBy_1 (by rw [q7]; decide) (by rw [q7]; decide) (by rw [q7]; rfl) (by decide) ?_
        refine lv_iload_n hx hb dX6_isWayToldBy_52 rfl (lv_at hl 1 rfl) ?_
        refine lv_iconst (v := 0) hx hb dX6_isWayToldBy_53 (by decide) ?_
        refine lv_bipush (v := 11) hx hb dX6_isWayToldBy_54 (by decide) ?_
        obtain ⟨r8, hcr8, h⟩ := bd_y h
        refine g_cSI (av := [.int v1, .int 0, .int 11]) (rest := []) X hG hS (ct_X6_isWithin l z  hcr8) mt_X6_isWithin ml_X6_55 rfl ⟨rfl, rfl, Nat.le_of_ble_eq_true rfl, Nat.le_of_ble_eq_true rfl⟩ ⟨Nat.le_refl 0, Nat.le_refl 0⟩ hl.1 (Nat.le_of_ble_eq_true rfl) rfl dX6_isWayToldBy_56 (fun H locs hG hS => ?_)
        obtain ⟨q9, h⟩ := gc_y h
        obtain rfl := Option.some.inj h
        exact g_zret (zn q9) X hr hlk hG hS dX6_isWayToldBy_59
      · have h := ite_n h q7
        by_cases q10 : v0 = 4
        · have h := ite_y h q10
          refine lv_tableIn (tgt := 60) hx hb dX6_isWayToldBy_1 (by rw [q10]; decide) (by rw [q10]; decide) (by rw [q10]; rfl) (by decide) ?_
          refine lv_iload_n hx hb dX6_isWayToldBy_60 rfl (lv_at hl 1 rfl) ?_
          refine lv_bipush (v := 100) hx hb dX6_isWayToldBy_61 (by decide) ?_
          refine lv_sipush (v := 999) hx hb dX6_isWayToldBy_63 (by decide) ?_
          obtain ⟨r11, hcr11, h⟩ := bd_y h
          refine g_cSI (av := [.int v1, .int 100, .int 999]) (rest := []) X hG hS (ct_X6_isWithin l z  hcr11) mt_X6_isWithin ml_X6_55 rfl ⟨rfl, rfl, Nat.le_of_ble_eq_true rfl, Nat.le_of_ble_eq_true rfl⟩ ⟨Nat.le_refl 0, Nat.le_refl 0⟩ hl.1 (Nat.le_of_ble_eq_true rfl) rfl dX6_isWayToldBy_66 (fun H locs hG hS => ?_)
          refine lv_if_eq (tgt := 87) hx hb dX6_isWayToldBy_69 (by decide) (fun q12 => ?_) (fun q12 => ?_)
          · have h := ite_y h q12
            refine lv_iconst (v := 0) hx hb dX6_isWayToldBy_87 (by decide) ?_
            obtain rfl := Option.some.inj h
            exact g_zret (zn (Or.inl rfl)) X hr hlk hG hS dX6_isWayToldBy_88
          · have h := ite_n h q12
            refine lv_iload_n hx hb dX6_isWayToldBy_72 rfl (lv_at hl 1 rfl) ?_
            refine lv_bipush (v := 100) hx hb dX6_isWayToldBy_73 (by decide) ?_
            refine lv_irem hx hb dX6_isWayToldBy_75 (by decide) ?_
            refine lv_iload_n hx hb dX6_isWayToldBy_76 rfl (lv_at hl 1 rfl) ?_
            refine lv_bipush (v := 100) hx hb dX6_isWayToldBy_77 (by decide) ?_
            refine lv_idiv hx hb dX6_isWayToldBy_79 (by decide) ?_
            refine lv_icmp_ge (tgt := 87) hx hb dX6_isWayToldBy_80 (by decide) (fun q13 => ?_) (fun q13 => ?_)
            · have h := ite_y h q13
              refine lv_iconst (v := 0) hx hb dX6_isWayToldBy_87 (by decide) ?_
              obtain rfl := Option.some.inj h
              exact g_zret (zn (Or.inl rfl)) X hr hlk hG hS dX6_isWayToldBy_88
            · have h := ite_n h q13
              refine lv_iconst (v := 1) hx hb dX6_isWayToldBy_83 (by decide) ?_
              refine lv_goto (tgt := 88) hx hb dX6_isWayToldBy_84 (by decide) ?_
              obtain rfl := Option.some.inj h
              exact g_zret (zn (Or.inr rfl)) X hr hlk hG hS dX6_isWayToldBy_88
        · have h := ite_n h q10
          by_cases q14 : v0 = 5
          · have h := ite_y h q14
            refine lv_tableIn (tgt := 89) hx hb dX6_isWayToldBy_1 (by rw [q14]; decide) (by rw [q14]; decide) (by rw [q14]; rfl) (by decide) ?_
            refine lv_iload_n hx hb dX6_isWayToldBy_89 rfl (lv_at hl 1 rfl) ?_
            refine lv_iconst (v := 0) hx hb dX6_isWayToldBy_90 (by decide) ?_
            refine lv_bipush (v := 7) hx hb dX6_isWayToldBy_91 (by decide) ?_
            obtain ⟨r15, hcr15, h⟩ := bd_y h
            refine g_cSI (av := [.int v1, .int 0, .int 7]) (rest := []) X hG hS (ct_X6_isWithin l z  hcr15) mt_X6_isWithin ml_X6_55 rfl ⟨rfl, rfl, Nat.le_of_ble_eq_true rfl, Nat.le_of_ble_eq_true rfl⟩ ⟨Nat.le_refl 0, Nat.le_refl 0⟩ hl.1 (Nat.le_of_ble_eq_true rfl) rfl dX6_isWayToldBy_93 (fun H locs hG hS => ?_)
            obtain ⟨q16, h⟩ := gc_y h
            obtain rfl := Option.some.inj h
            exact g_zret (zn q16) X hr hlk hG hS dX6_isWayToldBy_96
          · have h := ite_n h q14
            refine lv_tableOut (tgt := 97) hx hb dX6_isWayToldBy_1 (by have eq1 := lv_neT (a := 1) q1 (by decide); have eq4 := lv_neT (a := 2) q4 (by decide); have eq7 := lv_neT (a := 3) q7 (by decide); have eq10 := lv_neT (a := 4) q10 (by decide); have eq14 := lv_neT (a := 5) q14 (by decide); omega) (by decide) ?_
            refine lv_iconst (v := 0) hx hb dX6_isWayToldBy_97 (by decide) ?_
            obtain rfl := Option.some.inj h
            exact g_zret (zn (Or.inl rfl)) X hr hlk hG hS dX6_isWayToldBy_98
set_option maxRecDepth 100000 in
set_option maxHeartbeats 4000000 in
theorem ct_X6_way (l : Launch) (z : gZ) {N : Nat} {M : Mem} {a : Nat} {v1 : Int32} {v2 : Int32} {v3 : Int32} {o : Int32 × Mem} (k_a : kd a = 6) (n_a : a + 119 ≤ gn z) (h : fX6_way N M a v1 v2 v3 = some o) : CtI l z yX6_way cX6_way 6 (some .int) { frames := 3, cells := 0, slots := 0, locals := 65 } [.ref (gad z a), .int v1, .int v2, .int v3] M o.1 o.2 := by
  refine Ct_of rfl (Nat.le_of_ble_eq_true rfl) ?_
  intro p e s m below meth c ls X hr hlk hG hS hl
  have X : gX p m c _ _ s _ RX6 z := X
  have hl : lv_has ls 6 [(0, .ref (gad z a)), (1, .int v1), (2, .int v2), (3, .int v3)] := hl
  have hx := X.1
  have hb := X.2.1
  unfold fX6_way at h
  refine lv_aload_n hx hb dX6_way_0 rfl (lv_at hl 0 rfl) ?_
  refine lv_iload_n hx hb dX6_way_1 rfl (lv_at hl 1 rfl) ?_
  obtain ⟨r1, hcr1, h⟩ := bd_y h
  refine g_cVR (a := a) (ci := 6) (T := TX6) (N := 8) (av := [.int v1]) (rest := []) X hG hS (ct_X6_shelfAt l z k_a n_a hcr1) mt_X6_shelfAt ml_X6_51 rfl ⟨rfl, rfl, Nat.le_of_ble_eq_true rfl, Nat.le_of_ble_eq_true rfl⟩ ⟨Nat.le_refl 0, Nat.le_refl 0⟩ (nx_0 n_a) k_a (by decide) rfl hl.1 (Nat.le_of_ble_eq_true rfl) rfl dX6_way_2 (fun H locs hG hS => ?_)
  have h0 := onO_y h
  clear h
  obtain ⟨eq2, h⟩ | ⟨q2, eq2, h⟩ := h0
  · subst eq2
    refine g_rfN ?_
    refine lv_astoreN (lv' := [(4, .null), (0, .ref (gad z a)), (1, .int v1), (2, .int v2), (3, .int v3)]) hx hb dX6_way_5 hl (by decide) rfl (fun ls hl => ?_)
    refine lv_aloadN hx hb dX6_way_7 (lv_at hl 0 rfl) ?_
    refine lv_ifnullN (tgt := 20) hx hb dX6_way_9 (by decide) ?_
    refine lv_aload_n hx hb dX6_way_20 rfl (lv_at hl 1 rfl) ?_
    refine lv_bipush (v := (-2)) hx hb dX6_way_21 (by decide) ?_
    obtain ⟨r3, hcr3, h⟩ := bd_y h
    refine g_cVI (a := a) (ci := 6) (T := TX6) (N := 8) (av := [.int (-2)]) (rest := []) X hG hS (ct_X6_refuse l z k_a n_a hcr3) mt_X6_refuse ml_X6_59 rfl ⟨rfl, rfl, Nat.le_of_ble_eq_true rfl, Nat.le_of_ble_eq_true rfl⟩ ⟨Nat.le_refl 0, Nat.le_refl 0⟩ (nx_0 n_a) k_a (by decide) rfl hl.1 (Nat.le_of_ble_eq_true rfl) rfl dX6_way_23 (fun H locs hG hS => ?_)
    obtain rfl := Option.some.inj h
    exact g_iret X hr hlk hG hS dX6_way_26
  · subst eq2
    refine g_rfS ?_
    obtain ⟨⟨k_q2, n1_q2⟩, h⟩ := gc_y h
    have n_q2 : q2 + 2 ≤ gn z := Nat.le_trans n1_q2 n_a
    refine lv_astore (lv' := [(4, .ref (gad z q2)), (0, .ref (gad z a)), (1, .int v1), (2, .int v2), (3, .int v3)]) hx hb dX6_way_5 hl (by decide) rfl (fun ls hl => ?_)
    refine lv_aload hx hb dX6_way_7 (lv_at hl 0 rfl) ?_
    refine lv_ifnull hx hb dX6_way_9 ?_
    refine lv_iload_n hx hb dX6_way_12 rfl (lv_at hl 3 rfl) ?_
    refine lv_iload_n hx hb dX6_way_13 rfl (lv_at hl 4 rfl) ?_
    obtain ⟨r4, hcr4, h⟩ := bd_y h
    refine g_cSI (av := [.int v2, .int v3]) (rest := []) X hG hS (ct_X6_isWayToldBy l z  hcr4) mt_X6_isWayToldBy ml_X6_100 rfl ⟨rfl, rfl, Nat.le_of_ble_eq_true rfl, Nat.le_of_ble_eq_true rfl⟩ ⟨Nat.le_refl 0, Nat.le_refl 0⟩ hl.1 (Nat.le_of_ble_eq_true rfl) rfl dX6_way_14 (fun H locs hG hS => ?_)
    refine lv_if_ne (tgt := 27) hx hb dX6_way_17 (by decide) (fun q5 => ?_) (fun q5 => ?_)
    · have h := ite_n h q5
      refine lv_iload_n hx hb dX6_way_27 rfl (lv_at hl 3 rfl) ?_
      refine lv_iconst (v := 5) hx hb dX6_way_28 (by decide) ?_
      refine lv_icmp_eq (tgt := 41) hx hb dX6_way_29 (by decide) (fun q6 => ?_) (fun q6 => ?_)
      · have h := ite_y h q6
        refine lv_aload_n hx hb dX6_way_41 rfl (lv_at hl 1 rfl) ?_
        refine lv_iload_n hx hb dX6_way_42 rfl (lv_at hl 4 rfl) ?_
        obtain ⟨r7, hcr7, h⟩ := bd_y h
        refine g_cVR (a := a) (ci := 6) (T := TX6) (N := 8) (av := [.int v3]) (rest := []) X hG hS (ct_X6_shelfAt l z k_a n_a hcr7) mt_X6_shelfAt ml_X6_51 rfl ⟨rfl, rfl, Nat.le_of_ble_eq_true rfl, Nat.le_of_ble_eq_true rfl⟩ ⟨Nat.le_refl 0, Nat.le_refl 0⟩ (nx_0 n_a) k_a (by decide) rfl hl.1 (Nat.le_of_ble_eq_true rfl) rfl dX6_way_43 (fun H locs hG hS => ?_)
        have h0 := onO_y h
        clear h
        obtain ⟨eq8, h⟩ | ⟨q8, eq8, h⟩ := h0
        · subst eq8
          refine g_rfN ?_
          refine lv_astoreN (lv' := [(5, .null), (4, .ref (gad z q2)), (0, .ref (gad z a)), (1, .int v1), (2, .int v2), (3, .int v3)]) hx hb dX6_way_46 hl (by decide) rfl (fun ls hl => ?_)
          refine lv_aloadN hx hb dX6_way_48 (lv_at hl 0 rfl) ?_
          refine lv_ifnonnullN hx hb dX6_way_50 ?_
          refine lv_aload_n hx hb dX6_way_53 rfl (lv_at hl 2 rfl) ?_
          refine lv_bipush (v := (-2)) hx hb dX6_way_54 (by decide) ?_
          obtain ⟨r9, hcr9, h⟩ := bd_y h
          refine g_cVI (a := a) (ci := 6) (T := TX6) (N := 8) (av := [.int (-2)]) (rest := []) X hG hS (ct_X6_refuse l z k_a n_a hcr9) mt_X6_refuse ml_X6_59 rfl ⟨rfl, rfl, Nat.le_of_ble_eq_true rfl, Nat.le_of_ble_eq_true rfl⟩ ⟨Nat.le_refl 0, Nat.le_refl 0⟩ (nx_0 n_a) k_a (by decide) rfl hl.1 (Nat.le_of_ble_eq_true rfl) rfl dX6_way_56 (fun H locs hG hS => ?_)
          obtain rfl := Option.some.inj h
          exact g_iret X hr hlk hG hS dX6_way_59
        · subst eq8
          refine g_rfS ?_
          obtain ⟨⟨k_q8, n1_q8⟩, h⟩ := gc_y h
          have n_q8 : q8 + 2 ≤ gn z := Nat.le_trans n1_q8 n_a
          refine lv_astore (lv' := [(5, .ref (gad z q8)), (4, .ref (gad z q2)), (0, .ref (gad z a)), (1, .int v1), (2, .int v2), (3, .int v3)]) hx hb dX6_way_46 hl (by decide) rfl (fun ls hl => ?_)
          refine lv_aload hx hb dX6_way_48 (lv_at hl 0 rfl) ?_
          refine lv_ifnonnull (tgt := 60) hx hb dX6_way_50 (by decide) ?_
          refine lv_aload hx hb dX6_way_60 (lv_at hl 0 rfl) ?_
          obtain ⟨r10, hcr10, h⟩ := bd_y h
          refine g_cVI (a := q8) (ci := 3) (T := TX3) (N := 4) (av := []) (rest := []) X hG hS (ct_X3_isWay l z k_q8 n_q8 hcr10) mt_X3_isWay ml_X6_67 rfl ⟨rfl, rfl, Nat.le_of_ble_eq_true rfl, Nat.le_of_ble_eq_true rfl⟩ ⟨Nat.le_refl 0, Nat.le_refl 0⟩ (nx_0 n_q8) k_q8 (by decide) rfl hl.1 (Nat.le_of_ble_eq_true rfl) rfl dX6_way_62 (fun H locs hG hS => ?_)
          refine lv_if_eq (tgt := 75) hx hb dX6_way_65 (by decide) (fun q11 => ?_) (fun q11 => ?_)
          · have h := ite_y h q11
            refine lv_aload hx hb dX6_way_75 (lv_at hl 0 rfl) ?_
            obtain ⟨r12, hcr12, h⟩ := bd_y h
            refine g_cVI (a := q8) (ci := 3) (T := TX3) (N := 4) (av := []) (rest := []) X hG hS (ct_X3_isRow l z k_q8 n_q8 hcr12) mt_X3_isRow ml_X6_71 rfl ⟨rfl, rfl, Nat.le_of_ble_eq_true rfl, Nat.le_of_ble_eq_true rfl⟩ ⟨Nat.le_refl 0, Nat.le_refl 0⟩ (nx_0 n_q8) k_q8 (by decide) rfl hl.1 (Nat.le_of_ble_eq_true rfl) rfl dX6_way_77 (fun H locs hG hS => ?_)
            refine lv_if_ne (tgt := 90) hx hb dX6_way_80 (by decide) (fun q13 => ?_) (fun q13 => ?_)
            · have h := ite_n h q13
              refine lv_aload hx hb dX6_way_90 (lv_at hl 1 rfl) ?_
              refine lv_iconst (v := 5) hx hb dX6_way_92 (by decide) ?_
              refine lv_aload hx hb dX6_way_93 (lv_at hl 0 rfl) ?_
              obtain ⟨r14, hcr14, h⟩ := bd_y h
              refine g_cVI (a := q8) (ci := 3) (T := TX3) (N := 4) (av := []) (rest := [.int 5, .ref (gad z q2)]) X hG hS (ct_X3_toldSet l z k_q8 n_q8 hcr14) mt_X3_toldSet ml_X6_106 rfl ⟨rfl, rfl, Nat.le_of_ble_eq_true rfl, Nat.le_of_ble_eq_true rfl⟩ ⟨Nat.le_refl 0, Nat.le_refl 0⟩ (nx_0 n_q8) k_q8 (by decide) rfl hl.1 (Nat.le_of_ble_eq_true rfl) rfl dX6_way_95 (fun H locs hG hS => ?_)
              obtain ⟨r15, hcr15, h⟩ := bd_y h
              refine g_cVV (a := q2) (ci := 3) (T := TX3) (N := 4) (av := [.int 5, .int r14]) (rest := []) X hG hS (ct_X3_putWay l z k_q2 n_q2 hcr15) mt_X3_putWay ml_X6_103 rfl ⟨rfl, rfl, Nat.le_of_ble_eq_true rfl, Nat.le_of_ble_eq_true rfl⟩ ⟨Nat.le_refl 0, Nat.le_refl 0⟩ (nx_0 n_q2) k_q2 (by decide) rfl hl.1 (Nat.le_of_ble_eq_true rfl) rfl dX6_way_98 (fun H locs hG hS => ?_)
              refine lv_iconst (v := 1) hx hb dX6_way_101 (by decide) ?_
              obtain rfl := Option.some.inj h
              exact g_iret X hr hlk hG hS dX6_way_102
            · have h := ite_y h q13
              refine lv_aload_n hx hb dX6_way_83 rfl (lv_at hl 2 rfl) ?_
              refine lv_bipush (v := (-4)) hx hb dX6_way_84 (by decide) ?_
              obtain ⟨r16, hcr16, h⟩ := bd_y h
              refine g_cVI (a := a) (ci := 6) (T := TX6) (N := 8) (av := [.int (-4)]) (rest := []) X hG hS (ct_X6_refuse l z k_a n_a hcr16) mt_X6_refuse ml_X6_59 rfl ⟨rfl, rfl, Nat.le_of_ble_eq_true rfl, Nat.le_of_ble_eq_true rfl⟩ ⟨Nat.le_refl 0, Nat.le_refl 0⟩ (nx_0 n_a) k_a (by decide) rfl hl.1 (Nat.le_of_ble_eq_true rfl) rfl dX6_way_86 (fun H locs hG hS => ?_)
              obtain rfl := Option.some.inj h
              exact g_iret X hr hlk hG hS dX6_way_89
          · have h := ite_n h q11
            refine lv_aload_n hx hb dX6_way_68 rfl (lv_at hl 2 rfl) ?_
            refine lv_bipush (v := (-3)) hx hb dX6_way_69 (by decide) ?_
            obtain ⟨r17, hcr17, h⟩ := bd_y h
            refine g_cVI (a := a) (ci := 6) (T := TX6) (N := 8) (av := [.int (-3)]) (rest := []) X hG hS (ct_X6_refuse l z k_a n_a hcr17) mt_X6_refuse ml_X6_59 rfl ⟨rfl, rfl, Nat.le_of_ble_eq_true rfl, Nat.le_of_ble_eq_true rfl⟩ ⟨Nat.le_refl 0, Nat.le_refl 0⟩ (nx_0 n_a) k_a (by decide) rfl hl.1 (Nat.le_of_ble_eq_true rfl) rfl dX6_way_71 (fun H locs hG hS => ?_)
            obtain rfl := Option.some.inj h
            exact g_iret X hr hlk hG hS dX6_way_74
      · have h := ite_n h q6
        refine lv_aload hx hb dX6_way_32 (lv_at hl 0 rfl) ?_
        refine lv_iload_n hx hb dX6_way_34 rfl (lv_at hl 3 rfl) ?_
        refine lv_iload_n hx hb dX6_way_35 rfl (lv_at hl 4 rfl) ?_
        obtain ⟨r18, hcr18, h⟩ := bd_y h
        refine g_cVV (a := q2) (ci := 3) (T := TX3) (N := 4) (av := [.int v2, .int v3]) (rest := []) X hG hS (ct_X3_putWay l z k_q2 n_q2 hcr18) mt_X3_putWay ml_X6_103 rfl ⟨rfl, rfl, Nat.le_of_ble_eq_true rfl, Nat.le_of_ble_eq_true rfl⟩ ⟨Nat.le_refl 0, Nat.le_refl 0⟩ (nx_0 n_q2) k_q2 (by decide) rfl hl.1 (Nat.le_of_ble_eq_true rfl) rfl dX6_way_36 (fun H locs hG hS => ?_)
        refine lv_iconst (v := 1) hx hb dX6_way_39 (by decide) ?_
        obtain rfl := Option.some.inj h
        exact g_iret X hr hlk hG hS dX6_way_40
    · have h := ite_y h q5
      refine lv_aload_n hx hb dX6_way_20 rfl (lv_at hl 1 rfl) ?_
      refine lv_bipush (v := (-2)) hx hb dX6_way_21 (by decide) ?_
      obtain ⟨r19, hcr19, h⟩ := bd_y h
      refine g_cVI (a := a) (ci := 6) (T := TX6) (N := 8) (av := [.int (-2)]) (rest := []) X hG hS (ct_X6_refuse l z k_a n_a hcr19) mt_X6_refuse ml_X6_59 rfl ⟨rfl, rfl, Nat.le_of_ble_eq_true rfl, Nat.le_of_ble_eq_true rfl⟩ ⟨Nat.le_refl 0, Nat.le_refl 0⟩ (nx_0 n_a) k_a (by decide) rfl hl.1 (Nat.le_of_ble_eq_true rfl) rfl dX6_way_23 (fun H locs hG hS => ?_)
      obtain rfl := Option.some.inj h
      exact g_iret X hr hlk hG hS dX6_way_26
set_option maxRecDepth 100000 in
set_option maxHeartbeats 4000000 in
theorem wX6_feed_42 {N : Nat} {p : Program} {l : Launch} {e : Env} {s : State} {m : MethodId} {args : Array Value} {below : List Frame} {meth : Method} {c : Code} {z : gZ} {a : Nat} {u1 : Int32} {o : Int32 × Mem} (X : gX p m c cX6_feed 4 s args RX6 z) (hr : meth.sig.returnType = (some .int)) (hlk : meth.locks = false) (k_a : kd a = 6) (n_a : a + 119 ≤ gn z)  : ∀ (n : Nat) (Mw : Mem) (w3 : Int32) (H : Heap) (locs : List Loc) (ls : Array Slot), fX6_feed_42 N a u1  n Mw w3 = some o → gW z Mw H → va_S (gA z) s.heap H locs → lv_has ls 4 [(0, .ref (gad z a)), (1, .int u1), (3, .int w3)] → W p l e { frames := 1, cells := 0, slots := 0, locals := 22 } s m args below meth c H locs 0 0 (MQ below (va_Qi (fun r' (_ : Unit) => r' = o.1) (fun _ t => gW z o.2 t.heap) (gA z)) args s 0 0 (gA z)) (F0 m 42 ls []) := by
  have hx := X.1
  have hb := X.2.1
  intro n
  induction n with
  | zero => intro Mw w3 H locs ls h; cases h
  | succ n ih =>
    intro Mw w3 H locs ls h hG hS hl
    rw [fX6_feed_42] at h
    refine lv_iload_n hx hb dX6_feed_42 rfl (lv_at hl 2 rfl) ?_
    refine lv_if_lt (tgt := 69) hx hb dX6_feed_43 (by decide) (fun q1 => ?_) (fun q1 => ?_)
    · have h := ite_y h q1
      refine lv_aload_n hx hb dX6_feed_69 rfl (lv_at hl 0 rfl) ?_
      refine gf_X6_1 X hG (nx_0 n_a) k_a fl_X6_18 dX6_feed_70 ?_
      refine gf_X1_1 X hG (nx_0 (nx_o (a := a) (k := 2) (n := 119) (c := 2) n_a (Nat.le_of_ble_eq_true rfl))) (kx_6_2 k_a) fl_X6_117 dX6_feed_73 ?_
      obtain rfl := Option.some.inj h
      exact g_iret X hr hlk hG hS dX6_feed_76
    · have h := ite_n h q1
      refine lv_aload_n hx hb dX6_feed_46 rfl (lv_at hl 0 rfl) ?_
      refine gf_X6_1 X hG (nx_0 n_a) k_a fl_X6_18 dX6_feed_47 ?_
      refine lv_iload_n hx hb dX6_feed_50 rfl (lv_at hl 1 rfl) ?_
      refine lv_bipush (v := 8) hx hb dX6_feed_51 (by decide) ?_
      refine lv_iload_n hx hb dX6_feed_53 rfl (lv_at hl 2 rfl) ?_
      refine lv_imul hx hb dX6_feed_54 ?_
      refine lv_iushr hx hb dX6_feed_55 rfl ?_
      refine lv_sipush (v := 255) hx hb dX6_feed_56 (by decide) ?_
      refine lv_iand hx hb dX6_feed_59 ?_
      obtain ⟨r2, hcr2, h⟩ := bd_y h
      refine g_cVV (a := (a + 2)) (ci := 1) (T := TX1) (N := 6) (av := [.int ((((u1).toUInt32 >>> (((8 * w3) : Int32).toUInt32 &&& Int32.toUInt32 31)).toInt32) &&& 255)]) (rest := []) X hG hS (ct_X1_append l z (kx_6_2 k_a) (nx_o (a := a) (k := 2) (n := 119) (c := 2) n_a (Nat.le_of_ble_eq_true rfl)) hcr2) mt_X1_append ml_X6_120 rfl ⟨rfl, rfl, Nat.le_of_ble_eq_true rfl, Nat.le_of_ble_eq_true rfl⟩ ⟨Nat.le_refl 0, Nat.le_refl 0⟩ (nx_0 (nx_o (a := a) (k := 2) (n := 119) (c := 2) n_a (Nat.le_of_ble_eq_true rfl))) (kx_6_2 k_a) (by decide) rfl hl.1 (Nat.le_of_ble_eq_true rfl) rfl dX6_feed_60 (fun H locs hG hS => ?_)
      refine lv_iinc (v := (w3 + (-1))) (lv' := [(3, .int (w3 + (-1))), (0, .ref (gad z a)), (1, .int u1)]) hx hb dX6_feed_63 hl (k := 2) rfl rfl (by decide) rfl (fun ls hl => ?_)
      refine lv_goto (tgt := 42) hx hb dX6_feed_66 (by decide) ?_
      exact ih r2 (w3 + (-1)) _ _ _ h hG hS (lv_sub hl [1, 2, 0] rfl)
set_option maxRecDepth 100000 in
set_option maxHeartbeats 4000000 in
theorem ct_X6_feed (l : Launch) (z : gZ) {N : Nat} {M : Mem} {a : Nat} {v1 : Int32} {v2 : Int32} {o : Int32 × Mem} (k_a : kd a = 6) (n_a : a + 119 ≤ gn z) (h : fX6_feed N M a v1 v2 = some o) : CtI l z yX6_feed cX6_feed 4 (some .int) { frames := 1, cells := 0, slots := 0, locals := 22 } [.ref (gad z a), .int v1, .int v2] M o.1 o.2 := by
  refine Ct_of rfl (Nat.le_of_ble_eq_true rfl) ?_
  intro p e s m below meth c ls X hr hlk hG hS hl
  have X : gX p m c _ _ s _ RX6 z := X
  have hl : lv_has ls 4 [(0, .ref (gad z a)), (1, .int v1), (2, .int v2)] := hl
  have hx := X.1
  have hb := X.2.1
  unfold fX6_feed at h
  refine lv_iload_n hx hb dX6_feed_0 rfl (lv_at hl 2 rfl) ?_
  refine lv_iconst (v := 1) hx hb dX6_feed_1 (by decide) ?_
  refine lv_iconst (v := 4) hx hb dX6_feed_2 (by decide) ?_
  obtain ⟨r1, hcr1, h⟩ := bd_y h
  refine g_cSI (av := [.int v2, .int 1, .int 4]) (rest := []) X hG hS (ct_X6_isWithin l z  hcr1) mt_X6_isWithin ml_X6_55 rfl ⟨rfl, rfl, Nat.le_of_ble_eq_true rfl, Nat.le_of_ble_eq_true rfl⟩ ⟨Nat.le_refl 0, Nat.le_refl 0⟩ hl.1 (Nat.le_of_ble_eq_true rfl) rfl dX6_feed_3 (fun H locs hG hS => ?_)
  refine lv_if_ne (tgt := 16) hx hb dX6_feed_6 (by decide) (fun q2 => ?_) (fun q2 => ?_)
  · have h := ite_n h q2
    refine lv_iload_n hx hb dX6_feed_16 rfl (lv_at hl 2 rfl) ?_
    refine lv_sipush (v := 160) hx hb dX6_feed_17 (by decide) ?_
    refine lv_aload_n hx hb dX6_feed_20 rfl (lv_at hl 0 rfl) ?_
    refine gf_X6_1 X hG (nx_0 n_a) k_a fl_X6_18 dX6_feed_21 ?_
    refine gf_X1_1 X hG (nx_0 (nx_o (a := a) (k := 2) (n := 119) (c := 2) n_a (Nat.le_of_ble_eq_true rfl))) (kx_6_2 k_a) fl_X6_117 dX6_feed_24 ?_
    refine lv_isub hx hb dX6_feed_27 ?_
    refine lv_icmp_le (tgt := 38) hx hb dX6_feed_28 (by decide) (fun q3 => ?_) (fun q3 => ?_)
    · have h := ite_y h q3
      refine lv_iload_n hx hb dX6_feed_38 rfl (lv_at hl 2 rfl) ?_
      refine lv_iconst (v := 1) hx hb dX6_feed_39 (by decide) ?_
      refine lv_isub hx hb dX6_feed_40 ?_
      refine lv_topi (fun x4 ex4 => ?_)
      have h := nm_y h x4 ex4
      refine lv_istore_n (lv' := [(3, .int x4), (0, .ref (gad z a)), (1, .int v1), (2, .int v2)]) hx hb dX6_feed_41 rfl hl (by decide) rfl (fun ls hl => ?_)
      refine wX6_feed_42 X hr hlk k_a n_a _ _ _ _ _ _ h hG hS (lv_sub hl [1, 2, 0] rfl)
    · have h := ite_n h q3
      refine lv_aload_n hx hb dX6_feed_31 rfl (lv_at hl 0 rfl) ?_
      refine lv_bipush (v := (-6)) hx hb dX6_feed_32 (by decide) ?_
      obtain ⟨r5, hcr5, h⟩ := bd_y h
      refine g_cVI (a := a) (ci := 6) (T := TX6) (N := 8) (av := [.int (-6)]) (rest := []) X hG hS (ct_X6_refuse l z k_a n_a hcr5) mt_X6_refuse ml_X6_59 rfl ⟨rfl, rfl, Nat.le_of_ble_eq_true rfl, Nat.le_of_ble_eq_true rfl⟩ ⟨Nat.le_refl 0, Nat.le_refl 0⟩ (nx_0 n_a) k_a (by decide) rfl hl.1 (Nat.le_of_ble_eq_true rfl) rfl dX6_feed_34 (fun H locs hG hS => ?_)
      obtain rfl := Option.some.inj h
      exact g_iret X hr hlk hG hS dX6_feed_37
  · have h := ite_y h q2
    refine lv_aload_n hx hb dX6_feed_9 rfl (lv_at hl 0 rfl) ?_
    refine lv_bipush (v := (-2)) hx hb dX6_feed_10 (by decide) ?_
    obtain ⟨r6, hcr6, h⟩ := bd_y h
    refine g_cVI (a := a) (ci := 6) (T := TX6) (N := 8) (av := [.int (-2)]) (rest := []) X hG hS (ct_X6_refuse l z k_a n_a hcr6) mt_X6_refuse ml_X6_59 rfl ⟨rfl, rfl, Nat.le_of_ble_eq_true rfl, Nat.le_of_ble_eq_true rfl⟩ ⟨Nat.le_refl 0, Nat.le_refl 0⟩ (nx_0 n_a) k_a (by decide) rfl hl.1 (Nat.le_of_ble_eq_true rfl) rfl dX6_feed_12 (fun H locs hG hS => ?_)
    obtain rfl := Option.some.inj h
    exact g_iret X hr hlk hG hS dX6_feed_15
set_option maxRecDepth 100000 in
set_option maxHeartbeats 4000000 in
theorem ct_X6_street (l : Launch) (z : gZ) {N : Nat} {M : Mem} {a : Nat} {o : Int32 × Mem} (k_a : kd a = 6) (n_a : a + 119 ≤ gn z) (h : fX6_street N M a = some o) : CtI l z yX6_street cX6_street 4 (some .int) { frames := 9, cells := 0, slots := 0, locals := 195 } [.ref (gad z a)] M o.1 o.2 := by
  refine Ct_of rfl (Nat.le_of_ble_eq_true rfl) ?_
  intro p e s m below meth c ls X hr hlk hG hS hl
  have X : gX p m c _ _ s _ RX6 z := X
  have hl : lv_has ls 4 [(0, .ref (gad z a))] := hl
  have hx := X.1
  have hb := X.2.1
  unfold fX6_street at h
  refine lv_aload_n hx hb dX6_street_0 rfl (lv_at hl 0 rfl) ?_
  refine gf_X6_2 X hG (nx_0 n_a) k_a fl_X6_25 dX6_street_1 ?_
  obtain ⟨r1, hcr1, h⟩ := bd_y h
  refine g_cVR (a := (a + 4)) (ci := 5) (T := TX5) (N := 5) (av := []) (rest := []) X hG hS (ct_X5_placeForNext l z (kx_6_4 k_a) (nx_o (a := a) (k := 4) (n := 119) (c := 44) n_a (Nat.le_of_ble_eq_true rfl)) hcr1) mt_X5_placeForNext ml_X6_127 rfl ⟨rfl, rfl, Nat.le_of_ble_eq_true rfl, Nat.le_of_ble_eq_true rfl⟩ ⟨Nat.le_refl 0, Nat.le_refl 0⟩ (nx_0 (nx_o (a := a) (k := 4) (n := 119) (c := 44) n_a (Nat.le_of_ble_eq_true rfl))) (kx_6_4 k_a) (by decide) rfl hl.1 (Nat.le_of_ble_eq_true rfl) rfl dX6_street_4 (fun H locs hG hS => ?_)
  have h0 := onO_y h
  clear h
  obtain ⟨eq2, h⟩ | ⟨q2, eq2, h⟩ := h0
  · subst eq2
    refine g_rfN ?_
    refine lv_astore_nN (lv' := [(1, .null), (0, .ref (gad z a))]) hx hb dX6_street_7 rfl hl (by decide) rfl (fun ls hl => ?_)
    refine lv_aload_nN hx hb dX6_street_8 rfl (lv_at hl 0 rfl) ?_
    refine lv_ifnonnullN hx hb dX6_street_9 ?_
    refine lv_aload_n hx hb dX6_street_12 rfl (lv_at hl 1 rfl) ?_
    refine lv_bipush (v := (-6)) hx hb dX6_street_13 (by decide) ?_
    obtain ⟨r3, hcr3, h⟩ := bd_y h
    refine g_cVI (a := a) (ci := 6) (T := TX6) (N := 8) (av := [.int (-6)]) (rest := []) X hG hS (ct_X6_refuse l z k_a n_a hcr3) mt_X6_refuse ml_X6_59 rfl ⟨rfl, rfl, Nat.le_of_ble_eq_true rfl, Nat.le_of_ble_eq_true rfl⟩ ⟨Nat.le_refl 0, Nat.le_refl 0⟩ (nx_0 n_a) k_a (by decide) rfl hl.1 (Nat.le_of_ble_eq_true rfl) rfl dX6_street_15 (fun H locs hG hS => ?_)
    obtain rfl := Option.some.inj h
    exact g_iret X hr hlk hG hS dX6_street_18
  · subst eq2
    refine g_rfS ?_
    obtain ⟨⟨k_q2, n1_q2⟩, h⟩ := gc_y h
    have n_q2 : q2 + 8 ≤ gn z := Nat.le_trans n1_q2 n_a
    refine lv_astore_n (lv' := [(1, .ref (gad z q2)), (0, .ref (gad z a))]) hx hb dX6_street_7 rfl hl (by decide) rfl (fun ls hl => ?_)
    refine lv_aload_n hx hb dX6_street_8 rfl (lv_at hl 0 rfl) ?_
    refine lv_ifnonnull (tgt := 19) hx hb dX6_street_9 (by decide) ?_
    refine lv_aload_n hx hb dX6_street_19 rfl (lv_at hl 1 rfl) ?_
    refine gf_X6_1 X hG (nx_0 n_a) k_a fl_X6_18 dX6_street_20 ?_
    refine lv_aload_n hx hb dX6_street_23 rfl (lv_at hl 0 rfl) ?_
    obtain ⟨r4, hcr4, h⟩ := bd_y h
    refine g_cVI (a := (a + 2)) (ci := 1) (T := TX1) (N := 6) (av := [.ref (gad z q2)]) (rest := []) X hG hS (ct_X1_readStreet l z (kx_6_2 k_a) (nx_o (a := a) (k := 2) (n := 119) (c := 2) n_a (Nat.le_of_ble_eq_true rfl)) k_q2 n_q2 hcr4) mt_X1_readStreet ml_X6_131 rfl ⟨rfl, rfl, Nat.le_of_ble_eq_true rfl, Nat.le_of_ble_eq_true rfl⟩ ⟨Nat.le_refl 0, Nat.le_refl 0⟩ (nx_0 (nx_o (a := a) (k := 2) (n := 119) (c := 2) n_a (Nat.le_of_ble_eq_true rfl))) (kx_6_2 k_a) (by decide) rfl hl.1 (Nat.le_of_ble_eq_true rfl) rfl dX6_street_24 (fun H locs hG hS => ?_)
    refine lv_istore_n (lv' := [(2, .int r4.1), (1, .ref (gad z q2)), (0, .ref (gad z a))]) hx hb dX6_street_27 rfl hl (by decide) rfl (fun ls hl => ?_)
    refine lv_aload_n hx hb dX6_street_28 rfl (lv_at hl 2 rfl) ?_
    refine gf_X6_1 X hG (nx_0 n_a) k_a fl_X6_18 dX6_street_29 ?_
    refine gf_X1_3 X hG (nx_0 (nx_o (a := a) (k := 2) (n := 119) (c := 2) n_a (Nat.le_of_ble_eq_true rfl))) (kx_6_2 k_a) fl_X6_135 dX6_street_32 ?_
    refine lv_topi (fun x5 ex5 => ?_)
    have h := nm_y h x5 ex5
    refine lv_istore_n (lv' := [(3, .int x5), (2, .int r4.1), (1, .ref (gad z q2)), (0, .ref (gad z a))]) hx hb dX6_street_35 rfl hl (by decide) rfl (fun ls hl => ?_)
    refine lv_aload_n hx hb dX6_street_36 rfl (lv_at hl 3 rfl) ?_
    refine gf_X6_1 X hG (nx_0 n_a) k_a fl_X6_18 dX6_street_37 ?_
    obtain ⟨r6, hcr6, h⟩ := bd_y h
    refine g_cVV (a := (a + 2)) (ci := 1) (T := TX1) (N := 6) (av := []) (rest := []) X hG hS (ct_X1_empty l z (kx_6_2 k_a) (nx_o (a := a) (k := 2) (n := 119) (c := 2) n_a (Nat.le_of_ble_eq_true rfl)) hcr6) mt_X1_empty ml_X6_124 rfl ⟨rfl, rfl, Nat.le_of_ble_eq_true rfl, Nat.le_of_ble_eq_true rfl⟩ ⟨Nat.le_refl 0, Nat.le_refl 0⟩ (nx_0 (nx_o (a := a) (k := 2) (n := 119) (c := 2) n_a (Nat.le_of_ble_eq_true rfl))) (kx_6_2 k_a) (by decide) rfl hl.1 (Nat.le_of_ble_eq_true rfl) rfl dX6_street_40 (fun H locs hG hS => ?_)
    refine lv_iload_n hx hb dX6_street_43 rfl (lv_at hl 1 rfl) ?_
    refine lv_if_ne (tgt := 59) hx hb dX6_street_44 (by decide) (fun q7 => ?_) (fun q7 => ?_)
    · have h := ite_n h q7
      refine lv_aload_n hx hb dX6_street_59 rfl (lv_at hl 3 rfl) ?_
      refine gf_X6_2 X hG (nx_0 n_a) k_a fl_X6_25 dX6_street_60 ?_
      refine lv_dup hx hb dX6_street_63 rfl ?_
      refine gf_X5_3 X hG (nx_0 (nx_o (a := a) (k := 4) (n := 119) (c := 44) n_a (Nat.le_of_ble_eq_true rfl))) (kx_6_4 k_a) fl_X6_138 dX6_street_64 ?_
      refine lv_iconst (v := 1) hx hb dX6_street_67 (by decide) ?_
      refine lv_iadd hx hb dX6_street_68 ?_
      refine pf_X5_3 X hG hS (nx_0 (nx_o (a := a) (k := 4) (n := 119) (c := 44) n_a (Nat.le_of_ble_eq_true rfl))) (kx_6_4 k_a) fl_X6_138 dX6_street_69 (fun H locs hG hS => ?_)
      obtain ⟨M8, eM8⟩ : ∃ y, y = sI r6 (a + 4) 3 ((r6.1 (a + 4) 3) + 1) := ⟨_, rfl⟩
      rw [← eM8] at hG
      have h := nm_y h M8 eM8
      refine lv_aload_n hx hb dX6_street_72 rfl (lv_at hl 3 rfl) ?_
      refine gf_X6_2 X hG (nx_0 n_a) k_a fl_X6_25 dX6_street_73 ?_
      refine gf_X5_3 X hG (nx_0 (nx_o (a := a) (k := 4) (n := 119) (c := 44) n_a (Nat.le_of_ble_eq_true rfl))) (kx_6_4 k_a) fl_X6_138 dX6_street_76 ?_
      refine lv_iconst (v := 1) hx hb dX6_street_79 (by decide) ?_
      refine lv_isub hx hb dX6_street_80 ?_
      obtain rfl := Option.some.inj h
      exact g_iret X hr hlk hG hS dX6_street_81
    · have h := ite_y h q7
      refine lv_aload_n hx hb dX6_street_47 rfl (lv_at hl 3 rfl) ?_
      refine lv_bipush (v := (-2)) hx hb dX6_street_48 (by decide) ?_
      obtain ⟨r9, hcr9, h⟩ := bd_y h
      refine g_cVI (a := a) (ci := 6) (T := TX6) (N := 8) (av := [.int (-2)]) (rest := []) X hG hS (ct_X6_refuse l z k_a n_a hcr9) mt_X6_refuse ml_X6_59 rfl ⟨rfl, rfl, Nat.le_of_ble_eq_true rfl, Nat.le_of_ble_eq_true rfl⟩ ⟨Nat.le_refl 0, Nat.le_refl 0⟩ (nx_0 n_a) k_a (by decide) rfl hl.1 (Nat.le_of_ble_eq_true rfl) rfl dX6_street_50 (fun H locs hG hS => ?_)
      refine lv_pop hx hb dX6_street_53 rfl ?_
      refine lv_bipush (v := (-20)) hx hb dX6_street_54 (by decide) ?_
      refine lv_iload_n hx hb dX6_street_56 rfl (lv_at hl 0 rfl) ?_
      refine lv_isub hx hb dX6_street_57 ?_
      obtain rfl := Option.some.inj h
      exact g_iret X hr hlk hG hS dX6_street_58
set_option maxRecDepth 100000 in
set_option maxHeartbeats 4000000 in
theorem ct_X6_streetOf (l : Launch) (z : gZ) {N : Nat} {M : Mem} {a : Nat} {v1 : Int32} {v2 : Int32} {o : Int32 × Mem} (k_a : kd a = 6) (n_a : a + 119 ≤ gn z) (h : fX6_streetOf N M a v1 v2 = some o) : CtI l z yX6_streetOf cX6_streetOf 4 (some .int) { frames := 2, cells := 0, slots := 0, locals := 42 } [.ref (gad z a), .int v1, .int v2] M o.1 o.2 := by
  refine Ct_of rfl (Nat.le_of_ble_eq_true rfl) ?_
  intro p e s m below meth c ls X hr hlk hG hS hl
  have X : gX p m c _ _ s _ RX6 z := X
  have hl : lv_has ls 4 [(0, .ref (gad z a)), (1, .int v1), (2, .int v2)] := hl
  have hx := X.1
  have hb := X.2.1
  unfold fX6_streetOf at h
  refine lv_aload_n hx hb dX6_streetOf_0 rfl (lv_at hl 0 rfl) ?_
  refine gf_X6_2 X hG (nx_0 n_a) k_a fl_X6_25 dX6_streetOf_1 ?_
  refine lv_iload_n hx hb dX6_streetOf_4 rfl (lv_at hl 1 rfl) ?_
  obtain ⟨r1, hcr1, h⟩ := bd_y h
  refine g_cVR (a := (a + 4)) (ci := 5) (T := TX5) (N := 5) (av := [.int v1]) (rest := []) X hG hS (ct_X5_streetAt l z (kx_6_4 k_a) (nx_o (a := a) (k := 4) (n := 119) (c := 44) n_a (Nat.le_of_ble_eq_true rfl)) hcr1) mt_X5_streetAt ml_X6_139 rfl ⟨rfl, rfl, Nat.le_of_ble_eq_true rfl, Nat.le_of_ble_eq_true rfl⟩ ⟨Nat.le_refl 0, Nat.le_refl 0⟩ (nx_0 (nx_o (a := a) (k := 4) (n := 119) (c := 44) n_a (Nat.le_of_ble_eq_true rfl))) (kx_6_4 k_a) (by decide) rfl hl.1 (Nat.le_of_ble_eq_true rfl) rfl dX6_streetOf_5 (fun H locs hG hS => ?_)
  have h0 := onO_y h
  clear h
  obtain ⟨eq2, h⟩ | ⟨q2, eq2, h⟩ := h0
  · subst eq2
    refine g_rfN ?_
    refine lv_astore_nN (lv' := [(3, .null), (0, .ref (gad z a)), (1, .int v1), (2, .int v2)]) hx hb dX6_streetOf_8 rfl hl (by decide) rfl (fun ls hl => ?_)
    refine lv_aload_nN hx hb dX6_streetOf_9 rfl (lv_at hl 0 rfl) ?_
    refine lv_ifnonnullN hx hb dX6_streetOf_10 ?_
    refine lv_aload_n hx hb dX6_streetOf_13 rfl (lv_at hl 1 rfl) ?_
    refine lv_bipush (v := (-2)) hx hb dX6_streetOf_14 (by decide) ?_
    obtain ⟨r3, hcr3, h⟩ := bd_y h
    refine g_cVI (a := a) (ci := 6) (T := TX6) (N := 8) (av := [.int (-2)]) (rest := []) X hG hS (ct_X6_refuse l z k_a n_a hcr3) mt_X6_refuse ml_X6_59 rfl ⟨rfl, rfl, Nat.le_of_ble_eq_true rfl, Nat.le_of_ble_eq_true rfl⟩ ⟨Nat.le_refl 0, Nat.le_refl 0⟩ (nx_0 n_a) k_a (by decide) rfl hl.1 (Nat.le_of_ble_eq_true rfl) rfl dX6_streetOf_16 (fun H locs hG hS => ?_)
    obtain rfl := Option.some.inj h
    exact g_iret X hr hlk hG hS dX6_streetOf_19
  · subst eq2
    refine g_rfS ?_
    obtain ⟨⟨k_q2, n1_q2⟩, h⟩ := gc_y h
    have n_q2 : q2 + 8 ≤ gn z := Nat.le_trans n1_q2 n_a
    refine lv_astore_n (lv' := [(3, .ref (gad z q2)), (0, .ref (gad z a)), (1, .int v1), (2, .int v2)]) hx hb dX6_streetOf_8 rfl hl (by decide) rfl (fun ls hl => ?_)
    refine lv_aload_n hx hb dX6_streetOf_9 rfl (lv_at hl 0 rfl) ?_
    refine lv_ifnonnull (tgt := 20) hx hb dX6_streetOf_10 (by decide) ?_
    refine lv_iload_n hx hb dX6_streetOf_20 rfl (lv_at hl 3 rfl) ?_
    by_cases q4 : v2 = 0
    · have h := ite_y h q4
      refine lv_tableIn (tgt := 56) hx hb dX6_streetOf_21 (by rw [q4]; decide) (by rw [q4]; decide) (by rw [q4]; rfl) (by decide) ?_
      refine lv_aload_n hx hb dX6_streetOf_56 rfl (lv_at hl 0 rfl) ?_
      refine gf_X4_7 X hG (nx_0 n_q2) k_q2 fl_X6_143 dX6_streetOf_57 ?_
      obtain rfl := Option.some.inj h
      exact g_iret X hr hlk hG hS dX6_streetOf_60
    · have h := ite_n h q4
      by_cases q5 : v2 = 1
      · have h := ite_y h q5
        refine lv_tableIn (tgt := 61) hx hb dX6_streetOf_21 (by rw [q5]; decide) (by rw [q5]; decide) (by rw [q5]; rfl) (by decide) ?_
        refine lv_aload_n hx hb dX6_streetOf_61 rfl (lv_at hl 0 rfl) ?_
        obtain ⟨r6, hcr6, h⟩ := bd_y h
        refine g_cVI (a := q2) (ci := 4) (T := TX4) (N := 10) (av := []) (rest := []) X hG hS (ct_X4_ties l z k_q2 n_q2 hcr6) mt_X4_ties ml_X6_146 rfl ⟨rfl, rfl, Nat.le_of_ble_eq_true rfl, Nat.le_of_ble_eq_true rfl⟩ ⟨Nat.le_refl 0, Nat.le_refl 0⟩ (nx_0 n_q2) k_q2 (by decide) rfl hl.1 (Nat.le_of_ble_eq_true rfl) rfl dX6_streetOf_62 (fun H locs hG hS => ?_)
        obtain rfl := Option.some.inj h
        exact g_iret X hr hlk hG hS dX6_streetOf_65
      · have h := ite_n h q5
        by_cases q7 : v2 = 2
        · have h := ite_y h q7
          refine lv_tableIn (tgt := 66) hx hb dX6_streetOf_21 (by rw [q7]; decide) (by rw [q7]; decide) (by rw [q7]; rfl) (by decide) ?_
          refine lv_aload_n hx hb dX6_streetOf_66 rfl (lv_at hl 0 rfl) ?_
          refine gf_X4_8 X hG (nx_0 n_q2) k_q2 fl_X6_149 dX6_streetOf_67 ?_
          obtain rfl := Option.some.inj h
          exact g_iret X hr hlk hG hS dX6_streetOf_70
        · have h := ite_n h q7
          by_cases q8 : v2 = 3
          · have h := ite_y h q8
            refine lv_tableIn (tgt := 71) hx hb dX6_streetOf_21 (by rw [q8]; decide) (by rw [q8]; decide) (by rw [q8]; rfl) (by decide) ?_
            refine lv_aload_n hx hb dX6_streetOf_71 rfl (lv_at hl 0 rfl) ?_
            refine gf_X4_9 X hG (nx_0 n_q2) k_q2 fl_X6_152 dX6_streetOf_72 ?_
            obtain rfl := Option.some.inj h
            exact g_iret X hr hlk hG hS dX6_streetOf_75
          · have h := ite_n h q8
            by_cases q9 : v2 = 4
            · have h := ite_y h q9
              refine lv_tableIn (tgt := 76) hx hb dX6_streetOf_21 (by rw [q9]; decide) (by rw [q9]; decide) (by rw [q9]; rfl) (by decide) ?_
              refine lv_aload_n hx hb dX6_streetOf_76 rfl (lv_at hl 0 rfl) ?_
              obtain ⟨r10, hcr10, h⟩ := bd_y h
              refine g_cVI (a := q2) (ci := 4) (T := TX4) (N := 10) (av := []) (rest := []) X hG hS (ct_X4_prices l z k_q2 n_q2 hcr10) mt_X4_prices ml_X6_155 rfl ⟨rfl, rfl, Nat.le_of_ble_eq_true rfl, Nat.le_of_ble_eq_true rfl⟩ ⟨Nat.le_refl 0, Nat.le_refl 0⟩ (nx_0 n_q2) k_q2 (by decide) rfl hl.1 (Nat.le_of_ble_eq_true rfl) rfl dX6_streetOf_77 (fun H locs hG hS => ?_)
              obtain rfl := Option.some.inj h
              exact g_iret X hr hlk hG hS dX6_streetOf_80
            · have h := ite_n h q9
              refine lv_tableOut (tgt := 81) hx hb dX6_streetOf_21 (by have eq4 := lv_neT (a := 0) q4 (by decide); have eq5 := lv_neT (a := 1) q5 (by decide); have eq7 := lv_neT (a := 2) q7 (by decide); have eq8 := lv_neT (a := 3) q8 (by decide); have eq9 := lv_neT (a := 4) q9 (by decide); omega) (by decide) ?_
              refine lv_aload_n hx hb dX6_streetOf_81 rfl (lv_at hl 1 rfl) ?_
              refine lv_bipush (v := (-2)) hx hb dX6_streetOf_82 (by decide) ?_
              obtain ⟨r11, hcr11, h⟩ := bd_y h
              refine g_cVI (a := a) (ci := 6) (T := TX6) (N := 8) (av := [.int (-2)]) (rest := []) X hG hS (ct_X6_refuse l z k_a n_a hcr11) mt_X6_refuse ml_X6_59 rfl ⟨rfl, rfl, Nat.le_of_ble_eq_true rfl, Nat.le_of_ble_eq_true rfl⟩ ⟨Nat.le_refl 0, Nat.le_refl 0⟩ (nx_0 n_a) k_a (by decide) rfl hl.1 (Nat.le_of_ble_eq_true rfl) rfl dX6_streetOf_84 (fun H locs hG hS => ?_)
              obtain rfl := Option.some.inj h
              exact g_iret X hr hlk hG hS dX6_streetOf_87
set_option maxRecDepth 100000 in
set_option maxHeartbeats 4000000 in
theorem ct_X6_alter (l : Launch) (z : gZ) {N : Nat} {M : Mem} {a : Nat} {v1 : Int32} {v2 : Int32} {v3 : Int32} {v4 : Int32} {o : Int32 × Mem} (k_a : kd a = 6) (n_a : a + 119 ≤ gn z) (h : fX6_alter N M a v1 v2 v3 v4 = some o) : CtI l z yX6_alter cX6_alter 8 (some .int) { frames := 1, cells := 0, slots := 0, locals := 22 } [.ref (gad z a), .int v1, .int v2, .int v3, .int v4] M o.1 o.2 := by
  refine Ct_of rfl (Nat.le_of_ble_eq_true rfl) ?_
  intro p e s m below meth c ls X hr hlk hG hS hl
  have X : gX p m c _ _ s _ RX6 z := X
  have hl : lv_has ls 8 [(0, .ref (gad z a)), (1, .int v1), (2, .int v2), (3, .int v3), (4, .int v4)] := hl
  have hx := X.1
  have hb := X.2.1
  unfold fX6_alter at h
  refine lv_aload_n hx hb dX6_alter_0 rfl (lv_at hl 0 rfl) ?_
  refine gf_X6_2 X hG (nx_0 n_a) k_a fl_X6_25 dX6_alter_1 ?_
  refine lv_iload_n hx hb dX6_alter_4 rfl (lv_at hl 1 rfl) ?_
  obtain ⟨r1, hcr1, h⟩ := bd_y h
  refine g_cVR (a := (a + 4)) (ci := 5) (T := TX5) (N := 5) (av := [.int v1]) (rest := []) X hG hS (ct_X5_streetAt l z (kx_6_4 k_a) (nx_o (a := a) (k := 4) (n := 119) (c := 44) n_a (Nat.le_of_ble_eq_true rfl)) hcr1) mt_X5_streetAt ml_X6_139 rfl ⟨rfl, rfl, Nat.le_of_ble_eq_true rfl, Nat.le_of_ble_eq_true rfl⟩ ⟨Nat.le_refl 0, Nat.le_refl 0⟩ (nx_0 (nx_o (a := a) (k := 4) (n := 119) (c := 44) n_a (Nat.le_of_ble_eq_true rfl))) (kx_6_4 k_a) (by decide) rfl hl.1 (Nat.le_of_ble_eq_true rfl) rfl dX6_alter_5 (fun H locs hG hS => ?_)
  have h0 := onO_y h
  clear h
  obtain ⟨eq2, h⟩ | ⟨q2, eq2, h⟩ := h0
  · subst eq2
    refine g_rfN ?_
    refine lv_astoreN (lv' := [(5, .null), (0, .ref (gad z a)), (1, .int v1), (2, .int v2), (3, .int v3), (4, .int v4)]) hx hb dX6_alter_8 hl (by decide) rfl (fun ls hl => ?_)
    refine lv_aloadN hx hb dX6_alter_10 (lv_at hl 0 rfl) ?_
    refine lv_ifnullN (tgt := 44) hx hb dX6_alter_12 (by decide) ?_
    refine lv_aload_n hx hb dX6_alter_44 rfl (lv_at hl 1 rfl) ?_
    refine lv_bipush (v := (-2)) hx hb dX6_alter_45 (by decide) ?_
    obtain ⟨r3, hcr3, h⟩ := bd_y h
    refine g_cVI (a := a) (ci := 6) (T := TX6) (N := 8) (av := [.int (-2)]) (rest := []) X hG hS (ct_X6_refuse l z k_a n_a hcr3) mt_X6_refuse ml_X6_59 rfl ⟨rfl, rfl, Nat.le_of_ble_eq_true rfl, Nat.le_of_ble_eq_true rfl⟩ ⟨Nat.le_refl 0, Nat.le_refl 0⟩ (nx_0 n_a) k_a (by decide) rfl hl.1 (Nat.le_of_ble_eq_true rfl) rfl dX6_alter_47 (fun H locs hG hS => ?_)
    obtain rfl := Option.some.inj h
    exact g_iret X hr hlk hG hS dX6_alter_50
  · subst eq2
    refine g_rfS ?_
    obtain ⟨⟨k_q2, n1_q2⟩, h⟩ := gc_y h
    have n_q2 : q2 + 8 ≤ gn z := Nat.le_trans n1_q2 n_a
    refine lv_astore (lv' := [(5, .ref (gad z q2)), (0, .ref (gad z a)), (1, .int v1), (2, .int v2), (3, .int v3), (4, .int v4)]) hx hb dX6_alter_8 hl (by decide) rfl (fun ls hl => ?_)
    refine lv_aload hx hb dX6_alter_10 (lv_at hl 0 rfl) ?_
    refine lv_ifnull hx hb dX6_alter_12 ?_
    refine lv_aload hx hb dX6_alter_15 (lv_at hl 0 rfl) ?_
    refine lv_iload_n hx hb dX6_alter_17 rfl (lv_at hl 3 rfl) ?_
    obtain ⟨r4, hcr4, h⟩ := bd_y h
    refine g_cVI (a := q2) (ci := 4) (T := TX4) (N := 10) (av := [.int v2]) (rest := []) X hG hS (ct_X4_hasPerson l z k_q2 n_q2 hcr4) mt_X4_hasPerson ml_X6_158 rfl ⟨rfl, rfl, Nat.le_of_ble_eq_true rfl, Nat.le_of_ble_eq_true rfl⟩ ⟨Nat.le_refl 0, Nat.le_refl 0⟩ (nx_0 n_q2) k_q2 (by decide) rfl hl.1 (Nat.le_of_ble_eq_true rfl) rfl dX6_alter_18 (fun H locs hG hS => ?_)
    refine lv_if_eq (tgt := 44) hx hb dX6_alter_21 (by decide) (fun q5 => ?_) (fun q5 => ?_)
    · have h := ite_y h q5
      refine lv_aload_n hx hb dX6_alter_44 rfl (lv_at hl 1 rfl) ?_
      refine lv_bipush (v := (-2)) hx hb dX6_alter_45 (by decide) ?_
      obtain ⟨r6, hcr6, h⟩ := bd_y h
      refine g_cVI (a := a) (ci := 6) (T := TX6) (N := 8) (av := [.int (-2)]) (rest := []) X hG hS (ct_X6_refuse l z k_a n_a hcr6) mt_X6_refuse ml_X6_59 rfl ⟨rfl, rfl, Nat.le_of_ble_eq_true rfl, Nat.le_of_ble_eq_true rfl⟩ ⟨Nat.le_refl 0, Nat.le_refl 0⟩ (nx_0 n_a) k_a (by decide) rfl hl.1 (Nat.le_of_ble_eq_true rfl) rfl dX6_alter_47 (fun H locs hG hS => ?_)
      obtain rfl := Option.some.inj h
      exact g_iret X hr hlk hG hS dX6_alter_50
    · have h := ite_n h q5
      refine lv_iload_n hx hb dX6_alter_24 rfl (lv_at hl 4 rfl) ?_
      refine lv_iconst (v := 0) hx hb dX6_alter_25 (by decide) ?_
      refine lv_iconst (v := 1) hx hb dX6_alter_26 (by decide) ?_
      obtain ⟨r7, hcr7, h⟩ := bd_y h
      refine g_cSI (av := [.int v3, .int 0, .int 1]) (rest := []) X hG hS (ct_X6_isWithin l z  hcr7) mt_X6_isWithin ml_X6_55 rfl ⟨rfl, rfl, Nat.le_of_ble_eq_true rfl, Nat.le_of_ble_eq_true rfl⟩ ⟨Nat.le_refl 0, Nat.le_refl 0⟩ hl.1 (Nat.le_of_ble_eq_true rfl) rfl dX6_alter_27 (fun H locs hG hS => ?_)
      refine lv_if_eq (tgt := 44) hx hb dX6_alter_30 (by decide) (fun q8 => ?_) (fun q8 => ?_)
      · have h := ite_y h q8
        refine lv_aload_n hx hb dX6_alter_44 rfl (lv_at hl 1 rfl) ?_
        refine lv_bipush (v := (-2)) hx hb dX6_alter_45 (by decide) ?_
        obtain ⟨r9, hcr9, h⟩ := bd_y h
        refine g_cVI (a := a) (ci := 6) (T := TX6) (N := 8) (av := [.int (-2)]) (rest := []) X hG hS (ct_X6_refuse l z k_a n_a hcr9) mt_X6_refuse ml_X6_59 rfl ⟨rfl, rfl, Nat.le_of_ble_eq_true rfl, Nat.le_of_ble_eq_true rfl⟩ ⟨Nat.le_refl 0, Nat.le_refl 0⟩ (nx_0 n_a) k_a (by decide) rfl hl.1 (Nat.le_of_ble_eq_true rfl) rfl dX6_alter_47 (fun H locs hG hS => ?_)
        obtain rfl := Option.some.inj h
        exact g_iret X hr hlk hG hS dX6_alter_50
      · have h := ite_n h q8
        refine lv_iload hx hb dX6_alter_33 (lv_at hl 5 rfl) ?_
        refine lv_iconst (v := 0) hx hb dX6_alter_35 (by decide) ?_
        refine lv_bipush (v := 99) hx hb dX6_alter_36 (by decide) ?_
        obtain ⟨r10, hcr10, h⟩ := bd_y h
        refine g_cSI (av := [.int v4, .int 0, .int 99]) (rest := []) X hG hS (ct_X6_isWithin l z  hcr10) mt_X6_isWithin ml_X6_55 rfl ⟨rfl, rfl, Nat.le_of_ble_eq_true rfl, Nat.le_of_ble_eq_true rfl⟩ ⟨Nat.le_refl 0, Nat.le_refl 0⟩ hl.1 (Nat.le_of_ble_eq_true rfl) rfl dX6_alter_38 (fun H locs hG hS => ?_)
        refine lv_if_ne (tgt := 51) hx hb dX6_alter_41 (by decide) (fun q11 => ?_) (fun q11 => ?_)
        · have h := ite_n h q11
          refine lv_iload_n hx hb dX6_alter_51 rfl (lv_at hl 4 rfl) ?_
          refine lv_if_ne (tgt := 63) hx hb dX6_alter_52 (by decide) (fun q12 => ?_) (fun q12 => ?_)
          · have h := ite_n h q12
            refine lv_aload hx hb dX6_alter_63 (lv_at hl 0 rfl) ?_
            refine gf_X4_1 X hG (nx_0 n_q2) k_q2 fl_X6_164 dX6_alter_65 ?_
            refine lv_astore (lv' := [(6, .ref (gad z (q2 + 2))), (5, .ref (gad z q2)), (0, .ref (gad z a)), (1, .int v1), (2, .int v2), (3, .int v3), (4, .int v4)]) hx hb dX6_alter_68 hl (by decide) rfl (fun ls hl => ?_)
            refine lv_aload hx hb dX6_alter_70 (lv_at hl 0 rfl) ?_
            refine lv_iload_n hx hb dX6_alter_72 rfl (lv_at hl 4 rfl) ?_
            obtain ⟨i13, h⟩ := gd_y h
            refine g_iald X hG (nx_a (a := q2) (k := 2) (n := 8) n_q2 (Nat.le_of_ble_eq_true rfl)) (kx_4_2 k_q2) (by decide) i13 dX6_alter_73 ?_
            refine lv_topi (fun x14 ex14 => ?_)
            have h := nm_y h x14 ex14
            refine lv_istore (lv' := [(7, .int x14), (6, .ref (gad z (q2 + 2))), (5, .ref (gad z q2)), (0, .ref (gad z a)), (1, .int v1), (2, .int v2), (3, .int v3), (4, .int v4)]) hx hb dX6_alter_74 hl (by decide) rfl (fun ls hl => ?_)
            refine lv_aload hx hb dX6_alter_76 (lv_at hl 1 rfl) ?_
            refine lv_iload_n hx hb dX6_alter_78 rfl (lv_at hl 5 rfl) ?_
            refine lv_iload hx hb dX6_alter_79 (lv_at hl 7 rfl) ?_
            refine g_iast X hG hS (nx_a (a := q2) (k := 2) (n := 8) n_q2 (Nat.le_of_ble_eq_true rfl)) (kx_4_2 k_q2) (by decide) i13 dX6_alter_81 (fun H locs hG hS => ?_)
            obtain ⟨M15, eM15⟩ : ∃ y, y = sI M (q2 + 2) (v2 : Int32).toNatClampNeg v4 := ⟨_, rfl⟩
            rw [← eM15] at hG
            have h := nm_y h M15 eM15
            refine lv_iload hx hb dX6_alter_82 (lv_at hl 0 rfl) ?_
            obtain rfl := Option.some.inj h
            exact g_iret X hr hlk hG hS dX6_alter_84
          · have h := ite_y h q12
            refine lv_aload hx hb dX6_alter_55 (lv_at hl 0 rfl) ?_
            refine gf_X4_0 X hG (nx_0 n_q2) k_q2 fl_X6_161 dX6_alter_57 ?_
            refine lv_goto (tgt := 68) hx hb dX6_alter_60 (by decide) ?_
            refine lv_astore (lv' := [(6, .ref (gad z (q2 + 1))), (5, .ref (gad z q2)), (0, .ref (gad z a)), (1, .int v1), (2, .int v2), (3, .int v3), (4, .int v4)]) hx hb dX6_alter_68 hl (by decide) rfl (fun ls hl => ?_)
            refine lv_aload hx hb dX6_alter_70 (lv_at hl 0 rfl) ?_
            refine lv_iload_n hx hb dX6_alter_72 rfl (lv_at hl 4 rfl) ?_
            obtain ⟨i16, h⟩ := gd_y h
            refine g_iald X hG (nx_a (a := q2) (k := 1) (n := 8) n_q2 (Nat.le_of_ble_eq_true rfl)) (kx_4_1 k_q2) (by decide) i16 dX6_alter_73 ?_
            refine lv_topi (fun x17 ex17 => ?_)
            have h := nm_y h x17 ex17
            refine lv_istore (lv' := [(7, .int x17), (6, .ref (gad z (q2 + 1))), (5, .ref (gad z q2)), (0, .ref (gad z a)), (1, .int v1), (2, .int v2), (3, .int v3), (4, .int v4)]) hx hb dX6_alter_74 hl (by decide) rfl (fun ls hl => ?_)
            refine lv_aload hx hb dX6_alter_76 (lv_at hl 1 rfl) ?_
            refine lv_iload_n hx hb dX6_alter_78 rfl (lv_at hl 5 rfl) ?_
            refine lv_iload hx hb dX6_alter_79 (lv_at hl 7 rfl) ?_
            refine g_iast X hG hS (nx_a (a := q2) (k := 1) (n := 8) n_q2 (Nat.le_of_ble_eq_true rfl)) (kx_4_1 k_q2) (by decide) i16 dX6_alter_81 (fun H locs hG hS => ?_)
            obtain ⟨M18, eM18⟩ : ∃ y, y = sI M (q2 + 1) (v2 : Int32).toNatClampNeg v4 := ⟨_, rfl⟩
            rw [← eM18] at hG
            have h := nm_y h M18 eM18
            refine lv_iload hx hb dX6_alter_82 (lv_at hl 0 rfl) ?_
            obtain rfl := Option.some.inj h
            exact g_iret X hr hlk hG hS dX6_alter_84
        · have h := ite_y h q11
          refine lv_aload_n hx hb dX6_alter_44 rfl (lv_at hl 1 rfl) ?_
          refine lv_bipush (v := (-2)) hx hb dX6_alter_45 (by decide) ?_
          obtain ⟨r19, hcr19, h⟩ := bd_y h
          refine g_cVI (a := a) (ci := 6) (T := TX6) (N := 8) (av := [.int (-2)]) (rest := []) X hG hS (ct_X6_refuse l z k_a n_a hcr19) mt_X6_refuse ml_X6_59 rfl ⟨rfl, rfl, Nat.le_of_ble_eq_true rfl, Nat.le_of_ble_eq_true rfl⟩ ⟨Nat.le_refl 0, Nat.le_refl 0⟩ (nx_0 n_a) k_a (by decide) rfl hl.1 (Nat.le_of_ble_eq_true rfl) rfl dX6_alter_47 (fun H locs hG hS => ?_)
          obtain rfl := Option.some.inj h
          exact g_iret X hr hlk hG hS dX6_alter_50
set_option maxRecDepth 100000 in
set_option maxHeartbeats 4000000 in
theorem ct_X6_tie (l : Launch) (z : gZ) {N : Nat} {M : Mem} {a : Nat} {v1 : Int32} {v2 : Int32} {v3 : Int32} {v4 : Int32} {o : Int32 × Mem} (k_a : kd a = 6) (n_a : a + 119 ≤ gn z) (h : fX6_tie N M a v1 v2 v3 v4 = some o) : CtI l z yX6_tie cX6_tie 7 (some .int) { frames := 4, cells := 0, slots := 0, locals := 87 } [.ref (gad z a), .int v1, .int v2, .int v3, .int v4] M o.1 o.2 := by
  refine Ct_of rfl (Nat.le_of_ble_eq_true rfl) ?_
  intro p e s m below meth c ls X hr hlk hG hS hl
  have X : gX p m c _ _ s _ RX6 z := X
  have hl : lv_has ls 7 [(0, .ref (gad z a)), (1, .int v1), (2, .int v2), (3, .int v3), (4, .int v4)] := hl
  have hx := X.1
  have hb := X.2.1
  unfold fX6_tie at h
  refine lv_aload_n hx hb dX6_tie_0 rfl (lv_at hl 0 rfl) ?_
  refine gf_X6_2 X hG (nx_0 n_a) k_a fl_X6_25 dX6_tie_1 ?_
  refine lv_iload_n hx hb dX6_tie_4 rfl (lv_at hl 1 rfl) ?_
  obtain ⟨r1, hcr1, h⟩ := bd_y h
  refine g_cVR (a := (a + 4)) (ci := 5) (T := TX5) (N := 5) (av := [.int v1]) (rest := []) X hG hS (ct_X5_streetAt l z (kx_6_4 k_a) (nx_o (a := a) (k := 4) (n := 119) (c := 44) n_a (Nat.le_of_ble_eq_true rfl)) hcr1) mt_X5_streetAt ml_X6_139 rfl ⟨rfl, rfl, Nat.le_of_ble_eq_true rfl, Nat.le_of_ble_eq_true rfl⟩ ⟨Nat.le_refl 0, Nat.le_refl 0⟩ (nx_0 (nx_o (a := a) (k := 4) (n := 119) (c := 44) n_a (Nat.le_of_ble_eq_true rfl))) (kx_6_4 k_a) (by decide) rfl hl.1 (Nat.le_of_ble_eq_true rfl) rfl dX6_tie_5 (fun H locs hG hS => ?_)
  have h0 := onO_y h
  clear h
  obtain ⟨eq2, h⟩ | ⟨q2, eq2, h⟩ := h0
  · subst eq2
    refine g_rfN ?_
    refine lv_astoreN (lv' := [(5, .null), (0, .ref (gad z a)), (1, .int v1), (2, .int v2), (3, .int v3), (4, .int v4)]) hx hb dX6_tie_8 hl (by decide) rfl (fun ls hl => ?_)
    refine lv_aloadN hx hb dX6_tie_10 (lv_at hl 0 rfl) ?_
    refine lv_ifnullN (tgt := 36) hx hb dX6_tie_12 (by decide) ?_
    refine lv_aload_n hx hb dX6_tie_36 rfl (lv_at hl 1 rfl) ?_
    refine lv_bipush (v := (-2)) hx hb dX6_tie_37 (by decide) ?_
    obtain ⟨r3, hcr3, h⟩ := bd_y h
    refine g_cVI (a := a) (ci := 6) (T := TX6) (N := 8) (av := [.int (-2)]) (rest := []) X hG hS (ct_X6_refuse l z k_a n_a hcr3) mt_X6_refuse ml_X6_59 rfl ⟨rfl, rfl, Nat.le_of_ble_eq_true rfl, Nat.le_of_ble_eq_true rfl⟩ ⟨Nat.le_refl 0, Nat.le_refl 0⟩ (nx_0 n_a) k_a (by decide) rfl hl.1 (Nat.le_of_ble_eq_true rfl) rfl dX6_tie_39 (fun H locs hG hS => ?_)
    obtain rfl := Option.some.inj h
    exact g_iret X hr hlk hG hS dX6_tie_42
  · subst eq2
    refine g_rfS ?_
    obtain ⟨⟨k_q2, n1_q2⟩, h⟩ := gc_y h
    have n_q2 : q2 + 8 ≤ gn z := Nat.le_trans n1_q2 n_a
    refine lv_astore (lv' := [(5, .ref (gad z q2)), (0, .ref (gad z a)), (1, .int v1), (2, .int v2), (3, .int v3), (4, .int v4)]) hx hb dX6_tie_8 hl (by decide) rfl (fun ls hl => ?_)
    refine lv_aload hx hb dX6_tie_10 (lv_at hl 0 rfl) ?_
    refine lv_ifnull hx hb dX6_tie_12 ?_
    refine lv_aload hx hb dX6_tie_15 (lv_at hl 0 rfl) ?_
    refine lv_iload_n hx hb dX6_tie_17 rfl (lv_at hl 3 rfl) ?_
    refine lv_iload_n hx hb dX6_tie_18 rfl (lv_at hl 4 rfl) ?_
    obtain ⟨r4, hcr4, h⟩ := bd_y h
    refine g_cVI (a := q2) (ci := 4) (T := TX4) (N := 10) (av := [.int v2, .int v3]) (rest := []) X hG hS (ct_X4_hasPair l z k_q2 n_q2 hcr4) mt_X4_hasPair ml_X6_179 rfl ⟨rfl, rfl, Nat.le_of_ble_eq_true rfl, Nat.le_of_ble_eq_true rfl⟩ ⟨Nat.le_refl 0, Nat.le_refl 0⟩ (nx_0 n_q2) k_q2 (by decide) rfl hl.1 (Nat.le_of_ble_eq_true rfl) rfl dX6_tie_19 (fun H locs hG hS => ?_)
    refine lv_if_eq (tgt := 36) hx hb dX6_tie_22 (by decide) (fun q5 => ?_) (fun q5 => ?_)
    · have h := ite_y h q5
      refine lv_aload_n hx hb dX6_tie_36 rfl (lv_at hl 1 rfl) ?_
      refine lv_bipush (v := (-2)) hx hb dX6_tie_37 (by decide) ?_
      obtain ⟨r6, hcr6, h⟩ := bd_y h
      refine g_cVI (a := a) (ci := 6) (T := TX6) (N := 8) (av := [.int (-2)]) (rest := []) X hG hS (ct_X6_refuse l z k_a n_a hcr6) mt_X6_refuse ml_X6_59 rfl ⟨rfl, rfl, Nat.le_of_ble_eq_true rfl, Nat.le_of_ble_eq_true rfl⟩ ⟨Nat.le_refl 0, Nat.le_refl 0⟩ (nx_0 n_a) k_a (by decide) rfl hl.1 (Nat.le_of_ble_eq_true rfl) rfl dX6_tie_39 (fun H locs hG hS => ?_)
      obtain rfl := Option.some.inj h
      exact g_iret X hr hlk hG hS dX6_tie_42
    · have h := ite_n h q5
      refine lv_iload hx hb dX6_tie_25 (lv_at hl 5 rfl) ?_
      refine lv_iconst (v := (-1)) hx hb dX6_tie_27 (by decide) ?_
      refine lv_bipush (v := 9) hx hb dX6_tie_28 (by decide) ?_
      obtain ⟨r7, hcr7, h⟩ := bd_y h
      refine g_cSI (av := [.int v4, .int (-1), .int 9]) (rest := []) X hG hS (ct_X6_isWithin l z  hcr7) mt_X6_isWithin ml_X6_55 rfl ⟨rfl, rfl, Nat.le_of_ble_eq_true rfl, Nat.le_of_ble_eq_true rfl⟩ ⟨Nat.le_refl 0, Nat.le_refl 0⟩ hl.1 (Nat.le_of_ble_eq_true rfl) rfl dX6_tie_30 (fun H locs hG hS => ?_)
      refine lv_if_ne (tgt := 43) hx hb dX6_tie_33 (by decide) (fun q8 => ?_) (fun q8 => ?_)
      · have h := ite_n h q8
        refine lv_aload hx hb dX6_tie_43 (lv_at hl 0 rfl) ?_
        refine lv_iload_n hx hb dX6_tie_45 rfl (lv_at hl 3 rfl) ?_
        refine lv_iload_n hx hb dX6_tie_46 rfl (lv_at hl 4 rfl) ?_
        obtain ⟨r9, hcr9, h⟩ := bd_y h
        refine g_cVI (a := q2) (ci := 4) (T := TX4) (N := 10) (av := [.int v2, .int v3]) (rest := []) X hG hS (ct_X4_priceOf l z k_q2 n_q2 hcr9) mt_X4_priceOf ml_X6_182 rfl ⟨rfl, rfl, Nat.le_of_ble_eq_true rfl, Nat.le_of_ble_eq_true rfl⟩ ⟨Nat.le_refl 0, Nat.le_refl 0⟩ (nx_0 n_q2) k_q2 (by decide) rfl hl.1 (Nat.le_of_ble_eq_true rfl) rfl dX6_tie_47 (fun H locs hG hS => ?_)
        refine lv_istore (lv' := [(6, .int r9), (5, .ref (gad z q2)), (0, .ref (gad z a)), (1, .int v1), (2, .int v2), (3, .int v3), (4, .int v4)]) hx hb dX6_tie_50 hl (by decide) rfl (fun ls hl => ?_)
        refine lv_iload hx hb dX6_tie_52 (lv_at hl 6 rfl) ?_
        refine lv_iconst (v := (-1)) hx hb dX6_tie_54 (by decide) ?_
        refine lv_icmp_ne (tgt := 68) hx hb dX6_tie_55 (by decide) (fun q10 => ?_) (fun q10 => ?_)
        · have h := ite_n h q10
          refine lv_aload hx hb dX6_tie_68 (lv_at hl 1 rfl) ?_
          refine lv_iload_n hx hb dX6_tie_70 rfl (lv_at hl 4 rfl) ?_
          refine lv_iload_n hx hb dX6_tie_71 rfl (lv_at hl 5 rfl) ?_
          refine lv_iload hx hb dX6_tie_72 (lv_at hl 6 rfl) ?_
          obtain ⟨r11, hcr11, h⟩ := bd_y h
          refine g_cVV (a := q2) (ci := 4) (T := TX4) (N := 10) (av := [.int v2, .int v3, .int v4]) (rest := []) X hG hS (ct_X4_join l z k_q2 n_q2 hcr11) mt_X4_join ml_X6_189 rfl ⟨rfl, rfl, Nat.le_of_ble_eq_true rfl, Nat.le_of_ble_eq_true rfl⟩ ⟨Nat.le_refl 0, Nat.le_refl 0⟩ (nx_0 n_q2) k_q2 (by decide) rfl hl.1 (Nat.le_of_ble_eq_true rfl) rfl dX6_tie_74 (fun H locs hG hS => ?_)
          refine lv_iload hx hb dX6_tie_77 (lv_at hl 0 rfl) ?_
          obtain rfl := Option.some.inj h
          exact g_iret X hr hlk hG hS dX6_tie_79
        · have h := ite_y h q10
          refine lv_aload hx hb dX6_tie_58 (lv_at hl 1 rfl) ?_
          refine lv_iload_n hx hb dX6_tie_60 rfl (lv_at hl 4 rfl) ?_
          refine lv_iload_n hx hb dX6_tie_61 rfl (lv_at hl 5 rfl) ?_
          obtain ⟨r12, hcr12, h⟩ := bd_y h
          refine g_cVV (a := q2) (ci := 4) (T := TX4) (N := 10) (av := [.int v2, .int v3]) (rest := []) X hG hS (ct_X4_part l z k_q2 n_q2 hcr12) mt_X4_part ml_X6_186 rfl ⟨rfl, rfl, Nat.le_of_ble_eq_true rfl, Nat.le_of_ble_eq_true rfl⟩ ⟨Nat.le_refl 0, Nat.le_refl 0⟩ (nx_0 n_q2) k_q2 (by decide) rfl hl.1 (Nat.le_of_ble_eq_true rfl) rfl dX6_tie_62 (fun H locs hG hS => ?_)
          refine lv_goto (tgt := 77) hx hb dX6_tie_65 (by decide) ?_
          refine lv_iload hx hb dX6_tie_77 (lv_at hl 0 rfl) ?_
          obtain rfl := Option.some.inj h
          exact g_iret X hr hlk hG hS dX6_tie_79
      · have h := ite_y h q8
        refine lv_aload_n hx hb dX6_tie_36 rfl (lv_at hl 1 rfl) ?_
        refine lv_bipush (v := (-2)) hx hb dX6_tie_37 (by decide) ?_
        obtain ⟨r13, hcr13, h⟩ := bd_y h
        refine g_cVI (a := a) (ci := 6) (T := TX6) (N := 8) (av := [.int (-2)]) (rest := []) X hG hS (ct_X6_refuse l z k_a n_a hcr13) mt_X6_refuse ml_X6_59 rfl ⟨rfl, rfl, Nat.le_of_ble_eq_true rfl, Nat.le_of_ble_eq_true rfl⟩ ⟨Nat.le_refl 0, Nat.le_refl 0⟩ (nx_0 n_a) k_a (by decide) rfl hl.1 (Nat.le_of_ble_eq_true rfl) rfl dX6_tie_39 (fun H locs hG hS => ?_)
        obtain rfl := Option.some.inj h
        exact g_iret X hr hlk hG hS dX6_tie_42
set_option maxRecDepth 100000 in
set_option maxHeartbeats 4000000 in
theorem ct_X6_must (l : Launch) (z : gZ) {N : Nat} {M : Mem} {a : Nat} {v1 : Int32} {v2 : Int32} {v3 : Int32} {o : Int32 × Mem} (k_a : kd a = 6) (n_a : a + 119 ≤ gn z) (h : fX6_must N M a v1 v2 v3 = some o) : CtI l z yX6_must cX6_must 6 (some .int) { frames := 2, cells := 0, slots := 0, locals := 42 } [.ref (gad z a), .int v1, .int v2, .int v3] M o.1 o.2 := by
  refine Ct_of rfl (Nat.le_of_ble_eq_true rfl) ?_
  intro p e s m below meth c ls X hr hlk hG hS hl
  have X : gX p m c _ _ s _ RX6 z := X
  have hl : lv_has ls 6 [(0, .ref (gad z a)), (1, .int v1), (2, .int v2), (3, .int v3)] := hl
  have hx := X.1
  have hb := X.2.1
  unfold fX6_must at h
  refine lv_aload_n hx hb dX6_must_0 rfl (lv_at hl 0 rfl) ?_
  refine gf_X6_2 X hG (nx_0 n_a) k_a fl_X6_25 dX6_must_1 ?_
  refine lv_iload_n hx hb dX6_must_4 rfl (lv_at hl 1 rfl) ?_
  obtain ⟨r1, hcr1, h⟩ := bd_y h
  refine g_cVR (a := (a + 4)) (ci := 5) (T := TX5) (N := 5) (av := [.int v1]) (rest := []) X hG hS (ct_X5_streetAt l z (kx_6_4 k_a) (nx_o (a := a) (k := 4) (n := 119) (c := 44) n_a (Nat.le_of_ble_eq_true rfl)) hcr1) mt_X5_streetAt ml_X6_139 rfl ⟨rfl, rfl, Nat.le_of_ble_eq_true rfl, Nat.le_of_ble_eq_true rfl⟩ ⟨Nat.le_refl 0, Nat.le_refl 0⟩ (nx_0 (nx_o (a := a) (k := 4) (n := 119) (c := 44) n_a (Nat.le_of_ble_eq_true rfl))) (kx_6_4 k_a) (by decide) rfl hl.1 (Nat.le_of_ble_eq_true rfl) rfl dX6_must_5 (fun H locs hG hS => ?_)
  have h0 := onO_y h
  clear h
  obtain ⟨eq2, h⟩ | ⟨q2, eq2, h⟩ := h0
  · subst eq2
    refine g_rfN ?_
    refine lv_astoreN (lv' := [(4, .null), (0, .ref (gad z a)), (1, .int v1), (2, .int v2), (3, .int v3)]) hx hb dX6_must_8 hl (by decide) rfl (fun ls hl => ?_)
    refine lv_aloadN hx hb dX6_must_10 (lv_at hl 0 rfl) ?_
    refine lv_ifnullN (tgt := 24) hx hb dX6_must_12 (by decide) ?_
    refine lv_aload_n hx hb dX6_must_24 rfl (lv_at hl 1 rfl) ?_
    refine lv_bipush (v := (-2)) hx hb dX6_must_25 (by decide) ?_
    obtain ⟨r3, hcr3, h⟩ := bd_y h
    refine g_cVI (a := a) (ci := 6) (T := TX6) (N := 8) (av := [.int (-2)]) (rest := []) X hG hS (ct_X6_refuse l z k_a n_a hcr3) mt_X6_refuse ml_X6_59 rfl ⟨rfl, rfl, Nat.le_of_ble_eq_true rfl, Nat.le_of_ble_eq_true rfl⟩ ⟨Nat.le_refl 0, Nat.le_refl 0⟩ (nx_0 n_a) k_a (by decide) rfl hl.1 (Nat.le_of_ble_eq_true rfl) rfl dX6_must_27 (fun H locs hG hS => ?_)
    obtain rfl := Option.some.inj h
    exact g_iret X hr hlk hG hS dX6_must_30
  · subst eq2
    refine g_rfS ?_
    obtain ⟨⟨k_q2, n1_q2⟩, h⟩ := gc_y h
    have n_q2 : q2 + 8 ≤ gn z := Nat.le_trans n1_q2 n_a
    refine lv_astore (lv' := [(4, .ref (gad z q2)), (0, .ref (gad z a)), (1, .int v1), (2, .int v2), (3, .int v3)]) hx hb dX6_must_8 hl (by decide) rfl (fun ls hl => ?_)
    refine lv_aload hx hb dX6_must_10 (lv_at hl 0 rfl) ?_
    refine lv_ifnull hx hb dX6_must_12 ?_
    refine lv_aload hx hb dX6_must_15 (lv_at hl 0 rfl) ?_
    refine lv_iload_n hx hb dX6_must_17 rfl (lv_at hl 3 rfl) ?_
    obtain ⟨r4, hcr4, h⟩ := bd_y h
    refine g_cVI (a := q2) (ci := 4) (T := TX4) (N := 10) (av := [.int v2]) (rest := []) X hG hS (ct_X4_hasPerson l z k_q2 n_q2 hcr4) mt_X4_hasPerson ml_X6_158 rfl ⟨rfl, rfl, Nat.le_of_ble_eq_true rfl, Nat.le_of_ble_eq_true rfl⟩ ⟨Nat.le_refl 0, Nat.le_refl 0⟩ (nx_0 n_q2) k_q2 (by decide) rfl hl.1 (Nat.le_of_ble_eq_true rfl) rfl dX6_must_18 (fun H locs hG hS => ?_)
    refine lv_if_ne (tgt := 31) hx hb dX6_must_21 (by decide) (fun q5 => ?_) (fun q5 => ?_)
    · have h := ite_n h q5
      refine lv_aload hx hb dX6_must_31 (lv_at hl 0 rfl) ?_
      refine lv_iload_n hx hb dX6_must_33 rfl (lv_at hl 3 rfl) ?_
      obtain ⟨r6, hcr6, h⟩ := bd_y h
      refine g_cVI (a := q2) (ci := 4) (T := TX4) (N := 10) (av := [.int v2]) (rest := []) X hG hS (ct_X4_isMust l z k_q2 n_q2 hcr6) mt_X4_isMust ml_X6_170 rfl ⟨rfl, rfl, Nat.le_of_ble_eq_true rfl, Nat.le_of_ble_eq_true rfl⟩ ⟨Nat.le_refl 0, Nat.le_refl 0⟩ (nx_0 n_q2) k_q2 (by decide) rfl hl.1 (Nat.le_of_ble_eq_true rfl) rfl dX6_must_34 (fun H locs hG hS => ?_)
      refine lv_if_eq (tgt := 44) hx hb dX6_must_37 (by decide) (fun q7 => ?_) (fun q7 => ?_)
      · have h := ite_y h q7
        refine lv_iconst (v := 0) hx hb dX6_must_44 (by decide) ?_
        refine lv_istore (lv' := [(5, .int 0), (4, .ref (gad z q2)), (0, .ref (gad z a)), (1, .int v1), (2, .int v2), (3, .int v3)]) hx hb dX6_must_45 hl (by decide) rfl (fun ls hl => ?_)
        refine lv_aload hx hb dX6_must_47 (lv_at hl 1 rfl) ?_
        refine lv_iload_n hx hb dX6_must_49 rfl (lv_at hl 4 rfl) ?_
        refine lv_iload_n hx hb dX6_must_50 rfl (lv_at hl 5 rfl) ?_
        obtain ⟨r8, hcr8, h⟩ := bd_y h
        refine g_cVV (a := q2) (ci := 4) (T := TX4) (N := 10) (av := [.int v2, .int v3]) (rest := []) X hG hS (ct_X4_setMust l z k_q2 n_q2 hcr8) mt_X4_setMust ml_X6_193 rfl ⟨rfl, rfl, Nat.le_of_ble_eq_true rfl, Nat.le_of_ble_eq_true rfl⟩ ⟨Nat.le_refl 0, Nat.le_refl 0⟩ (nx_0 n_q2) k_q2 (by decide) rfl hl.1 (Nat.le_of_ble_eq_true rfl) rfl dX6_must_51 (fun H locs hG hS => ?_)
        refine lv_iload hx hb dX6_must_54 (lv_at hl 0 rfl) ?_
        obtain rfl := Option.some.inj h
        exact g_iret X hr hlk hG hS dX6_must_56
      · have h := ite_n h q7
        refine lv_iconst (v := 1) hx hb dX6_must_40 (by decide) ?_
        refine lv_goto (tgt := 45) hx hb dX6_must_41 (by decide) ?_
        refine lv_istore (lv' := [(5, .int 1), (4, .ref (gad z q2)), (0, .ref (gad z a)), (1, .int v1), (2, .int v2), (3, .int v3)]) hx hb dX6_must_45 hl (by decide) rfl (fun ls hl => ?_)
        refine lv_aload hx hb dX6_must_47 (lv_at hl 1 rfl) ?_
        refine lv_iload_n hx hb dX6_must_49 rfl (lv_at hl 4 rfl) ?_
        refine lv_iload_n hx hb dX6_must_50 rfl (lv_at hl 5 rfl) ?_
        obtain ⟨r9, hcr9, h⟩ := bd_y h
        refine g_cVV (a := q2) (ci := 4) (T := TX4) (N := 10) (av := [.int v2, .int v3]) (rest := []) X hG hS (ct_X4_setMust l z k_q2 n_q2 hcr9) mt_X4_setMust ml_X6_193 rfl ⟨rfl, rfl, Nat.le_of_ble_eq_true rfl, Nat.le_of_ble_eq_true rfl⟩ ⟨Nat.le_refl 0, Nat.le_refl 0⟩ (nx_0 n_q2) k_q2 (by decide) rfl hl.1 (Nat.le_of_ble_eq_true rfl) rfl dX6_must_51 (fun H locs hG hS => ?_)
        refine lv_iload hx hb dX6_must_54 (lv_at hl 0 rfl) ?_
        obtain rfl := Option.some.inj h
        exact g_iret X hr hlk hG hS dX6_must_56
    · have h := ite_y h q5
      refine lv_aload_n hx hb dX6_must_24 rfl (lv_at hl 1 rfl) ?_
      refine lv_bipush (v := (-2)) hx hb dX6_must_25 (by decide) ?_
      obtain ⟨r10, hcr10, h⟩ := bd_y h
      refine g_cVI (a := a) (ci := 6) (T := TX6) (N := 8) (av := [.int (-2)]) (rest := []) X hG hS (ct_X6_refuse l z k_a n_a hcr10) mt_X6_refuse ml_X6_59 rfl ⟨rfl, rfl, Nat.le_of_ble_eq_true rfl, Nat.le_of_ble_eq_true rfl⟩ ⟨Nat.le_refl 0, Nat.le_refl 0⟩ (nx_0 n_a) k_a (by decide) rfl hl.1 (Nat.le_of_ble_eq_true rfl) rfl dX6_must_27 (fun H locs hG hS => ?_)
      obtain rfl := Option.some.inj h
      exact g_iret X hr hlk hG hS dX6_must_30
set_option maxRecDepth 100000 in
set_option maxHeartbeats 4000000 in
theorem ct_X6_take (l : Launch) (z : gZ) {N : Nat} {M : Mem} {a : Nat} {v1 : Int32} {v2 : Int32} {v3 : Int32} {o : Int32 × Mem} (k_a : kd a = 6) (n_a : a + 119 ≤ gn z) (h : fX6_take N M a v1 v2 v3 = some o) : CtI l z yX6_take cX6_take 6 (some .int) { frames := 2, cells := 0, slots := 0, locals := 44 } [.ref (gad z a), .int v1, .int v2, .int v3] M o.1 o.2 := by
  refine Ct_of rfl (Nat.le_of_ble_eq_true rfl) ?_
  intro p e s m below meth c ls X hr hlk hG hS hl
  have X : gX p m c _ _ s _ RX6 z := X
  have hl : lv_has ls 6 [(0, .ref (gad z a)), (1, .int v1), (2, .int v2), (3, .int v3)] := hl
  have hx := X.1
  have hb := X.2.1
  unfold fX6_take at h
  refine lv_aload_n hx hb dX6_take_0 rfl (lv_at hl 0 rfl) ?_
  refine gf_X6_2 X hG (nx_0 n_a) k_a fl_X6_25 dX6_take_1 ?_
  refine lv_iload_n hx hb dX6_take_4 rfl (lv_at hl 1 rfl) ?_
  obtain ⟨r1, hcr1, h⟩ := bd_y h
  refine g_cVR (a := (a + 4)) (ci := 5) (T := TX5) (N := 5) (av := [.int v1]) (rest := []) X hG hS (ct_X5_streetAt l z (kx_6_4 k_a) (nx_o (a := a) (k := 4) (n := 119) (c := 44) n_a (Nat.le_of_ble_eq_true rfl)) hcr1) mt_X5_streetAt ml_X6_139 rfl ⟨rfl, rfl, Nat.le_of_ble_eq_true rfl, Nat.le_of_ble_eq_true rfl⟩ ⟨Nat.le_refl 0, Nat.le_refl 0⟩ (nx_0 (nx_o (a := a) (k := 4) (n := 119) (c := 44) n_a (Nat.le_of_ble_eq_true rfl))) (kx_6_4 k_a) (by decide) rfl hl.1 (Nat.le_of_ble_eq_true rfl) rfl dX6_take_5 (fun H locs hG hS => ?_)
  have h0 := onO_y h
  clear h
  obtain ⟨eq2, h⟩ | ⟨q2, eq2, h⟩ := h0
  · subst eq2
    refine g_rfN ?_
    refine lv_astoreN (lv' := [(4, .null), (0, .ref (gad z a)), (1, .int v1), (2, .int v2), (3, .int v3)]) hx hb dX6_take_8 hl (by decide) rfl (fun ls hl => ?_)
    refine lv_aloadN hx hb dX6_take_10 (lv_at hl 0 rfl) ?_
    refine lv_ifnullN (tgt := 24) hx hb dX6_take_12 (by decide) ?_
    refine lv_aload_n hx hb dX6_take_24 rfl (lv_at hl 1 rfl) ?_
    refine lv_bipush (v := (-2)) hx hb dX6_take_25 (by decide) ?_
    obtain ⟨r3, hcr3, h⟩ := bd_y h
    refine g_cVI (a := a) (ci := 6) (T := TX6) (N := 8) (av := [.int (-2)]) (rest := []) X hG hS (ct_X6_refuse l z k_a n_a hcr3) mt_X6_refuse ml_X6_59 rfl ⟨rfl, rfl, Nat.le_of_ble_eq_true rfl, Nat.le_of_ble_eq_true rfl⟩ ⟨Nat.le_refl 0, Nat.le_refl 0⟩ (nx_0 n_a) k_a (by decide) rfl hl.1 (Nat.le_of_ble_eq_true rfl) rfl dX6_take_27 (fun H locs hG hS => ?_)
    obtain rfl := Option.some.inj h
    exact g_iret X hr hlk hG hS dX6_take_30
  · subst eq2
    refine g_rfS ?_
    obtain ⟨⟨k_q2, n1_q2⟩, h⟩ := gc_y h
    have n_q2 : q2 + 8 ≤ gn z := Nat.le_trans n1_q2 n_a
    refine lv_astore (lv' := [(4, .ref (gad z q2)), (0, .ref (gad z a)), (1, .int v1), (2, .int v2), (3, .int v3)]) hx hb dX6_take_8 hl (by decide) rfl (fun ls hl => ?_)
    refine lv_aload hx hb dX6_take_10 (lv_at hl 0 rfl) ?_
    refine lv_ifnull hx hb dX6_take_12 ?_
    refine lv_aload hx hb dX6_take_15 (lv_at hl 0 rfl) ?_
    refine lv_iload_n hx hb dX6_take_17 rfl (lv_at hl 3 rfl) ?_
    obtain ⟨r4, hcr4, h⟩ := bd_y h
    refine g_cVI (a := q2) (ci := 4) (T := TX4) (N := 10) (av := [.int v2]) (rest := []) X hG hS (ct_X4_hasPerson l z k_q2 n_q2 hcr4) mt_X4_hasPerson ml_X6_158 rfl ⟨rfl, rfl, Nat.le_of_ble_eq_true rfl, Nat.le_of_ble_eq_true rfl⟩ ⟨Nat.le_refl 0, Nat.le_refl 0⟩ (nx_0 n_q2) k_q2 (by decide) rfl hl.1 (Nat.le_of_ble_eq_true rfl) rfl dX6_take_18 (fun H locs hG hS => ?_)
    refine lv_if_ne (tgt := 31) hx hb dX6_take_21 (by decide) (fun q5 => ?_) (fun q5 => ?_)
    · have h := ite_n h q5
      refine lv_iload_n hx hb dX6_take_31 rfl (lv_at hl 4 rfl) ?_
      refine lv_iconst (v := (-1)) hx hb dX6_take_32 (by decide) ?_
      refine lv_icmp_ne (tgt := 46) hx hb dX6_take_33 (by decide) (fun q6 => ?_) (fun q6 => ?_)
      · have h := ite_n h q6
        refine lv_aload_n hx hb dX6_take_46 rfl (lv_at hl 1 rfl) ?_
        refine lv_iload_n hx hb dX6_take_47 rfl (lv_at hl 4 rfl) ?_
        obtain ⟨r7, hcr7, h⟩ := bd_y h
        refine g_cVR (a := a) (ci := 6) (T := TX6) (N := 8) (av := [.int v3]) (rest := []) X hG hS (ct_X6_shelfAt l z k_a n_a hcr7) mt_X6_shelfAt ml_X6_51 rfl ⟨rfl, rfl, Nat.le_of_ble_eq_true rfl, Nat.le_of_ble_eq_true rfl⟩ ⟨Nat.le_refl 0, Nat.le_refl 0⟩ (nx_0 n_a) k_a (by decide) rfl hl.1 (Nat.le_of_ble_eq_true rfl) rfl dX6_take_48 (fun H locs hG hS => ?_)
        have h0 := onO_y h
        clear h
        obtain ⟨eq8, h⟩ | ⟨q8, eq8, h⟩ := h0
        · subst eq8
          refine g_rfN ?_
          refine lv_astoreN (lv' := [(5, .null), (4, .ref (gad z q2)), (0, .ref (gad z a)), (1, .int v1), (2, .int v2), (3, .int v3)]) hx hb dX6_take_51 hl (by decide) rfl (fun ls hl => ?_)
          refine lv_aloadN hx hb dX6_take_53 (lv_at hl 0 rfl) ?_
          refine lv_ifnonnullN hx hb dX6_take_55 ?_
          refine lv_aload_n hx hb dX6_take_58 rfl (lv_at hl 2 rfl) ?_
          refine lv_bipush (v := (-2)) hx hb dX6_take_59 (by decide) ?_
          obtain ⟨r9, hcr9, h⟩ := bd_y h
          refine g_cVI (a := a) (ci := 6) (T := TX6) (N := 8) (av := [.int (-2)]) (rest := []) X hG hS (ct_X6_refuse l z k_a n_a hcr9) mt_X6_refuse ml_X6_59 rfl ⟨rfl, rfl, Nat.le_of_ble_eq_true rfl, Nat.le_of_ble_eq_true rfl⟩ ⟨Nat.le_refl 0, Nat.le_refl 0⟩ (nx_0 n_a) k_a (by decide) rfl hl.1 (Nat.le_of_ble_eq_true rfl) rfl dX6_take_61 (fun H locs hG hS => ?_)
          obtain rfl := Option.some.inj h
          exact g_iret X hr hlk hG hS dX6_take_64
        · subst eq8
          refine g_rfS ?_
          obtain ⟨⟨k_q8, n1_q8⟩, h⟩ := gc_y h
          have n_q8 : q8 + 2 ≤ gn z := Nat.le_trans n1_q8 n_a
          refine lv_astore (lv' := [(5, .ref (gad z q8)), (4, .ref (gad z q2)), (0, .ref (gad z a)), (1, .int v1), (2, .int v2), (3, .int v3)]) hx hb dX6_take_51 hl (by decide) rfl (fun ls hl => ?_)
          refine lv_aload hx hb dX6_take_53 (lv_at hl 0 rfl) ?_
          refine lv_ifnonnull (tgt := 65) hx hb dX6_take_55 (by decide) ?_
          refine lv_aload hx hb dX6_take_65 (lv_at hl 0 rfl) ?_
          obtain ⟨r10, hcr10, h⟩ := bd_y h
          refine g_cVI (a := q8) (ci := 3) (T := TX3) (N := 4) (av := []) (rest := []) X hG hS (ct_X3_isRow l z k_q8 n_q8 hcr10) mt_X3_isRow ml_X6_71 rfl ⟨rfl, rfl, Nat.le_of_ble_eq_true rfl, Nat.le_of_ble_eq_true rfl⟩ ⟨Nat.le_refl 0, Nat.le_refl 0⟩ (nx_0 n_q8) k_q8 (by decide) rfl hl.1 (Nat.le_of_ble_eq_true rfl) rfl dX6_take_67 (fun H locs hG hS => ?_)
          refine lv_if_eq (tgt := 80) hx hb dX6_take_70 (by decide) (fun q11 => ?_) (fun q11 => ?_)
          · have h := ite_y h q11
            refine lv_aload hx hb dX6_take_80 (lv_at hl 0 rfl) ?_
            obtain ⟨r12, hcr12, h⟩ := bd_y h
            refine g_cVI (a := q8) (ci := 3) (T := TX3) (N := 4) (av := []) (rest := []) X hG hS (ct_X3_isWay l z k_q8 n_q8 hcr12) mt_X3_isWay ml_X6_67 rfl ⟨rfl, rfl, Nat.le_of_ble_eq_true rfl, Nat.le_of_ble_eq_true rfl⟩ ⟨Nat.le_refl 0, Nat.le_refl 0⟩ (nx_0 n_q8) k_q8 (by decide) rfl hl.1 (Nat.le_of_ble_eq_true rfl) rfl dX6_take_82 (fun H locs hG hS => ?_)
            refine lv_if_ne (tgt := 95) hx hb dX6_take_85 (by decide) (fun q13 => ?_) (fun q13 => ?_)
            · have h := ite_n h q13
              refine lv_aload hx hb dX6_take_95 (lv_at hl 1 rfl) ?_
              refine lv_iload_n hx hb dX6_take_97 rfl (lv_at hl 4 rfl) ?_
              refine lv_aload hx hb dX6_take_98 (lv_at hl 0 rfl) ?_
              obtain ⟨r14, hcr14, h⟩ := bd_y h
              refine g_cVI (a := q8) (ci := 3) (T := TX3) (N := 4) (av := []) (rest := [.int v2, .ref (gad z q2)]) X hG hS (ct_X3_wayKind l z k_q8 n_q8 hcr14) mt_X3_wayKind ml_X6_200 rfl ⟨rfl, rfl, Nat.le_of_ble_eq_true rfl, Nat.le_of_ble_eq_true rfl⟩ ⟨Nat.le_refl 0, Nat.le_refl 0⟩ (nx_0 n_q8) k_q8 (by decide) rfl hl.1 (Nat.le_of_ble_eq_true rfl) rfl dX6_take_100 (fun H locs hG hS => ?_)
              refine lv_aload hx hb dX6_take_103 (lv_at hl 0 rfl) ?_
              refine gf_X3_3 X hG (nx_0 n_q8) k_q8 fl_X6_202 dX6_take_105 ?_
              obtain ⟨r15, hcr15, h⟩ := bd_y h
              refine g_cVV (a := q2) (ci := 4) (T := TX4) (N := 10) (av := [.int v2, .int r14, .int (M.1 q8 3)]) (rest := []) X hG hS (ct_X4_giveWay l z k_q2 n_q2 hcr15) mt_X4_giveWay ml_X6_197 rfl ⟨rfl, rfl, Nat.le_of_ble_eq_true rfl, Nat.le_of_ble_eq_true rfl⟩ ⟨Nat.le_refl 0, Nat.le_refl 0⟩ (nx_0 n_q2) k_q2 (by decide) rfl hl.1 (Nat.le_of_ble_eq_true rfl) rfl dX6_take_108 (fun H locs hG hS => ?_)
              refine lv_iconst (v := 1) hx hb dX6_take_111 (by decide) ?_
              obtain rfl := Option.some.inj h
              exact g_iret X hr hlk hG hS dX6_take_112
            · have h := ite_y h q13
              refine lv_aload_n hx hb dX6_take_88 rfl (lv_at hl 2 rfl) ?_
              refine lv_bipush (v := (-4)) hx hb dX6_take_89 (by decide) ?_
              obtain ⟨r16, hcr16, h⟩ := bd_y h
              refine g_cVI (a := a) (ci := 6) (T := TX6) (N := 8) (av := [.int (-4)]) (rest := []) X hG hS (ct_X6_refuse l z k_a n_a hcr16) mt_X6_refuse ml_X6_59 rfl ⟨rfl, rfl, Nat.le_of_ble_eq_true rfl, Nat.le_of_ble_eq_true rfl⟩ ⟨Nat.le_refl 0, Nat.le_refl 0⟩ (nx_0 n_a) k_a (by decide) rfl hl.1 (Nat.le_of_ble_eq_true rfl) rfl dX6_take_91 (fun H locs hG hS => ?_)
              obtain rfl := Option.some.inj h
              exact g_iret X hr hlk hG hS dX6_take_94
          · have h := ite_n h q11
            refine lv_aload_n hx hb dX6_take_73 rfl (lv_at hl 2 rfl) ?_
            refine lv_bipush (v := (-3)) hx hb dX6_take_74 (by decide) ?_
            obtain ⟨r17, hcr17, h⟩ := bd_y h
            refine g_cVI (a := a) (ci := 6) (T := TX6) (N := 8) (av := [.int (-3)]) (rest := []) X hG hS (ct_X6_refuse l z k_a n_a hcr17) mt_X6_refuse ml_X6_59 rfl ⟨rfl, rfl, Nat.le_of_ble_eq_true rfl, Nat.le_of_ble_eq_true rfl⟩ ⟨Nat.le_refl 0, Nat.le_refl 0⟩ (nx_0 n_a) k_a (by decide) rfl hl.1 (Nat.le_of_ble_eq_true rfl) rfl dX6_take_76 (fun H locs hG hS => ?_)
            obtain rfl := Option.some.inj h
            exact g_iret X hr hlk hG hS dX6_take_79
      · have h := ite_y h q6
        refine lv_aload hx hb dX6_take_36 (lv_at hl 0 rfl) ?_
        refine lv_iload_n hx hb dX6_take_38 rfl (lv_at hl 3 rfl) ?_
        refine lv_iconst (v := (-1)) hx hb dX6_take_39 (by decide) ?_
        refine lv_iconst (v := 0) hx hb dX6_take_40 (by decide) ?_
        obtain ⟨r18, hcr18, h⟩ := bd_y h
        refine g_cVV (a := q2) (ci := 4) (T := TX4) (N := 10) (av := [.int v2, .int (-1), .int 0]) (rest := []) X hG hS (ct_X4_giveWay l z k_q2 n_q2 hcr18) mt_X4_giveWay ml_X6_197 rfl ⟨rfl, rfl, Nat.le_of_ble_eq_true rfl, Nat.le_of_ble_eq_true rfl⟩ ⟨Nat.le_refl 0, Nat.le_refl 0⟩ (nx_0 n_q2) k_q2 (by decide) rfl hl.1 (Nat.le_of_ble_eq_true rfl) rfl dX6_take_41 (fun H locs hG hS => ?_)
        refine lv_iconst (v := 1) hx hb dX6_take_44 (by decide) ?_
        obtain rfl := Option.some.inj h
        exact g_iret X hr hlk hG hS dX6_take_45
    · have h := ite_y h q5
      refine lv_aload_n hx hb dX6_take_24 rfl (lv_at hl 1 rfl) ?_
      refine lv_bipush (v := (-2)) hx hb dX6_take_25 (by decide) ?_
      obtain ⟨r19, hcr19, h⟩ := bd_y h
      refine g_cVI (a := a) (ci := 6) (T := TX6) (N := 8) (av := [.int (-2)]) (rest := []) X hG hS (ct_X6_refuse l z k_a n_a hcr19) mt_X6_refuse ml_X6_59 rfl ⟨rfl, rfl, Nat.le_of_ble_eq_true rfl, Nat.le_of_ble_eq_true rfl⟩ ⟨Nat.le_refl 0, Nat.le_refl 0⟩ (nx_0 n_a) k_a (by decide) rfl hl.1 (Nat.le_of_ble_eq_true rfl) rfl dX6_take_27 (fun H locs hG hS => ?_)
      obtain rfl := Option.some.inj h
      exact g_iret X hr hlk hG hS dX6_take_30
set_option maxRecDepth 100000 in
set_option maxHeartbeats 4000000 in
theorem ct_X6_come (l : Launch) (z : gZ) {N : Nat} {M : Mem} {a : Nat} {v1 : Int32} {v2 : Int32} {v3 : Int32} {v4 : Int32} {o : Int32 × Mem} (k_a : kd a = 6) (n_a : a + 119 ≤ gn z) (h : fX6_come N M a v1 v2 v3 v4 = some o) : CtI l z yX6_come cX6_come 6 (some .int) { frames := 4, cells := 0, slots := 0, locals := 91 } [.ref (gad z a), .int v1, .int v2, .int v3, .int v4] M o.1 o.2 := by
  refine Ct_of rfl (Nat.le_of_ble_eq_true rfl) ?_
  intro p e s m below meth c ls X hr hlk hG hS hl
  have X : gX p m c _ _ s _ RX6 z := X
  have hl : lv_has ls 6 [(0, .ref (gad z a)), (1, .int v1), (2, .int v2), (3, .int v3), (4, .int v4)] := hl
  have hx := X.1
  have hb := X.2.1
  unfold fX6_come at h
  refine lv_aload_n hx hb dX6_come_0 rfl (lv_at hl 0 rfl) ?_
  refine gf_X6_2 X hG (nx_0 n_a) k_a fl_X6_25 dX6_come_1 ?_
  refine lv_iload_n hx hb dX6_come_4 rfl (lv_at hl 1 rfl) ?_
  obtain ⟨r1, hcr1, h⟩ := bd_y h
  refine g_cVR (a := (a + 4)) (ci := 5) (T := TX5) (N := 5) (av := [.int v1]) (rest := []) X hG hS (ct_X5_streetAt l z (kx_6_4 k_a) (nx_o (a := a) (k := 4) (n := 119) (c := 44) n_a (Nat.le_of_ble_eq_true rfl)) hcr1) mt_X5_streetAt ml_X6_139 rfl ⟨rfl, rfl, Nat.le_of_ble_eq_true rfl, Nat.le_of_ble_eq_true rfl⟩ ⟨Nat.le_refl 0, Nat.le_refl 0⟩ (nx_0 (nx_o (a := a) (k := 4) (n := 119) (c := 44) n_a (Nat.le_of_ble_eq_true rfl))) (kx_6_4 k_a) (by decide) rfl hl.1 (Nat.le_of_ble_eq_true rfl) rfl dX6_come_5 (fun H locs hG hS => ?_)
  have h0 := onO_y h
  clear h
  obtain ⟨eq2, h⟩ | ⟨q2, eq2, h⟩ := h0
  · subst eq2
    refine g_rfN ?_
    refine lv_astoreN (lv' := [(5, .null), (0, .ref (gad z a)), (1, .int v1), (2, .int v2), (3, .int v3), (4, .int v4)]) hx hb dX6_come_8 hl (by decide) rfl (fun ls hl => ?_)
    refine lv_aloadN hx hb dX6_come_10 (lv_at hl 0 rfl) ?_
    refine lv_ifnullN (tgt := 45) hx hb dX6_come_12 (by decide) ?_
    refine lv_aload_n hx hb dX6_come_45 rfl (lv_at hl 1 rfl) ?_
    refine lv_bipush (v := (-2)) hx hb dX6_come_46 (by decide) ?_
    obtain ⟨r3, hcr3, h⟩ := bd_y h
    refine g_cVI (a := a) (ci := 6) (T := TX6) (N := 8) (av := [.int (-2)]) (rest := []) X hG hS (ct_X6_refuse l z k_a n_a hcr3) mt_X6_refuse ml_X6_59 rfl ⟨rfl, rfl, Nat.le_of_ble_eq_true rfl, Nat.le_of_ble_eq_true rfl⟩ ⟨Nat.le_refl 0, Nat.le_refl 0⟩ (nx_0 n_a) k_a (by decide) rfl hl.1 (Nat.le_of_ble_eq_true rfl) rfl dX6_come_48 (fun H locs hG hS => ?_)
    obtain rfl := Option.some.inj h
    exact g_iret X hr hlk hG hS dX6_come_51
  · subst eq2
    refine g_rfS ?_
    obtain ⟨⟨k_q2, n1_q2⟩, h⟩ := gc_y h
    have n_q2 : q2 + 8 ≤ gn z := Nat.le_trans n1_q2 n_a
    refine lv_astore (lv' := [(5, .ref (gad z q2)), (0, .ref (gad z a)), (1, .int v1), (2, .int v2), (3, .int v3), (4, .int v4)]) hx hb dX6_come_8 hl (by decide) rfl (fun ls hl => ?_)
    refine lv_aload hx hb dX6_come_10 (lv_at hl 0 rfl) ?_
    refine lv_ifnull hx hb dX6_come_12 ?_
    refine lv_aload hx hb dX6_come_15 (lv_at hl 0 rfl) ?_
    refine lv_iload_n hx hb dX6_come_17 rfl (lv_at hl 3 rfl) ?_
    obtain ⟨r4, hcr4, h⟩ := bd_y h
    refine g_cVI (a := q2) (ci := 4) (T := TX4) (N := 10) (av := [.int v2]) (rest := []) X hG hS (ct_X4_hasSet l z k_q2 n_q2 hcr4) mt_X4_hasSet ml_X6_205 rfl ⟨rfl, rfl, Nat.le_of_ble_eq_true rfl, Nat.le_of_ble_eq_true rfl⟩ ⟨Nat.le_refl 0, Nat.le_refl 0⟩ (nx_0 n_q2) k_q2 (by decide) rfl hl.1 (Nat.le_of_ble_eq_true rfl) rfl dX6_come_18 (fun H locs hG hS => ?_)
    refine lv_if_eq (tgt := 45) hx hb dX6_come_21 (by decide) (fun q5 => ?_) (fun q5 => ?_)
    · have h := ite_y h q5
      refine lv_aload_n hx hb dX6_come_45 rfl (lv_at hl 1 rfl) ?_
      refine lv_bipush (v := (-2)) hx hb dX6_come_46 (by decide) ?_
      obtain ⟨r6, hcr6, h⟩ := bd_y h
      refine g_cVI (a := a) (ci := 6) (T := TX6) (N := 8) (av := [.int (-2)]) (rest := []) X hG hS (ct_X6_refuse l z k_a n_a hcr6) mt_X6_refuse ml_X6_59 rfl ⟨rfl, rfl, Nat.le_of_ble_eq_true rfl, Nat.le_of_ble_eq_true rfl⟩ ⟨Nat.le_refl 0, Nat.le_refl 0⟩ (nx_0 n_a) k_a (by decide) rfl hl.1 (Nat.le_of_ble_eq_true rfl) rfl dX6_come_48 (fun H locs hG hS => ?_)
      obtain rfl := Option.some.inj h
      exact g_iret X hr hlk hG hS dX6_come_51
    · have h := ite_n h q5
      refine lv_iload_n hx hb dX6_come_24 rfl (lv_at hl 4 rfl) ?_
      refine lv_iconst (v := 0) hx hb dX6_come_25 (by decide) ?_
      refine lv_bipush (v := 99) hx hb dX6_come_26 (by decide) ?_
      obtain ⟨r7, hcr7, h⟩ := bd_y h
      refine g_cSI (av := [.int v3, .int 0, .int 99]) (rest := []) X hG hS (ct_X6_isWithin l z  hcr7) mt_X6_isWithin ml_X6_55 rfl ⟨rfl, rfl, Nat.le_of_ble_eq_true rfl, Nat.le_of_ble_eq_true rfl⟩ ⟨Nat.le_refl 0, Nat.le_refl 0⟩ hl.1 (Nat.le_of_ble_eq_true rfl) rfl dX6_come_28 (fun H locs hG hS => ?_)
      refine lv_if_eq (tgt := 45) hx hb dX6_come_31 (by decide) (fun q8 => ?_) (fun q8 => ?_)
      · have h := ite_y h q8
        refine lv_aload_n hx hb dX6_come_45 rfl (lv_at hl 1 rfl) ?_
        refine lv_bipush (v := (-2)) hx hb dX6_come_46 (by decide) ?_
        obtain ⟨r9, hcr9, h⟩ := bd_y h
        refine g_cVI (a := a) (ci := 6) (T := TX6) (N := 8) (av := [.int (-2)]) (rest := []) X hG hS (ct_X6_refuse l z k_a n_a hcr9) mt_X6_refuse ml_X6_59 rfl ⟨rfl, rfl, Nat.le_of_ble_eq_true rfl, Nat.le_of_ble_eq_true rfl⟩ ⟨Nat.le_refl 0, Nat.le_refl 0⟩ (nx_0 n_a) k_a (by decide) rfl hl.1 (Nat.le_of_ble_eq_true rfl) rfl dX6_come_48 (fun H locs hG hS => ?_)
        obtain rfl := Option.some.inj h
        exact g_iret X hr hlk hG hS dX6_come_51
      · have h := ite_n h q8
        refine lv_iload hx hb dX6_come_34 (lv_at hl 5 rfl) ?_
        refine lv_iconst (v := 0) hx hb dX6_come_36 (by decide) ?_
        refine lv_bipush (v := 99) hx hb dX6_come_37 (by decide) ?_
        obtain ⟨r10, hcr10, h⟩ := bd_y h
        refine g_cSI (av := [.int v4, .int 0, .int 99]) (rest := []) X hG hS (ct_X6_isWithin l z  hcr10) mt_X6_isWithin ml_X6_55 rfl ⟨rfl, rfl, Nat.le_of_ble_eq_true rfl, Nat.le_of_ble_eq_true rfl⟩ ⟨Nat.le_refl 0, Nat.le_refl 0⟩ hl.1 (Nat.le_of_ble_eq_true rfl) rfl dX6_come_39 (fun H locs hG hS => ?_)
        refine lv_if_ne (tgt := 52) hx hb dX6_come_42 (by decide) (fun q11 => ?_) (fun q11 => ?_)
        · have h := ite_n h q11
          refine lv_aload hx hb dX6_come_52 (lv_at hl 0 rfl) ?_
          refine gf_X4_7 X hG (nx_0 n_q2) k_q2 fl_X6_143 dX6_come_54 ?_
          refine lv_bipush (v := 12) hx hb dX6_come_57 (by decide) ?_
          refine lv_icmp_lt (tgt := 69) hx hb dX6_come_59 (by decide) (fun q12 => ?_) (fun q12 => ?_)
          · have h := ite_y h q12
            refine lv_aload hx hb dX6_come_69 (lv_at hl 0 rfl) ?_
            refine lv_iload_n hx hb dX6_come_71 rfl (lv_at hl 3 rfl) ?_
            refine lv_iload_n hx hb dX6_come_72 rfl (lv_at hl 4 rfl) ?_
            refine lv_iload hx hb dX6_come_73 (lv_at hl 5 rfl) ?_
            obtain ⟨r13, hcr13, h⟩ := bd_y h
            refine g_cVI (a := q2) (ci := 4) (T := TX4) (N := 10) (av := [.int v2, .int v3, .int v4]) (rest := []) X hG hS (ct_X4_admit l z k_q2 n_q2 hcr13) mt_X4_admit ml_X6_208 rfl ⟨rfl, rfl, Nat.le_of_ble_eq_true rfl, Nat.le_of_ble_eq_true rfl⟩ ⟨Nat.le_refl 0, Nat.le_refl 0⟩ (nx_0 n_q2) k_q2 (by decide) rfl hl.1 (Nat.le_of_ble_eq_true rfl) rfl dX6_come_75 (fun H locs hG hS => ?_)
            obtain rfl := Option.some.inj h
            exact g_iret X hr hlk hG hS dX6_come_78
          · have h := ite_n h q12
            refine lv_aload_n hx hb dX6_come_62 rfl (lv_at hl 1 rfl) ?_
            refine lv_bipush (v := (-6)) hx hb dX6_come_63 (by decide) ?_
            obtain ⟨r14, hcr14, h⟩ := bd_y h
            refine g_cVI (a := a) (ci := 6) (T := TX6) (N := 8) (av := [.int (-6)]) (rest := []) X hG hS (ct_X6_refuse l z k_a n_a hcr14) mt_X6_refuse ml_X6_59 rfl ⟨rfl, rfl, Nat.le_of_ble_eq_true rfl, Nat.le_of_ble_eq_true rfl⟩ ⟨Nat.le_refl 0, Nat.le_refl 0⟩ (nx_0 n_a) k_a (by decide) rfl hl.1 (Nat.le_of_ble_eq_true rfl) rfl dX6_come_65 (fun H locs hG hS => ?_)
            obtain rfl := Option.some.inj h
            exact g_iret X hr hlk hG hS dX6_come_68
        · have h := ite_y h q11
          refine lv_aload_n hx hb dX6_come_45 rfl (lv_at hl 1 rfl) ?_
          refine lv_bipush (v := (-2)) hx hb dX6_come_46 (by decide) ?_
          obtain ⟨r15, hcr15, h⟩ := bd_y h
          refine g_cVI (a := a) (ci := 6) (T := TX6) (N := 8) (av := [.int (-2)]) (rest := []) X hG hS (ct_X6_refuse l z k_a n_a hcr15) mt_X6_refuse ml_X6_59 rfl ⟨rfl, rfl, Nat.le_of_ble_eq_true rfl, Nat.le_of_ble_eq_true rfl⟩ ⟨Nat.le_refl 0, Nat.le_refl 0⟩ (nx_0 n_a) k_a (by decide) rfl hl.1 (Nat.le_of_ble_eq_true rfl) rfl dX6_come_48 (fun H locs hG hS => ?_)
          obtain rfl := Option.some.inj h
          exact g_iret X hr hlk hG hS dX6_come_51
set_option maxRecDepth 100000 in
set_option maxHeartbeats 4000000 in
theorem ct_X6_streetWithSet (l : Launch) (z : gZ) {N : Nat} {M : Mem} {a : Nat} {v1 : Int32} {v2 : Int32} {o : Option Nat} (k_a : kd a = 6) (n_a : a + 119 ≤ gn z) (h : fX6_streetWithSet N M a v1 v2 = some o) : CtR l z yX6_streetWithSet cX6_streetWithSet 4 (some (.object RX4)) { frames := 2, cells := 0, slots := 0, locals := 41 } [.ref (gad z a), .int v1, .int v2] M o M := by
  refine Ct_of rfl (Nat.le_of_ble_eq_true rfl) ?_
  intro p e s m below meth c ls X hr hlk hG hS hl
  have X : gX p m c _ _ s _ RX6 z := X
  have hl : lv_has ls 4 [(0, .ref (gad z a)), (1, .int v1), (2, .int v2)] := hl
  have hx := X.1
  have hb := X.2.1
  unfold fX6_streetWithSet at h
  refine lv_aload_n hx hb dX6_streetWithSet_0 rfl (lv_at hl 0 rfl) ?_
  refine gf_X6_2 X hG (nx_0 n_a) k_a fl_X6_25 dX6_streetWithSet_1 ?_
  refine lv_iload_n hx hb dX6_streetWithSet_4 rfl (lv_at hl 1 rfl) ?_
  obtain ⟨r1, hcr1, h⟩ := bd_y h
  refine g_cVR (a := (a + 4)) (ci := 5) (T := TX5) (N := 5) (av := [.int v1]) (rest := []) X hG hS (ct_X5_streetAt l z (kx_6_4 k_a) (nx_o (a := a) (k := 4) (n := 119) (c := 44) n_a (Nat.le_of_ble_eq_true rfl)) hcr1) mt_X5_streetAt ml_X6_139 rfl ⟨rfl, rfl, Nat.le_of_ble_eq_true rfl, Nat.le_of_ble_eq_true rfl⟩ ⟨Nat.le_refl 0, Nat.le_refl 0⟩ (nx_0 (nx_o (a := a) (k := 4) (n := 119) (c := 44) n_a (Nat.le_of_ble_eq_true rfl))) (kx_6_4 k_a) (by decide) rfl hl.1 (Nat.le_of_ble_eq_true rfl) rfl dX6_streetWithSet_5 (fun H locs hG hS => ?_)
  have h0 := onO_y h
  clear h
  obtain ⟨eq2, h⟩ | ⟨q2, eq2, h⟩ := h0
  · subst eq2
    refine g_rfN ?_
    refine lv_astore_nN (lv' := [(3, .null), (0, .ref (gad z a)), (1, .int v1), (2, .int v2)]) hx hb dX6_streetWithSet_8 rfl hl (by decide) rfl (fun ls hl => ?_)
    refine lv_aload_nN hx hb dX6_streetWithSet_9 rfl (lv_at hl 0 rfl) ?_
    refine lv_ifnullN (tgt := 25) hx hb dX6_streetWithSet_10 (by decide) ?_
    refine lv_null hx hb dX6_streetWithSet_25 ?_
    obtain rfl := Option.some.inj h
    exact g_aret none X hr hlk hG hS dX6_streetWithSet_26
  · subst eq2
    refine g_rfS ?_
    obtain ⟨⟨k_q2, n1_q2⟩, h⟩ := gc_y h
    have n_q2 : q2 + 8 ≤ gn z := Nat.le_trans n1_q2 n_a
    refine lv_astore_n (lv' := [(3, .ref (gad z q2)), (0, .ref (gad z a)), (1, .int v1), (2, .int v2)]) hx hb dX6_streetWithSet_8 rfl hl (by decide) rfl (fun ls hl => ?_)
    refine lv_aload_n hx hb dX6_streetWithSet_9 rfl (lv_at hl 0 rfl) ?_
    refine lv_ifnull hx hb dX6_streetWithSet_10 ?_
    refine lv_aload_n hx hb dX6_streetWithSet_13 rfl (lv_at hl 0 rfl) ?_
    refine lv_iload_n hx hb dX6_streetWithSet_14 rfl (lv_at hl 3 rfl) ?_
    obtain ⟨r3, hcr3, h⟩ := bd_y h
    refine g_cVI (a := q2) (ci := 4) (T := TX4) (N := 10) (av := [.int v2]) (rest := []) X hG hS (ct_X4_hasSet l z k_q2 n_q2 hcr3) mt_X4_hasSet ml_X6_205 rfl ⟨rfl, rfl, Nat.le_of_ble_eq_true rfl, Nat.le_of_ble_eq_true rfl⟩ ⟨Nat.le_refl 0, Nat.le_refl 0⟩ (nx_0 n_q2) k_q2 (by decide) rfl hl.1 (Nat.le_of_ble_eq_true rfl) rfl dX6_streetWithSet_15 (fun H locs hG hS => ?_)
    refine lv_if_eq (tgt := 25) hx hb dX6_streetWithSet_18 (by decide) (fun q4 => ?_) (fun q4 => ?_)
    · have h := ite_y h q4
      refine lv_null hx hb dX6_streetWithSet_25 ?_
      obtain rfl := Option.some.inj h
      exact g_aret none X hr hlk hG hS dX6_streetWithSet_26
    · have h := ite_n h q4
      refine lv_aload_n hx hb dX6_streetWithSet_21 rfl (lv_at hl 0 rfl) ?_
      refine lv_goto (tgt := 26) hx hb dX6_streetWithSet_22 (by decide) ?_
      obtain rfl := Option.some.inj h
      exact g_aret (some q2) X hr hlk hG hS dX6_streetWithSet_26
set_option maxRecDepth 100000 in
set_option maxHeartbeats 4000000 in
theorem ct_X6_total (l : Launch) (z : gZ) {N : Nat} {M : Mem} {a : Nat} {v1 : Int32} {v2 : Int32} {o : Int32 × Mem} (k_a : kd a = 6) (n_a : a + 119 ≤ gn z) (h : fX6_total N M a v1 v2 = some o) : CtI l z yX6_total cX6_total 4 (some .int) { frames := 3, cells := 0, slots := 0, locals := 69 } [.ref (gad z a), .int v1, .int v2] M o.1 o.2 := by
  refine Ct_of rfl (Nat.le_of_ble_eq_true rfl) ?_
  intro p e s m below meth c ls X hr hlk hG hS hl
  have X : gX p m c _ _ s _ RX6 z := X
  have hl : lv_has ls 4 [(0, .ref (gad z a)), (1, .int v1), (2, .int v2)] := hl
  have hx := X.1
  have hb := X.2.1
  unfold fX6_total at h
  refine lv_aload_n hx hb dX6_total_0 rfl (lv_at hl 0 rfl) ?_
  refine lv_iload_n hx hb dX6_total_1 rfl (lv_at hl 1 rfl) ?_
  refine lv_iload_n hx hb dX6_total_2 rfl (lv_at hl 2 rfl) ?_
  obtain ⟨r1, hcr1, h⟩ := bd_y h
  refine g_cVR (a := a) (ci := 6) (T := TX6) (N := 8) (av := [.int v1, .int v2]) (rest := []) X hG hS (ct_X6_streetWithSet l z k_a n_a hcr1) mt_X6_streetWithSet ml_X6_216 rfl ⟨rfl, rfl, Nat.le_of_ble_eq_true rfl, Nat.le_of_ble_eq_true rfl⟩ ⟨Nat.le_refl 0, Nat.le_refl 0⟩ (nx_0 n_a) k_a (by decide) rfl hl.1 (Nat.le_of_ble_eq_true rfl) rfl dX6_total_3 (fun H locs hG hS => ?_)
  have h0 := onO_y h
  clear h
  obtain ⟨eq2, h⟩ | ⟨q2, eq2, h⟩ := h0
  · subst eq2
    refine g_rfN ?_
    refine lv_astore_nN (lv' := [(3, .null), (0, .ref (gad z a)), (1, .int v1), (2, .int v2)]) hx hb dX6_total_6 rfl hl (by decide) rfl (fun ls hl => ?_)
    refine lv_aload_nN hx hb dX6_total_7 rfl (lv_at hl 0 rfl) ?_
    refine lv_ifnonnullN hx hb dX6_total_8 ?_
    refine lv_ldc (v := (-1000000)) hx hb X.2.2.2.1 (X.2.2.2.2.1 _ cn_X6_212) dX6_total_11 ?_
    refine lv_aload_n hx hb dX6_total_13 rfl (lv_at hl 1 rfl) ?_
    refine lv_bipush (v := (-2)) hx hb dX6_total_14 (by decide) ?_
    obtain ⟨r3, hcr3, h⟩ := bd_y h
    refine g_cVI (a := a) (ci := 6) (T := TX6) (N := 8) (av := [.int (-2)]) (rest := [.int (-1000000)]) X hG hS (ct_X6_refuse l z k_a n_a hcr3) mt_X6_refuse ml_X6_59 rfl ⟨rfl, rfl, Nat.le_of_ble_eq_true rfl, Nat.le_of_ble_eq_true rfl⟩ ⟨Nat.le_refl 0, Nat.le_refl 0⟩ (nx_0 n_a) k_a (by decide) rfl hl.1 (Nat.le_of_ble_eq_true rfl) rfl dX6_total_16 (fun H locs hG hS => ?_)
    refine lv_iadd hx hb dX6_total_19 ?_
    refine lv_goto (tgt := 28) hx hb dX6_total_20 (by decide) ?_
    obtain rfl := Option.some.inj h
    exact g_iret X hr hlk hG hS dX6_total_28
  · subst eq2
    refine g_rfS ?_
    obtain ⟨⟨k_q2, n1_q2⟩, h⟩ := gc_y h
    have n_q2 : q2 + 8 ≤ gn z := Nat.le_trans n1_q2 n_a
    refine lv_astore_n (lv' := [(3, .ref (gad z q2)), (0, .ref (gad z a)), (1, .int v1), (2, .int v2)]) hx hb dX6_total_6 rfl hl (by decide) rfl (fun ls hl => ?_)
    refine lv_aload_n hx hb dX6_total_7 rfl (lv_at hl 0 rfl) ?_
    refine lv_ifnonnull (tgt := 23) hx hb dX6_total_8 (by decide) ?_
    refine lv_aload_n hx hb dX6_total_23 rfl (lv_at hl 0 rfl) ?_
    refine lv_iload_n hx hb dX6_total_24 rfl (lv_at hl 3 rfl) ?_
    obtain ⟨r4, hcr4, h⟩ := bd_y h
    refine g_cVI (a := q2) (ci := 4) (T := TX4) (N := 10) (av := [.int v2]) (rest := []) X hG hS (ct_X4_goodOf l z k_q2 n_q2 hcr4) mt_X4_goodOf ml_X6_220 rfl ⟨rfl, rfl, Nat.le_of_ble_eq_true rfl, Nat.le_of_ble_eq_true rfl⟩ ⟨Nat.le_refl 0, Nat.le_refl 0⟩ (nx_0 n_q2) k_q2 (by decide) rfl hl.1 (Nat.le_of_ble_eq_true rfl) rfl dX6_total_25 (fun H locs hG hS => ?_)
    obtain rfl := Option.some.inj h
    exact g_iret X hr hlk hG hS dX6_total_28
set_option maxRecDepth 100000 in
set_option maxHeartbeats 4000000 in
theorem ct_X6_judge (l : Launch) (z : gZ) {N : Nat} {M : Mem} {a : Nat} {v1 : Int32} {v2 : Int32} {o : Int32 × Mem} (k_a : kd a = 6) (n_a : a + 119 ≤ gn z) (h : fX6_judge N M a v1 v2 = some o) : CtI l z yX6_judge cX6_judge 4 (some .int) { frames := 3, cells := 0, slots := 0, locals := 68 } [.ref (gad z a), .int v1, .int v2] M o.1 o.2 := by
  refine Ct_of rfl (Nat.le_of_ble_eq_true rfl) ?_
  intro p e s m below meth c ls X hr hlk hG hS hl
  have X : gX p m c _ _ s _ RX6 z := X
  have hl : lv_has ls 4 [(0, .ref (gad z a)), (1, .int v1), (2, .int v2)] := hl
  have hx := X.1
  have hb := X.2.1
  unfold fX6_judge at h
  refine lv_aload_n hx hb dX6_judge_0 rfl (lv_at hl 0 rfl) ?_
  refine lv_iload_n hx hb dX6_judge_1 rfl (lv_at hl 1 rfl) ?_
  refine lv_iload_n hx hb dX6_judge_2 rfl (lv_at hl 2 rfl) ?_
  obtain ⟨r1, hcr1, h⟩ := bd_y h
  refine g_cVR (a := a) (ci := 6) (T := TX6) (N := 8) (av := [.int v1, .int v2]) (rest := []) X hG hS (ct_X6_streetWithSet l z k_a n_a hcr1) mt_X6_streetWithSet ml_X6_216 rfl ⟨rfl, rfl, Nat.le_of_ble_eq_true rfl, Nat.le_of_ble_eq_true rfl⟩ ⟨Nat.le_refl 0, Nat.le_refl 0⟩ (nx_0 n_a) k_a (by decide) rfl hl.1 (Nat.le_of_ble_eq_true rfl) rfl dX6_judge_3 (fun H locs hG hS => ?_)
  have h0 := onO_y h
  clear h
  obtain ⟨eq2, h⟩ | ⟨q2, eq2, h⟩ := h0
  · subst eq2
    refine g_rfN ?_
    refine lv_astore_nN (lv' := [(3, .null), (0, .ref (gad z a)), (1, .int v1), (2, .int v2)]) hx hb dX6_judge_6 rfl hl (by decide) rfl (fun ls hl => ?_)
    refine lv_aload_nN hx hb dX6_judge_7 rfl (lv_at hl 0 rfl) ?_
    refine lv_ifnonnullN hx hb dX6_judge_8 ?_
    refine lv_aload_n hx hb dX6_judge_11 rfl (lv_at hl 1 rfl) ?_
    refine lv_bipush (v := (-2)) hx hb dX6_judge_12 (by decide) ?_
    obtain ⟨r3, hcr3, h⟩ := bd_y h
    refine g_cVI (a := a) (ci := 6) (T := TX6) (N := 8) (av := [.int (-2)]) (rest := []) X hG hS (ct_X6_refuse l z k_a n_a hcr3) mt_X6_refuse ml_X6_59 rfl ⟨rfl, rfl, Nat.le_of_ble_eq_true rfl, Nat.le_of_ble_eq_true rfl⟩ ⟨Nat.le_refl 0, Nat.le_refl 0⟩ (nx_0 n_a) k_a (by decide) rfl hl.1 (Nat.le_of_ble_eq_true rfl) rfl dX6_judge_14 (fun H locs hG hS => ?_)
    refine lv_goto (tgt := 25) hx hb dX6_judge_17 (by decide) ?_
    obtain rfl := Option.some.inj h
    exact g_iret X hr hlk hG hS dX6_judge_25
  · subst eq2
    refine g_rfS ?_
    obtain ⟨⟨k_q2, n1_q2⟩, h⟩ := gc_y h
    have n_q2 : q2 + 8 ≤ gn z := Nat.le_trans n1_q2 n_a
    refine lv_astore_n (lv' := [(3, .ref (gad z q2)), (0, .ref (gad z a)), (1, .int v1), (2, .int v2)]) hx hb dX6_judge_6 rfl hl (by decide) rfl (fun ls hl => ?_)
    refine lv_aload_n hx hb dX6_judge_7 rfl (lv_at hl 0 rfl) ?_
    refine lv_ifnonnull (tgt := 20) hx hb dX6_judge_8 (by decide) ?_
    refine lv_aload_n hx hb dX6_judge_20 rfl (lv_at hl 0 rfl) ?_
    refine lv_iload_n hx hb dX6_judge_21 rfl (lv_at hl 3 rfl) ?_
    obtain ⟨r4, hcr4, h⟩ := bd_y h
    refine g_cVI (a := q2) (ci := 4) (T := TX4) (N := 10) (av := [.int v2]) (rest := []) X hG hS (ct_X4_firstRestless l z k_q2 n_q2 hcr4) mt_X4_firstRestless ml_X6_223 rfl ⟨rfl, rfl, Nat.le_of_ble_eq_true rfl, Nat.le_of_ble_eq_true rfl⟩ ⟨Nat.le_refl 0, Nat.le_refl 0⟩ (nx_0 n_q2) k_q2 (by decide) rfl hl.1 (Nat.le_of_ble_eq_true rfl) rfl dX6_judge_22 (fun H locs hG hS => ?_)
    obtain rfl := Option.some.inj h
    exact g_iret X hr hlk hG hS dX6_judge_25
set_option maxRecDepth 100000 in
set_option maxHeartbeats 4000000 in
theorem ct_X6_count (l : Launch) (z : gZ) {N : Nat} {M : Mem} {a : Nat} {v1 : Int32} {o : Int32 × Mem} (k_a : kd a = 6) (n_a : a + 119 ≤ gn z) (h : fX6_count N M a v1 = some o) : CtI l z yX6_count cX6_count 3 (some .int) { frames := 5, cells := 0, slots := 0, locals := 111 } [.ref (gad z a), .int v1] M o.1 o.2 := by
  refine Ct_of rfl (Nat.le_of_ble_eq_true rfl) ?_
  intro p e s m below meth c ls X hr hlk hG hS hl
  have X : gX p m c _ _ s _ RX6 z := X
  have hl : lv_has ls 3 [(0, .ref (gad z a)), (1, .int v1)] := hl
  have hx := X.1
  have hb := X.2.1
  unfold fX6_count at h
  refine lv_aload_n hx hb dX6_count_0 rfl (lv_at hl 0 rfl) ?_
  refine gf_X6_2 X hG (nx_0 n_a) k_a fl_X6_25 dX6_count_1 ?_
  refine lv_iload_n hx hb dX6_count_4 rfl (lv_at hl 1 rfl) ?_
  obtain ⟨r1, hcr1, h⟩ := bd_y h
  refine g_cVR (a := (a + 4)) (ci := 5) (T := TX5) (N := 5) (av := [.int v1]) (rest := []) X hG hS (ct_X5_streetAt l z (kx_6_4 k_a) (nx_o (a := a) (k := 4) (n := 119) (c := 44) n_a (Nat.le_of_ble_eq_true rfl)) hcr1) mt_X5_streetAt ml_X6_139 rfl ⟨rfl, rfl, Nat.le_of_ble_eq_true rfl, Nat.le_of_ble_eq_true rfl⟩ ⟨Nat.le_refl 0, Nat.le_refl 0⟩ (nx_0 (nx_o (a := a) (k := 4) (n := 119) (c := 44) n_a (Nat.le_of_ble_eq_true rfl))) (kx_6_4 k_a) (by decide) rfl hl.1 (Nat.le_of_ble_eq_true rfl) rfl dX6_count_5 (fun H locs hG hS => ?_)
  have h0 := onO_y h
  clear h
  obtain ⟨eq2, h⟩ | ⟨q2, eq2, h⟩ := h0
  · subst eq2
    refine g_rfN ?_
    refine lv_astore_nN (lv' := [(2, .null), (0, .ref (gad z a)), (1, .int v1)]) hx hb dX6_count_8 rfl hl (by decide) rfl (fun ls hl => ?_)
    refine lv_aload_nN hx hb dX6_count_9 rfl (lv_at hl 0 rfl) ?_
    refine lv_ifnonnullN hx hb dX6_count_10 ?_
    refine lv_aload_n hx hb dX6_count_13 rfl (lv_at hl 1 rfl) ?_
    refine lv_bipush (v := (-2)) hx hb dX6_count_14 (by decide) ?_
    obtain ⟨r3, hcr3, h⟩ := bd_y h
    refine g_cVI (a := a) (ci := 6) (T := TX6) (N := 8) (av := [.int (-2)]) (rest := []) X hG hS (ct_X6_refuse l z k_a n_a hcr3) mt_X6_refuse ml_X6_59 rfl ⟨rfl, rfl, Nat.le_of_ble_eq_true rfl, Nat.le_of_ble_eq_true rfl⟩ ⟨Nat.le_refl 0, Nat.le_refl 0⟩ (nx_0 n_a) k_a (by decide) rfl hl.1 (Nat.le_of_ble_eq_true rfl) rfl dX6_count_16 (fun H locs hG hS => ?_)
    refine lv_goto (tgt := 26) hx hb dX6_count_19 (by decide) ?_
    obtain rfl := Option.some.inj h
    exact g_iret X hr hlk hG hS dX6_count_26
  · subst eq2
    refine g_rfS ?_
    obtain ⟨⟨k_q2, n1_q2⟩, h⟩ := gc_y h
    have n_q2 : q2 + 8 ≤ gn z := Nat.le_trans n1_q2 n_a
    refine lv_astore_n (lv' := [(2, .ref (gad z q2)), (0, .ref (gad z a)), (1, .int v1)]) hx hb dX6_count_8 rfl hl (by decide) rfl (fun ls hl => ?_)
    refine lv_aload_n hx hb dX6_count_9 rfl (lv_at hl 0 rfl) ?_
    refine lv_ifnonnull (tgt := 22) hx hb dX6_count_10 (by decide) ?_
    refine lv_aload_n hx hb dX6_count_22 rfl (lv_at hl 0 rfl) ?_
    obtain ⟨r4, hcr4, h⟩ := bd_y h
    refine g_cVI (a := q2) (ci := 4) (T := TX4) (N := 10) (av := []) (rest := []) X hG hS (ct_X4_rests l z k_q2 n_q2 hcr4) mt_X4_rests ml_X6_226 rfl ⟨rfl, rfl, Nat.le_of_ble_eq_true rfl, Nat.le_of_ble_eq_true rfl⟩ ⟨Nat.le_refl 0, Nat.le_refl 0⟩ (nx_0 n_q2) k_q2 (by decide) rfl hl.1 (Nat.le_of_ble_eq_true rfl) rfl dX6_count_23 (fun H locs hG hS => ?_)
    obtain rfl := Option.some.inj h
    exact g_iret X hr hlk hG hS dX6_count_26
set_option maxRecDepth 100000 in
set_option maxHeartbeats 4000000 in
theorem ct_X6_rest (l : Launch) (z : gZ) {N : Nat} {M : Mem} {a : Nat} {v1 : Int32} {v2 : Int32} {o : Int32 × Mem} (k_a : kd a = 6) (n_a : a + 119 ≤ gn z) (h : fX6_rest N M a v1 v2 = some o) : CtI l z yX6_rest cX6_rest 5 (some .int) { frames := 5, cells := 0, slots := 0, locals := 112 } [.ref (gad z a), .int v1, .int v2] M o.1 o.2 := by
  refine Ct_of rfl (Nat.le_of_ble_eq_true rfl) ?_
  intro p e s m below meth c ls X hr hlk hG hS hl
  have X : gX p m c _ _ s _ RX6 z := X
  have hl : lv_has ls 5 [(0, .ref (gad z a)), (1, .int v1), (2, .int v2)] := hl
  have hx := X.1
  have hb := X.2.1
  unfold fX6_rest at h
  refine lv_aload_n hx hb dX6_rest_0 rfl (lv_at hl 0 rfl) ?_
  refine gf_X6_2 X hG (nx_0 n_a) k_a fl_X6_25 dX6_rest_1 ?_
  refine lv_iload_n hx hb dX6_rest_4 rfl (lv_at hl 1 rfl) ?_
  obtain ⟨r1, hcr1, h⟩ := bd_y h
  refine g_cVR (a := (a + 4)) (ci := 5) (T := TX5) (N := 5) (av := [.int v1]) (rest := []) X hG hS (ct_X5_streetAt l z (kx_6_4 k_a) (nx_o (a := a) (k := 4) (n := 119) (c := 44) n_a (Nat.le_of_ble_eq_true rfl)) hcr1) mt_X5_streetAt ml_X6_139 rfl ⟨rfl, rfl, Nat.le_of_ble_eq_true rfl, Nat.le_of_ble_eq_true rfl⟩ ⟨Nat.le_refl 0, Nat.le_refl 0⟩ (nx_0 (nx_o (a := a) (k := 4) (n := 119) (c := 44) n_a (Nat.le_of_ble_eq_true rfl))) (kx_6_4 k_a) (by decide) rfl hl.1 (Nat.le_of_ble_eq_true rfl) rfl dX6_rest_5 (fun H locs hG hS => ?_)
  have h0 := onO_y h
  clear h
  obtain ⟨eq2, h⟩ | ⟨q2, eq2, h⟩ := h0
  · subst eq2
    refine g_rfN ?_
    refine lv_astore_nN (lv' := [(3, .null), (0, .ref (gad z a)), (1, .int v1), (2, .int v2)]) hx hb dX6_rest_8 rfl hl (by decide) rfl (fun ls hl => ?_)
    refine lv_aload_nN hx hb dX6_rest_9 rfl (lv_at hl 0 rfl) ?_
    refine lv_ifnullN (tgt := 17) hx hb dX6_rest_10 (by decide) ?_
    refine lv_aload_n hx hb dX6_rest_17 rfl (lv_at hl 1 rfl) ?_
    refine lv_bipush (v := (-2)) hx hb dX6_rest_18 (by decide) ?_
    obtain ⟨r3, hcr3, h⟩ := bd_y h
    refine g_cVI (a := a) (ci := 6) (T := TX6) (N := 8) (av := [.int (-2)]) (rest := []) X hG hS (ct_X6_refuse l z k_a n_a hcr3) mt_X6_refuse ml_X6_59 rfl ⟨rfl, rfl, Nat.le_of_ble_eq_true rfl, Nat.le_of_ble_eq_true rfl⟩ ⟨Nat.le_refl 0, Nat.le_refl 0⟩ (nx_0 n_a) k_a (by decide) rfl hl.1 (Nat.le_of_ble_eq_true rfl) rfl dX6_rest_20 (fun H locs hG hS => ?_)
    obtain rfl := Option.some.inj h
    exact g_iret X hr hlk hG hS dX6_rest_23
  · subst eq2
    refine g_rfS ?_
    obtain ⟨⟨k_q2, n1_q2⟩, h⟩ := gc_y h
    have n_q2 : q2 + 8 ≤ gn z := Nat.le_trans n1_q2 n_a
    refine lv_astore_n (lv' := [(3, .ref (gad z q2)), (0, .ref (gad z a)), (1, .int v1), (2, .int v2)]) hx hb dX6_rest_8 rfl hl (by decide) rfl (fun ls hl => ?_)
    refine lv_aload_n hx hb dX6_rest_9 rfl (lv_at hl 0 rfl) ?_
    refine lv_ifnull hx hb dX6_rest_10 ?_
    refine lv_iload_n hx hb dX6_rest_13 rfl (lv_at hl 3 rfl) ?_
    refine lv_if_ge (tgt := 24) hx hb dX6_rest_14 (by decide) (fun q4 => ?_) (fun q4 => ?_)
    · have h := ite_y h q4
      refine lv_aload_n hx hb dX6_rest_24 rfl (lv_at hl 0 rfl) ?_
      refine lv_iload_n hx hb dX6_rest_25 rfl (lv_at hl 3 rfl) ?_
      obtain ⟨r5, hcr5, h⟩ := bd_y h
      refine g_cVI (a := q2) (ci := 4) (T := TX4) (N := 10) (av := [.int v2]) (rest := []) X hG hS (ct_X4_restNumber l z k_q2 n_q2 hcr5) mt_X4_restNumber ml_X6_229 rfl ⟨rfl, rfl, Nat.le_of_ble_eq_true rfl, Nat.le_of_ble_eq_true rfl⟩ ⟨Nat.le_refl 0, Nat.le_refl 0⟩ (nx_0 n_q2) k_q2 (by decide) rfl hl.1 (Nat.le_of_ble_eq_true rfl) rfl dX6_rest_26 (fun H locs hG hS => ?_)
      refine lv_istore (lv' := [(4, .int r5), (3, .ref (gad z q2)), (0, .ref (gad z a)), (1, .int v1), (2, .int v2)]) hx hb dX6_rest_29 hl (by decide) rfl (fun ls hl => ?_)
      refine lv_iload hx hb dX6_rest_31 (lv_at hl 0 rfl) ?_
      refine lv_iconst (v := (-1)) hx hb dX6_rest_33 (by decide) ?_
      refine lv_icmp_ne (tgt := 46) hx hb dX6_rest_34 (by decide) (fun q6 => ?_) (fun q6 => ?_)
      · have h := ite_n h q6
        refine lv_iload hx hb dX6_rest_46 (lv_at hl 0 rfl) ?_
        obtain rfl := Option.some.inj h
        exact g_iret X hr hlk hG hS dX6_rest_48
      · have h := ite_y h q6
        refine lv_aload_n hx hb dX6_rest_37 rfl (lv_at hl 2 rfl) ?_
        refine lv_bipush (v := (-2)) hx hb dX6_rest_38 (by decide) ?_
        obtain ⟨r7, hcr7, h⟩ := bd_y h
        refine g_cVI (a := a) (ci := 6) (T := TX6) (N := 8) (av := [.int (-2)]) (rest := []) X hG hS (ct_X6_refuse l z k_a n_a hcr7) mt_X6_refuse ml_X6_59 rfl ⟨rfl, rfl, Nat.le_of_ble_eq_true rfl, Nat.le_of_ble_eq_true rfl⟩ ⟨Nat.le_refl 0, Nat.le_refl 0⟩ (nx_0 n_a) k_a (by decide) rfl hl.1 (Nat.le_of_ble_eq_true rfl) rfl dX6_rest_40 (fun H locs hG hS => ?_)
        refine lv_goto (tgt := 48) hx hb dX6_rest_43 (by decide) ?_
        obtain rfl := Option.some.inj h
        exact g_iret X hr hlk hG hS dX6_rest_48
    · have h := ite_n h q4
      refine lv_aload_n hx hb dX6_rest_17 rfl (lv_at hl 1 rfl) ?_
      refine lv_bipush (v := (-2)) hx hb dX6_rest_18 (by decide) ?_
      obtain ⟨r8, hcr8, h⟩ := bd_y h
      refine g_cVI (a := a) (ci := 6) (T := TX6) (N := 8) (av := [.int (-2)]) (rest := []) X hG hS (ct_X6_refuse l z k_a n_a hcr8) mt_X6_refuse ml_X6_59 rfl ⟨rfl, rfl, Nat.le_of_ble_eq_true rfl, Nat.le_of_ble_eq_true rfl⟩ ⟨Nat.le_refl 0, Nat.le_refl 0⟩ (nx_0 n_a) k_a (by decide) rfl hl.1 (Nat.le_of_ble_eq_true rfl) rfl dX6_rest_20 (fun H locs hG hS => ?_)
      obtain rfl := Option.some.inj h
      exact g_iret X hr hlk hG hS dX6_rest_23
set_option maxRecDepth 100000 in
set_option maxHeartbeats 4000000 in
theorem ct_X6_restBy (l : Launch) (z : gZ) {N : Nat} {M : Mem} {a : Nat} {v1 : Int32} {v2 : Int32} {o : Int32 × Mem} (k_a : kd a = 6) (n_a : a + 119 ≤ gn z) (h : fX6_restBy N M a v1 v2 = some o) : CtI l z yX6_restBy cX6_restBy 4 (some .int) { frames := 5, cells := 0, slots := 0, locals := 117 } [.ref (gad z a), .int v1, .int v2] M o.1 o.2 := by
  refine Ct_of rfl (Nat.le_of_ble_eq_true rfl) ?_
  intro p e s m below meth c ls X hr hlk hG hS hl
  have X : gX p m c _ _ s _ RX6 z := X
  have hl : lv_has ls 4 [(0, .ref (gad z a)), (1, .int v1), (2, .int v2)] := hl
  have hx := X.1
  have hb := X.2.1
  unfold fX6_restBy at h
  refine lv_aload_n hx hb dX6_restBy_0 rfl (lv_at hl 0 rfl) ?_
  refine gf_X6_2 X hG (nx_0 n_a) k_a fl_X6_25 dX6_restBy_1 ?_
  refine lv_iload_n hx hb dX6_restBy_4 rfl (lv_at hl 1 rfl) ?_
  obtain ⟨r1, hcr1, h⟩ := bd_y h
  refine g_cVR (a := (a + 4)) (ci := 5) (T := TX5) (N := 5) (av := [.int v1]) (rest := []) X hG hS (ct_X5_streetAt l z (kx_6_4 k_a) (nx_o (a := a) (k := 4) (n := 119) (c := 44) n_a (Nat.le_of_ble_eq_true rfl)) hcr1) mt_X5_streetAt ml_X6_139 rfl ⟨rfl, rfl, Nat.le_of_ble_eq_true rfl, Nat.le_of_ble_eq_true rfl⟩ ⟨Nat.le_refl 0, Nat.le_refl 0⟩ (nx_0 (nx_o (a := a) (k := 4) (n := 119) (c := 44) n_a (Nat.le_of_ble_eq_true rfl))) (kx_6_4 k_a) (by decide) rfl hl.1 (Nat.le_of_ble_eq_true rfl) rfl dX6_restBy_5 (fun H locs hG hS => ?_)
  have h0 := onO_y h
  clear h
  obtain ⟨eq2, h⟩ | ⟨q2, eq2, h⟩ := h0
  · subst eq2
    refine g_rfN ?_
    refine lv_astore_nN (lv' := [(3, .null), (0, .ref (gad z a)), (1, .int v1), (2, .int v2)]) hx hb dX6_restBy_8 rfl hl (by decide) rfl (fun ls hl => ?_)
    refine lv_aload_nN hx hb dX6_restBy_9 rfl (lv_at hl 0 rfl) ?_
    refine lv_ifnonnullN hx hb dX6_restBy_10 ?_
    refine lv_aload_n hx hb dX6_restBy_13 rfl (lv_at hl 1 rfl) ?_
    refine lv_bipush (v := (-2)) hx hb dX6_restBy_14 (by decide) ?_
    obtain ⟨r3, hcr3, h⟩ := bd_y h
    refine g_cVI (a := a) (ci := 6) (T := TX6) (N := 8) (av := [.int (-2)]) (rest := []) X hG hS (ct_X6_refuse l z k_a n_a hcr3) mt_X6_refuse ml_X6_59 rfl ⟨rfl, rfl, Nat.le_of_ble_eq_true rfl, Nat.le_of_ble_eq_true rfl⟩ ⟨Nat.le_refl 0, Nat.le_refl 0⟩ (nx_0 n_a) k_a (by decide) rfl hl.1 (Nat.le_of_ble_eq_true rfl) rfl dX6_restBy_16 (fun H locs hG hS => ?_)
    refine lv_goto (tgt := 28) hx hb dX6_restBy_19 (by decide) ?_
    obtain rfl := Option.some.inj h
    exact g_iret X hr hlk hG hS dX6_restBy_28
  · subst eq2
    refine g_rfS ?_
    obtain ⟨⟨k_q2, n1_q2⟩, h⟩ := gc_y h
    have n_q2 : q2 + 8 ≤ gn z := Nat.le_trans n1_q2 n_a
    refine lv_astore_n (lv' := [(3, .ref (gad z q2)), (0, .ref (gad z a)), (1, .int v1), (2, .int v2)]) hx hb dX6_restBy_8 rfl hl (by decide) rfl (fun ls hl => ?_)
    refine lv_aload_n hx hb dX6_restBy_9 rfl (lv_at hl 0 rfl) ?_
    refine lv_ifnonnull (tgt := 22) hx hb dX6_restBy_10 (by decide) ?_
    refine lv_aload_n hx hb dX6_restBy_22 rfl (lv_at hl 0 rfl) ?_
    refine lv_iload_n hx hb dX6_restBy_23 rfl (lv_at hl 3 rfl) ?_
    refine lv_iconst (v := 1) hx hb dX6_restBy_24 (by decide) ?_
    obtain ⟨r4, hcr4, h⟩ := bd_y h
    refine g_cVI (a := q2) (ci := 4) (T := TX4) (N := 10) (av := [.int v2, .int 1]) (rest := []) X hG hS (ct_X4_choose l z k_q2 n_q2 hcr4) mt_X4_choose ml_X6_235 rfl ⟨rfl, rfl, Nat.le_of_ble_eq_true rfl, Nat.le_of_ble_eq_true rfl⟩ ⟨Nat.le_refl 0, Nat.le_refl 0⟩ (nx_0 n_q2) k_q2 (by decide) rfl hl.1 (Nat.le_of_ble_eq_true rfl) rfl dX6_restBy_25 (fun H locs hG hS => ?_)
    obtain rfl := Option.some.inj h
    exact g_iret X hr hlk hG hS dX6_restBy_28
set_option maxRecDepth 100000 in
set_option maxHeartbeats 4000000 in
theorem ct_X6_fewest (l : Launch) (z : gZ) {N : Nat} {M : Mem} {a : Nat} {v1 : Int32} {o : Int32 × Mem} (k_a : kd a = 6) (n_a : a + 119 ≤ gn z) (h : fX6_fewest N M a v1 = some o) : CtI l z yX6_fewest cX6_fewest 2 (some .int) { frames := 6, cells := 0, slots := 0, locals := 140 } [.ref (gad z a), .int v1] M o.1 o.2 := by
  refine Ct_of rfl (Nat.le_of_ble_eq_true rfl) ?_
  intro p e s m below meth c ls X hr hlk hG hS hl
  have X : gX p m c _ _ s _ RX6 z := X
  have hl : lv_has ls 2 [(0, .ref (gad z a)), (1, .int v1)] := hl
  have hx := X.1
  have hb := X.2.1
  unfold fX6_fewest at h
  refine lv_aload_n hx hb dX6_fewest_0 rfl (lv_at hl 0 rfl) ?_
  refine lv_iload_n hx hb dX6_fewest_1 rfl (lv_at hl 1 rfl) ?_
  refine lv_iconst (v := 0) hx hb dX6_fewest_2 (by decide) ?_
  obtain ⟨r1, hcr1, h⟩ := bd_y h
  refine g_cVI (a := a) (ci := 6) (T := TX6) (N := 8) (av := [.int v1, .int 0]) (rest := []) X hG hS (ct_X6_restBy l z k_a n_a hcr1) mt_X6_restBy ml_X6_232 rfl ⟨rfl, rfl, Nat.le_of_ble_eq_true rfl, Nat.le_of_ble_eq_true rfl⟩ ⟨Nat.le_refl 0, Nat.le_refl 0⟩ (nx_0 n_a) k_a (by decide) rfl hl.1 (Nat.le_of_ble_eq_true rfl) rfl dX6_fewest_3 (fun H locs hG hS => ?_)
  obtain rfl := Option.some.inj h
  exact g_iret X hr hlk hG hS dX6_fewest_6
set_option maxRecDepth 100000 in
set_option maxHeartbeats 4000000 in
theorem ct_X6_most (l : Launch) (z : gZ) {N : Nat} {M : Mem} {a : Nat} {v1 : Int32} {o : Int32 × Mem} (k_a : kd a = 6) (n_a : a + 119 ≤ gn z) (h : fX6_most N M a v1 = some o) : CtI l z yX6_most cX6_most 2 (some .int) { frames := 6, cells := 0, slots := 0, locals := 140 } [.ref (gad z a), .int v1] M o.1 o.2 := by
  refine Ct_of rfl (Nat.le_of_ble_eq_true rfl) ?_
  intro p e s m below meth c ls X hr hlk hG hS hl
  have X : gX p m c _ _ s _ RX6 z := X
  have hl : lv_has ls 2 [(0, .ref (gad z a)), (1, .int v1)] := hl
  have hx := X.1
  have hb := X.2.1
  unfold fX6_most at h
  refine lv_aload_n hx hb dX6_most_0 rfl (lv_at hl 0 rfl) ?_
  refine lv_iload_n hx hb dX6_most_1 rfl (lv_at hl 1 rfl) ?_
  refine lv_iconst (v := 1) hx hb dX6_most_2 (by decide) ?_
  obtain ⟨r1, hcr1, h⟩ := bd_y h
  refine g_cVI (a := a) (ci := 6) (T := TX6) (N := 8) (av := [.int v1, .int 1]) (rest := []) X hG hS (ct_X6_restBy l z k_a n_a hcr1) mt_X6_restBy ml_X6_232 rfl ⟨rfl, rfl, Nat.le_of_ble_eq_true rfl, Nat.le_of_ble_eq_true rfl⟩ ⟨Nat.le_refl 0, Nat.le_refl 0⟩ (nx_0 n_a) k_a (by decide) rfl hl.1 (Nat.le_of_ble_eq_true rfl) rfl dX6_most_3 (fun H locs hG hS => ?_)
  obtain rfl := Option.some.inj h
  exact g_iret X hr hlk hG hS dX6_most_6
set_option maxRecDepth 100000 in
set_option maxHeartbeats 4000000 in
theorem ct_X6_best (l : Launch) (z : gZ) {N : Nat} {M : Mem} {a : Nat} {v1 : Int32} {o : Int32 × Mem} (k_a : kd a = 6) (n_a : a + 119 ≤ gn z) (h : fX6_best N M a v1 = some o) : CtI l z yX6_best cX6_best 2 (some .int) { frames := 6, cells := 0, slots := 0, locals := 140 } [.ref (gad z a), .int v1] M o.1 o.2 := by
  refine Ct_of rfl (Nat.le_of_ble_eq_true rfl) ?_
  intro p e s m below meth c ls X hr hlk hG hS hl
  have X : gX p m c _ _ s _ RX6 z := X
  have hl : lv_has ls 2 [(0, .ref (gad z a)), (1, .int v1)] := hl
  have hx := X.1
  have hb := X.2.1
  unfold fX6_best at h
  refine lv_aload_n hx hb dX6_best_0 rfl (lv_at hl 0 rfl) ?_
  refine lv_iload_n hx hb dX6_best_1 rfl (lv_at hl 1 rfl) ?_
  refine lv_iconst (v := 3) hx hb dX6_best_2 (by decide) ?_
  obtain ⟨r1, hcr1, h⟩ := bd_y h
  refine g_cVI (a := a) (ci := 6) (T := TX6) (N := 8) (av := [.int v1, .int 3]) (rest := []) X hG hS (ct_X6_restBy l z k_a n_a hcr1) mt_X6_restBy ml_X6_232 rfl ⟨rfl, rfl, Nat.le_of_ble_eq_true rfl, Nat.le_of_ble_eq_true rfl⟩ ⟨Nat.le_refl 0, Nat.le_refl 0⟩ (nx_0 n_a) k_a (by decide) rfl hl.1 (Nat.le_of_ble_eq_true rfl) rfl dX6_best_3 (fun H locs hG hS => ?_)
  obtain rfl := Option.some.inj h
  exact g_iret X hr hlk hG hS dX6_best_6
set_option maxRecDepth 100000 in
set_option maxHeartbeats 4000000 in
theorem ct_X6_good (l : Launch) (z : gZ) {N : Nat} {M : Mem} {a : Nat} {v1 : Int32} {o : Int32 × Mem} (k_a : kd a = 6) (n_a : a + 119 ≤ gn z) (h : fX6_good N M a v1 = some o) : CtI l z yX6_good cX6_good 3 (some .int) { frames := 5, cells := 0, slots := 0, locals := 117 } [.ref (gad z a), .int v1] M o.1 o.2 := by
  refine Ct_of rfl (Nat.le_of_ble_eq_true rfl) ?_
  intro p e s m below meth c ls X hr hlk hG hS hl
  have X : gX p m c _ _ s _ RX6 z := X
  have hl : lv_has ls 3 [(0, .ref (gad z a)), (1, .int v1)] := hl
  have hx := X.1
  have hb := X.2.1
  unfold fX6_good at h
  refine lv_aload_n hx hb dX6_good_0 rfl (lv_at hl 0 rfl) ?_
  refine gf_X6_2 X hG (nx_0 n_a) k_a fl_X6_25 dX6_good_1 ?_
  refine lv_iload_n hx hb dX6_good_4 rfl (lv_at hl 1 rfl) ?_
  obtain ⟨r1, hcr1, h⟩ := bd_y h
  refine g_cVR (a := (a + 4)) (ci := 5) (T := TX5) (N := 5) (av := [.int v1]) (rest := []) X hG hS (ct_X5_streetAt l z (kx_6_4 k_a) (nx_o (a := a) (k := 4) (n := 119) (c := 44) n_a (Nat.le_of_ble_eq_true rfl)) hcr1) mt_X5_streetAt ml_X6_139 rfl ⟨rfl, rfl, Nat.le_of_ble_eq_true rfl, Nat.le_of_ble_eq_true rfl⟩ ⟨Nat.le_refl 0, Nat.le_refl 0⟩ (nx_0 (nx_o (a := a) (k := 4) (n := 119) (c := 44) n_a (Nat.le_of_ble_eq_true rfl))) (kx_6_4 k_a) (by decide) rfl hl.1 (Nat.le_of_ble_eq_true rfl) rfl dX6_good_5 (fun H locs hG hS => ?_)
  have h0 := onO_y h
  clear h
  obtain ⟨eq2, h⟩ | ⟨q2, eq2, h⟩ := h0
  · subst eq2
    refine g_rfN ?_
    refine lv_astore_nN (lv' := [(2, .null), (0, .ref (gad z a)), (1, .int v1)]) hx hb dX6_good_8 rfl hl (by decide) rfl (fun ls hl => ?_)
    refine lv_aload_nN hx hb dX6_good_9 rfl (lv_at hl 0 rfl) ?_
    refine lv_ifnonnullN hx hb dX6_good_10 ?_
    refine lv_aload_n hx hb dX6_good_13 rfl (lv_at hl 1 rfl) ?_
    refine lv_bipush (v := (-2)) hx hb dX6_good_14 (by decide) ?_
    obtain ⟨r3, hcr3, h⟩ := bd_y h
    refine g_cVI (a := a) (ci := 6) (T := TX6) (N := 8) (av := [.int (-2)]) (rest := []) X hG hS (ct_X6_refuse l z k_a n_a hcr3) mt_X6_refuse ml_X6_59 rfl ⟨rfl, rfl, Nat.le_of_ble_eq_true rfl, Nat.le_of_ble_eq_true rfl⟩ ⟨Nat.le_refl 0, Nat.le_refl 0⟩ (nx_0 n_a) k_a (by decide) rfl hl.1 (Nat.le_of_ble_eq_true rfl) rfl dX6_good_16 (fun H locs hG hS => ?_)
    refine lv_goto (tgt := 28) hx hb dX6_good_19 (by decide) ?_
    obtain rfl := Option.some.inj h
    exact g_iret X hr hlk hG hS dX6_good_28
  · subst eq2
    refine g_rfS ?_
    obtain ⟨⟨k_q2, n1_q2⟩, h⟩ := gc_y h
    have n_q2 : q2 + 8 ≤ gn z := Nat.le_trans n1_q2 n_a
    refine lv_astore_n (lv' := [(2, .ref (gad z q2)), (0, .ref (gad z a)), (1, .int v1)]) hx hb dX6_good_8 rfl hl (by decide) rfl (fun ls hl => ?_)
    refine lv_aload_n hx hb dX6_good_9 rfl (lv_at hl 0 rfl) ?_
    refine lv_ifnonnull (tgt := 22) hx hb dX6_good_10 (by decide) ?_
    refine lv_aload_n hx hb dX6_good_22 rfl (lv_at hl 0 rfl) ?_
    refine lv_iconst (v := 3) hx hb dX6_good_23 (by decide) ?_
    refine lv_iconst (v := 0) hx hb dX6_good_24 (by decide) ?_
    obtain ⟨r4, hcr4, h⟩ := bd_y h
    refine g_cVI (a := q2) (ci := 4) (T := TX4) (N := 10) (av := [.int 3, .int 0]) (rest := []) X hG hS (ct_X4_choose l z k_q2 n_q2 hcr4) mt_X4_choose ml_X6_235 rfl ⟨rfl, rfl, Nat.le_of_ble_eq_true rfl, Nat.le_of_ble_eq_true rfl⟩ ⟨Nat.le_refl 0, Nat.le_refl 0⟩ (nx_0 n_q2) k_q2 (by decide) rfl hl.1 (Nat.le_of_ble_eq_true rfl) rfl dX6_good_25 (fun H locs hG hS => ?_)
    obtain rfl := Option.some.inj h
    exact g_iret X hr hlk hG hS dX6_good_28
set_option maxRecDepth 100000 in
set_option maxHeartbeats 4000000 in
theorem ct_X6_belowGood (l : Launch) (z : gZ) {N : Nat} {M : Mem} {a : Nat} {v1 : Int32} {v2 : Int32} {o : Int32 × Mem} (k_a : kd a = 6) (n_a : a + 119 ≤ gn z) (h : fX6_belowGood N M a v1 v2 = some o) : CtI l z yX6_belowGood cX6_belowGood 5 (some .int) { frames := 5, cells := 0, slots := 0, locals := 117 } [.ref (gad z a), .int v1, .int v2] M o.1 o.2 := by
  refine Ct_of rfl (Nat.le_of_ble_eq_true rfl) ?_
  intro p e s m below meth c ls X hr hlk hG hS hl
  have X : gX p m c _ _ s _ RX6 z := X
  have hl : lv_has ls 5 [(0, .ref (gad z a)), (1, .int v1), (2, .int v2)] := hl
  have hx := X.1
  have hb := X.2.1
  unfold fX6_belowGood at h
  refine lv_aload_n hx hb dX6_belowGood_0 rfl (lv_at hl 0 rfl) ?_
  refine gf_X6_2 X hG (nx_0 n_a) k_a fl_X6_25 dX6_belowGood_1 ?_
  refine lv_iload_n hx hb dX6_belowGood_4 rfl (lv_at hl 1 rfl) ?_
  obtain ⟨r1, hcr1, h⟩ := bd_y h
  refine g_cVR (a := (a + 4)) (ci := 5) (T := TX5) (N := 5) (av := [.int v1]) (rest := []) X hG hS (ct_X5_streetAt l z (kx_6_4 k_a) (nx_o (a := a) (k := 4) (n := 119) (c := 44) n_a (Nat.le_of_ble_eq_true rfl)) hcr1) mt_X5_streetAt ml_X6_139 rfl ⟨rfl, rfl, Nat.le_of_ble_eq_true rfl, Nat.le_of_ble_eq_true rfl⟩ ⟨Nat.le_refl 0, Nat.le_refl 0⟩ (nx_0 (nx_o (a := a) (k := 4) (n := 119) (c := 44) n_a (Nat.le_of_ble_eq_true rfl))) (kx_6_4 k_a) (by decide) rfl hl.1 (Nat.le_of_ble_eq_true rfl) rfl dX6_belowGood_5 (fun H locs hG hS => ?_)
  have h0 := onO_y h
  clear h
  obtain ⟨eq2, h⟩ | ⟨q2, eq2, h⟩ := h0
  · subst eq2
    refine g_rfN ?_
    refine lv_astore_nN (lv' := [(3, .null), (0, .ref (gad z a)), (1, .int v1), (2, .int v2)]) hx hb dX6_belowGood_8 rfl hl (by decide) rfl (fun ls hl => ?_)
    refine lv_aload_nN hx hb dX6_belowGood_9 rfl (lv_at hl 0 rfl) ?_
    refine lv_ifnonnullN hx hb dX6_belowGood_10 ?_
    refine lv_aload_n hx hb dX6_belowGood_13 rfl (lv_at hl 1 rfl) ?_
    refine lv_bipush (v := (-2)) hx hb dX6_belowGood_14 (by decide) ?_
    obtain ⟨r3, hcr3, h⟩ := bd_y h
    refine g_cVI (a := a) (ci := 6) (T := TX6) (N := 8) (av := [.int (-2)]) (rest := []) X hG hS (ct_X6_refuse l z k_a n_a hcr3) mt_X6_refuse ml_X6_59 rfl ⟨rfl, rfl, Nat.le_of_ble_eq_true rfl, Nat.le_of_ble_eq_true rfl⟩ ⟨Nat.le_refl 0, Nat.le_refl 0⟩ (nx_0 n_a) k_a (by decide) rfl hl.1 (Nat.le_of_ble_eq_true rfl) rfl dX6_belowGood_16 (fun H locs hG hS => ?_)
    obtain rfl := Option.some.inj h
    exact g_iret X hr hlk hG hS dX6_belowGood_19
  · subst eq2
    refine g_rfS ?_
    obtain ⟨⟨k_q2, n1_q2⟩, h⟩ := gc_y h
    have n_q2 : q2 + 8 ≤ gn z := Nat.le_trans n1_q2 n_a
    refine lv_astore_n (lv' := [(3, .ref (gad z q2)), (0, .ref (gad z a)), (1, .int v1), (2, .int v2)]) hx hb dX6_belowGood_8 rfl hl (by decide) rfl (fun ls hl => ?_)
    refine lv_aload_n hx hb dX6_belowGood_9 rfl (lv_at hl 0 rfl) ?_
    refine lv_ifnonnull (tgt := 20) hx hb dX6_belowGood_10 (by decide) ?_
    refine lv_aload_n hx hb dX6_belowGood_20 rfl (lv_at hl 0 rfl) ?_
    refine lv_iload_n hx hb dX6_belowGood_21 rfl (lv_at hl 3 rfl) ?_
    refine lv_iconst (v := 1) hx hb dX6_belowGood_22 (by decide) ?_
    obtain ⟨r4, hcr4, h⟩ := bd_y h
    refine g_cVI (a := q2) (ci := 4) (T := TX4) (N := 10) (av := [.int v2, .int 1]) (rest := []) X hG hS (ct_X4_choose l z k_q2 n_q2 hcr4) mt_X4_choose ml_X6_235 rfl ⟨rfl, rfl, Nat.le_of_ble_eq_true rfl, Nat.le_of_ble_eq_true rfl⟩ ⟨Nat.le_refl 0, Nat.le_refl 0⟩ (nx_0 n_q2) k_q2 (by decide) rfl hl.1 (Nat.le_of_ble_eq_true rfl) rfl dX6_belowGood_23 (fun H locs hG hS => ?_)
    refine lv_istore (lv' := [(4, .int r4), (3, .ref (gad z q2)), (0, .ref (gad z a)), (1, .int v1), (2, .int v2)]) hx hb dX6_belowGood_26 hl (by decide) rfl (fun ls hl => ?_)
    refine lv_iload hx hb dX6_belowGood_28 (lv_at hl 0 rfl) ?_
    refine lv_iconst (v := (-1)) hx hb dX6_belowGood_30 (by decide) ?_
    refine lv_icmp_ne (tgt := 36) hx hb dX6_belowGood_31 (by decide) (fun q5 => ?_) (fun q5 => ?_)
    · have h := ite_n h q5
      refine lv_aload_n hx hb dX6_belowGood_36 rfl (lv_at hl 1 rfl) ?_
      refine lv_aload_n hx hb dX6_belowGood_37 rfl (lv_at hl 1 rfl) ?_
      refine lv_iconst (v := 3) hx hb dX6_belowGood_38 (by decide) ?_
      refine lv_iconst (v := 0) hx hb dX6_belowGood_39 (by decide) ?_
      obtain ⟨r6, hcr6, h⟩ := bd_y h
      refine g_cVI (a := q2) (ci := 4) (T := TX4) (N := 10) (av := [.int 3, .int 0]) (rest := [.ref (gad z q2)]) X hG hS (ct_X4_choose l z k_q2 n_q2 hcr6) mt_X4_choose ml_X6_235 rfl ⟨rfl, rfl, Nat.le_of_ble_eq_true rfl, Nat.le_of_ble_eq_true rfl⟩ ⟨Nat.le_refl 0, Nat.le_refl 0⟩ (nx_0 n_q2) k_q2 (by decide) rfl hl.1 (Nat.le_of_ble_eq_true rfl) rfl dX6_belowGood_40 (fun H locs hG hS => ?_)
      obtain ⟨r7, hcr7, h⟩ := bd_y h
      refine g_cVI (a := q2) (ci := 4) (T := TX4) (N := 10) (av := [.int r6]) (rest := []) X hG hS (ct_X4_goodOf l z k_q2 n_q2 hcr7) mt_X4_goodOf ml_X6_220 rfl ⟨rfl, rfl, Nat.le_of_ble_eq_true rfl, Nat.le_of_ble_eq_true rfl⟩ ⟨Nat.le_refl 0, Nat.le_refl 0⟩ (nx_0 n_q2) k_q2 (by decide) rfl hl.1 (Nat.le_of_ble_eq_true rfl) rfl dX6_belowGood_43 (fun H locs hG hS => ?_)
      refine lv_aload_n hx hb dX6_belowGood_46 rfl (lv_at hl 1 rfl) ?_
      refine lv_iload hx hb dX6_belowGood_47 (lv_at hl 0 rfl) ?_
      obtain ⟨r8, hcr8, h⟩ := bd_y h
      refine g_cVI (a := q2) (ci := 4) (T := TX4) (N := 10) (av := [.int r4]) (rest := [.int r7]) X hG hS (ct_X4_goodOf l z k_q2 n_q2 hcr8) mt_X4_goodOf ml_X6_220 rfl ⟨rfl, rfl, Nat.le_of_ble_eq_true rfl, Nat.le_of_ble_eq_true rfl⟩ ⟨Nat.le_refl 0, Nat.le_refl 0⟩ (nx_0 n_q2) k_q2 (by decide) rfl hl.1 (Nat.le_of_ble_eq_true rfl) rfl dX6_belowGood_49 (fun H locs hG hS => ?_)
      refine lv_isub hx hb dX6_belowGood_52 ?_
      obtain rfl := Option.some.inj h
      exact g_iret X hr hlk hG hS dX6_belowGood_53
    · have h := ite_y h q5
      refine lv_iconst (v := (-1)) hx hb dX6_belowGood_34 (by decide) ?_
      obtain rfl := Option.some.inj h
      exact g_iret X hr hlk hG hS dX6_belowGood_35
set_option maxRecDepth 100000 in
set_option maxHeartbeats 4000000 in
theorem ct_X6_lost (l : Launch) (z : gZ) {N : Nat} {M : Mem} {a : Nat} {v1 : Int32} {o : Int32 × Mem} (k_a : kd a = 6) (n_a : a + 119 ≤ gn z) (h : fX6_lost N M a v1 = some o) : CtI l z yX6_lost cX6_lost 2 (some .int) { frames := 6, cells := 0, slots := 0, locals := 141 } [.ref (gad z a), .int v1] M o.1 o.2 := by
  refine Ct_of rfl (Nat.le_of_ble_eq_true rfl) ?_
  intro p e s m below meth c ls X hr hlk hG hS hl
  have X : gX p m c _ _ s _ RX6 z := X
  have hl : lv_has ls 2 [(0, .ref (gad z a)), (1, .int v1)] := hl
  have hx := X.1
  have hb := X.2.1
  unfold fX6_lost at h
  refine lv_aload_n hx hb dX6_lost_0 rfl (lv_at hl 0 rfl) ?_
  refine lv_iload_n hx hb dX6_lost_1 rfl (lv_at hl 1 rfl) ?_
  refine lv_iconst (v := 3) hx hb dX6_lost_2 (by decide) ?_
  obtain ⟨r1, hcr1, h⟩ := bd_y h
  refine g_cVI (a := a) (ci := 6) (T := TX6) (N := 8) (av := [.int v1, .int 3]) (rest := []) X hG hS (ct_X6_belowGood l z k_a n_a hcr1) mt_X6_belowGood ml_X6_239 rfl ⟨rfl, rfl, Nat.le_of_ble_eq_true rfl, Nat.le_of_ble_eq_true rfl⟩ ⟨Nat.le_refl 0, Nat.le_refl 0⟩ (nx_0 n_a) k_a (by decide) rfl hl.1 (Nat.le_of_ble_eq_true rfl) rfl dX6_lost_3 (fun H locs hG hS => ?_)
  obtain rfl := Option.some.inj h
  exact g_iret X hr hlk hG hS dX6_lost_6
set_option maxRecDepth 100000 in
set_option maxHeartbeats 4000000 in
theorem ct_X6_beside (l : Launch) (z : gZ) {N : Nat} {M : Mem} {a : Nat} {v1 : Int32} {o : Int32 × Mem} (k_a : kd a = 6) (n_a : a + 119 ≤ gn z) (h : fX6_beside N M a v1 = some o) : CtI l z yX6_beside cX6_beside 2 (some .int) { frames := 6, cells := 0, slots := 0, locals := 141 } [.ref (gad z a), .int v1] M o.1 o.2 := by
  refine Ct_of rfl (Nat.le_of_ble_eq_true rfl) ?_
  intro p e s m below meth c ls X hr hlk hG hS hl
  have X : gX p m c _ _ s _ RX6 z := X
  have hl : lv_has ls 2 [(0, .ref (gad z a)), (1, .int v1)] := hl
  have hx := X.1
  have hb := X.2.1
  unfold fX6_beside at h
  refine lv_aload_n hx hb dX6_beside_0 rfl (lv_at hl 0 rfl) ?_
  refine lv_iload_n hx hb dX6_beside_1 rfl (lv_at hl 1 rfl) ?_
  refine lv_iconst (v := 4) hx hb dX6_beside_2 (by decide) ?_
  obtain ⟨r1, hcr1, h⟩ := bd_y h
  refine g_cVI (a := a) (ci := 6) (T := TX6) (N := 8) (av := [.int v1, .int 4]) (rest := []) X hG hS (ct_X6_belowGood l z k_a n_a hcr1) mt_X6_belowGood ml_X6_239 rfl ⟨rfl, rfl, Nat.le_of_ble_eq_true rfl, Nat.le_of_ble_eq_true rfl⟩ ⟨Nat.le_refl 0, Nat.le_refl 0⟩ (nx_0 n_a) k_a (by decide) rfl hl.1 (Nat.le_of_ble_eq_true rfl) rfl dX6_beside_3 (fun H locs hG hS => ?_)
  obtain rfl := Option.some.inj h
  exact g_iret X hr hlk hG hS dX6_beside_6
set_option maxRecDepth 100000 in
set_option maxHeartbeats 4000000 in
theorem ct_X6_go (l : Launch) (z : gZ) {N : Nat} {M : Mem} {a : Nat} {v1 : Int32} {v2 : Int32} {o : Int32 × Mem} (k_a : kd a = 6) (n_a : a + 119 ≤ gn z) (h : fX6_go N M a v1 v2 = some o) : CtI l z yX6_go cX6_go 4 (some .int) { frames := 6, cells := 0, slots := 0, locals := 138 } [.ref (gad z a), .int v1, .int v2] M o.1 o.2 := by
  refine Ct_of rfl (Nat.le_of_ble_eq_true rfl) ?_
  intro p e s m below meth c ls X hr hlk hG hS hl
  have X : gX p m c _ _ s _ RX6 z := X
  have hl : lv_has ls 4 [(0, .ref (gad z a)), (1, .int v1), (2, .int v2)] := hl
  have hx := X.1
  have hb := X.2.1
  unfold fX6_go at h
  refine lv_aload_n hx hb dX6_go_0 rfl (lv_at hl 0 rfl) ?_
  refine lv_iload_n hx hb dX6_go_1 rfl (lv_at hl 1 rfl) ?_
  refine lv_iload_n hx hb dX6_go_2 rfl (lv_at hl 2 rfl) ?_
  obtain ⟨r1, hcr1, h⟩ := bd_y h
  refine g_cVR (a := a) (ci := 6) (T := TX6) (N := 8) (av := [.int v1, .int v2]) (rest := []) X hG hS (ct_X6_streetWithSet l z k_a n_a hcr1) mt_X6_streetWithSet ml_X6_216 rfl ⟨rfl, rfl, Nat.le_of_ble_eq_true rfl, Nat.le_of_ble_eq_true rfl⟩ ⟨Nat.le_refl 0, Nat.le_refl 0⟩ (nx_0 n_a) k_a (by decide) rfl hl.1 (Nat.le_of_ble_eq_true rfl) rfl dX6_go_3 (fun H locs hG hS => ?_)
  have h0 := onO_y h
  clear h
  obtain ⟨eq2, h⟩ | ⟨q2, eq2, h⟩ := h0
  · subst eq2
    refine g_rfN ?_
    refine lv_astore_nN (lv' := [(3, .null), (0, .ref (gad z a)), (1, .int v1), (2, .int v2)]) hx hb dX6_go_6 rfl hl (by decide) rfl (fun ls hl => ?_)
    refine lv_aload_nN hx hb dX6_go_7 rfl (lv_at hl 0 rfl) ?_
    refine lv_ifnonnullN hx hb dX6_go_8 ?_
    refine lv_aload_n hx hb dX6_go_11 rfl (lv_at hl 1 rfl) ?_
    refine lv_bipush (v := (-2)) hx hb dX6_go_12 (by decide) ?_
    obtain ⟨r3, hcr3, h⟩ := bd_y h
    refine g_cVI (a := a) (ci := 6) (T := TX6) (N := 8) (av := [.int (-2)]) (rest := []) X hG hS (ct_X6_refuse l z k_a n_a hcr3) mt_X6_refuse ml_X6_59 rfl ⟨rfl, rfl, Nat.le_of_ble_eq_true rfl, Nat.le_of_ble_eq_true rfl⟩ ⟨Nat.le_refl 0, Nat.le_refl 0⟩ (nx_0 n_a) k_a (by decide) rfl hl.1 (Nat.le_of_ble_eq_true rfl) rfl dX6_go_14 (fun H locs hG hS => ?_)
    obtain rfl := Option.some.inj h
    exact g_iret X hr hlk hG hS dX6_go_17
  · subst eq2
    refine g_rfS ?_
    obtain ⟨⟨k_q2, n1_q2⟩, h⟩ := gc_y h
    have n_q2 : q2 + 8 ≤ gn z := Nat.le_trans n1_q2 n_a
    refine lv_astore_n (lv' := [(3, .ref (gad z q2)), (0, .ref (gad z a)), (1, .int v1), (2, .int v2)]) hx hb dX6_go_6 rfl hl (by decide) rfl (fun ls hl => ?_)
    refine lv_aload_n hx hb dX6_go_7 rfl (lv_at hl 0 rfl) ?_
    refine lv_ifnonnull (tgt := 18) hx hb dX6_go_8 (by decide) ?_
    refine lv_aload_n hx hb dX6_go_18 rfl (lv_at hl 1 rfl) ?_
    refine gf_X6_5 X hG (nx_0 n_a) k_a fl_X6_42 dX6_go_19 ?_
    refine lv_aload_n hx hb dX6_go_22 rfl (lv_at hl 0 rfl) ?_
    refine lv_iload_n hx hb dX6_go_23 rfl (lv_at hl 3 rfl) ?_
    refine lv_aload_n hx hb dX6_go_24 rfl (lv_at hl 0 rfl) ?_
    refine gf_X4_9 X hG (nx_0 n_q2) k_q2 fl_X6_152 dX6_go_25 ?_
    refine lv_ior hx hb dX6_go_28 ?_
    obtain ⟨r4, hcr4, h⟩ := bd_y h
    refine g_cVV (a := (a + 100)) (ci := 0) (T := TX0) (N := 4) (av := [.ref (gad z q2), .int (v2 ||| (M.1 q2 9))]) (rest := []) X hG hS (ct_X0_run l z (kx_6_100 k_a) (nx_o (a := a) (k := 100) (n := 119) (c := 2) n_a (Nat.le_of_ble_eq_true rfl)) k_q2 n_q2 hcr4) mt_X0_run ml_X6_242 rfl ⟨rfl, rfl, Nat.le_of_ble_eq_true rfl, Nat.le_of_ble_eq_true rfl⟩ ⟨Nat.le_refl 0, Nat.le_refl 0⟩ (nx_0 (nx_o (a := a) (k := 100) (n := 119) (c := 2) n_a (Nat.le_of_ble_eq_true rfl))) (kx_6_100 k_a) (by decide) rfl hl.1 (Nat.le_of_ble_eq_true rfl) rfl dX6_go_29 (fun H locs hG hS => ?_)
    refine lv_aload_n hx hb dX6_go_32 rfl (lv_at hl 1 rfl) ?_
    refine gf_X6_5 X hG (nx_0 n_a) k_a fl_X6_42 dX6_go_33 ?_
    refine gf_X0_3 X hG (nx_0 (nx_o (a := a) (k := 100) (n := 119) (c := 2) n_a (Nat.le_of_ble_eq_true rfl))) (kx_6_100 k_a) fl_X6_246 dX6_go_36 ?_
    refine lv_if_le (tgt := 51) hx hb dX6_go_39 (by decide) (fun q5 => ?_) (fun q5 => ?_)
    · have h := ite_y h q5
      refine lv_aload_n hx hb dX6_go_51 rfl (lv_at hl 1 rfl) ?_
      refine gf_X6_5 X hG (nx_0 n_a) k_a fl_X6_42 dX6_go_52 ?_
      refine gf_X0_1 X hG (nx_0 (nx_o (a := a) (k := 100) (n := 119) (c := 2) n_a (Nat.le_of_ble_eq_true rfl))) (kx_6_100 k_a) fl_X6_249 dX6_go_55 ?_
      obtain rfl := Option.some.inj h
      exact g_iret X hr hlk hG hS dX6_go_58
    · have h := ite_n h q5
      refine lv_aload_n hx hb dX6_go_42 rfl (lv_at hl 1 rfl) ?_
      refine lv_bipush (v := (-5)) hx hb dX6_go_43 (by decide) ?_
      obtain ⟨r6, hcr6, h⟩ := bd_y h
      refine g_cVI (a := a) (ci := 6) (T := TX6) (N := 8) (av := [.int (-5)]) (rest := []) X hG hS (ct_X6_refuse l z k_a n_a hcr6) mt_X6_refuse ml_X6_59 rfl ⟨rfl, rfl, Nat.le_of_ble_eq_true rfl, Nat.le_of_ble_eq_true rfl⟩ ⟨Nat.le_refl 0, Nat.le_refl 0⟩ (nx_0 n_a) k_a (by decide) rfl hl.1 (Nat.le_of_ble_eq_true rfl) rfl dX6_go_45 (fun H locs hG hS => ?_)
      refine lv_goto (tgt := 58) hx hb dX6_go_48 (by decide) ?_
      obtain rfl := Option.some.inj h
      exact g_iret X hr hlk hG hS dX6_go_58
set_option maxRecDepth 100000 in
set_option maxHeartbeats 4000000 in
theorem ct_X6_turns (l : Launch) (z : gZ) {N : Nat} {M : Mem} {a : Nat} {v1 : Int32} {v2 : Int32} {o : Int32 × Mem} (k_a : kd a = 6) (n_a : a + 119 ≤ gn z) (h : fX6_turns N M a v1 v2 = some o) : CtI l z yX6_turns cX6_turns 4 (some .int) { frames := 6, cells := 0, slots := 0, locals := 138 } [.ref (gad z a), .int v1, .int v2] M o.1 o.2 := by
  refine Ct_of rfl (Nat.le_of_ble_eq_true rfl) ?_
  intro p e s m below meth c ls X hr hlk hG hS hl
  have X : gX p m c _ _ s _ RX6 z := X
  have hl : lv_has ls 4 [(0, .ref (gad z a)), (1, .int v1), (2, .int v2)] := hl
  have hx := X.1
  have hb := X.2.1
  unfold fX6_turns at h
  refine lv_aload_n hx hb dX6_turns_0 rfl (lv_at hl 0 rfl) ?_
  refine lv_iload_n hx hb dX6_turns_1 rfl (lv_at hl 1 rfl) ?_
  refine lv_iload_n hx hb dX6_turns_2 rfl (lv_at hl 2 rfl) ?_
  obtain ⟨r1, hcr1, h⟩ := bd_y h
  refine g_cVR (a := a) (ci := 6) (T := TX6) (N := 8) (av := [.int v1, .int v2]) (rest := []) X hG hS (ct_X6_streetWithSet l z k_a n_a hcr1) mt_X6_streetWithSet ml_X6_216 rfl ⟨rfl, rfl, Nat.le_of_ble_eq_true rfl, Nat.le_of_ble_eq_true rfl⟩ ⟨Nat.le_refl 0, Nat.le_refl 0⟩ (nx_0 n_a) k_a (by decide) rfl hl.1 (Nat.le_of_ble_eq_true rfl) rfl dX6_turns_3 (fun H locs hG hS => ?_)
  have h0 := onO_y h
  clear h
  obtain ⟨eq2, h⟩ | ⟨q2, eq2, h⟩ := h0
  · subst eq2
    refine g_rfN ?_
    refine lv_astore_nN (lv' := [(3, .null), (0, .ref (gad z a)), (1, .int v1), (2, .int v2)]) hx hb dX6_turns_6 rfl hl (by decide) rfl (fun ls hl => ?_)
    refine lv_aload_nN hx hb dX6_turns_7 rfl (lv_at hl 0 rfl) ?_
    refine lv_ifnonnullN hx hb dX6_turns_8 ?_
    refine lv_aload_n hx hb dX6_turns_11 rfl (lv_at hl 1 rfl) ?_
    refine lv_bipush (v := (-2)) hx hb dX6_turns_12 (by decide) ?_
    obtain ⟨r3, hcr3, h⟩ := bd_y h
    refine g_cVI (a := a) (ci := 6) (T := TX6) (N := 8) (av := [.int (-2)]) (rest := []) X hG hS (ct_X6_refuse l z k_a n_a hcr3) mt_X6_refuse ml_X6_59 rfl ⟨rfl, rfl, Nat.le_of_ble_eq_true rfl, Nat.le_of_ble_eq_true rfl⟩ ⟨Nat.le_refl 0, Nat.le_refl 0⟩ (nx_0 n_a) k_a (by decide) rfl hl.1 (Nat.le_of_ble_eq_true rfl) rfl dX6_turns_14 (fun H locs hG hS => ?_)
    obtain rfl := Option.some.inj h
    exact g_iret X hr hlk hG hS dX6_turns_17
  · subst eq2
    refine g_rfS ?_
    obtain ⟨⟨k_q2, n1_q2⟩, h⟩ := gc_y h
    have n_q2 : q2 + 8 ≤ gn z := Nat.le_trans n1_q2 n_a
    refine lv_astore_n (lv' := [(3, .ref (gad z q2)), (0, .ref (gad z a)), (1, .int v1), (2, .int v2)]) hx hb dX6_turns_6 rfl hl (by decide) rfl (fun ls hl => ?_)
    refine lv_aload_n hx hb dX6_turns_7 rfl (lv_at hl 0 rfl) ?_
    refine lv_ifnonnull (tgt := 18) hx hb dX6_turns_8 (by decide) ?_
    refine lv_aload_n hx hb dX6_turns_18 rfl (lv_at hl 1 rfl) ?_
    refine gf_X6_5 X hG (nx_0 n_a) k_a fl_X6_42 dX6_turns_19 ?_
    refine lv_aload_n hx hb dX6_turns_22 rfl (lv_at hl 0 rfl) ?_
    refine lv_iload_n hx hb dX6_turns_23 rfl (lv_at hl 3 rfl) ?_
    refine lv_aload_n hx hb dX6_turns_24 rfl (lv_at hl 0 rfl) ?_
    refine gf_X4_9 X hG (nx_0 n_q2) k_q2 fl_X6_152 dX6_turns_25 ?_
    refine lv_ior hx hb dX6_turns_28 ?_
    obtain ⟨r4, hcr4, h⟩ := bd_y h
    refine g_cVV (a := (a + 100)) (ci := 0) (T := TX0) (N := 4) (av := [.ref (gad z q2), .int (v2 ||| (M.1 q2 9))]) (rest := []) X hG hS (ct_X0_run l z (kx_6_100 k_a) (nx_o (a := a) (k := 100) (n := 119) (c := 2) n_a (Nat.le_of_ble_eq_true rfl)) k_q2 n_q2 hcr4) mt_X0_run ml_X6_242 rfl ⟨rfl, rfl, Nat.le_of_ble_eq_true rfl, Nat.le_of_ble_eq_true rfl⟩ ⟨Nat.le_refl 0, Nat.le_refl 0⟩ (nx_0 (nx_o (a := a) (k := 100) (n := 119) (c := 2) n_a (Nat.le_of_ble_eq_true rfl))) (kx_6_100 k_a) (by decide) rfl hl.1 (Nat.le_of_ble_eq_true rfl) rfl dX6_turns_29 (fun H locs hG hS => ?_)
    refine lv_aload_n hx hb dX6_turns_32 rfl (lv_at hl 1 rfl) ?_
    refine gf_X6_5 X hG (nx_0 n_a) k_a fl_X6_42 dX6_turns_33 ?_
    refine gf_X0_2 X hG (nx_0 (nx_o (a := a) (k := 100) (n := 119) (c := 2) n_a (Nat.le_of_ble_eq_true rfl))) (kx_6_100 k_a) fl_X6_252 dX6_turns_36 ?_
    obtain rfl := Option.some.inj h
    exact g_iret X hr hlk hG hS dX6_turns_39
set_option maxRecDepth 100000 in
set_option maxHeartbeats 4000000 in
theorem ct_X6_ring (l : Launch) (z : gZ) {N : Nat} {M : Mem} {a : Nat} {v1 : Int32} {v2 : Int32} {o : Int32 × Mem} (k_a : kd a = 6) (n_a : a + 119 ≤ gn z) (h : fX6_ring N M a v1 v2 = some o) : CtI l z yX6_ring cX6_ring 4 (some .int) { frames := 6, cells := 0, slots := 0, locals := 138 } [.ref (gad z a), .int v1, .int v2] M o.1 o.2 := by
  refine Ct_of rfl (Nat.le_of_ble_eq_true rfl) ?_
  intro p e s m below meth c ls X hr hlk hG hS hl
  have X : gX p m c _ _ s _ RX6 z := X
  have hl : lv_has ls 4 [(0, .ref (gad z a)), (1, .int v1), (2, .int v2)] := hl
  have hx := X.1
  have hb := X.2.1
  unfold fX6_ring at h
  refine lv_aload_n hx hb dX6_ring_0 rfl (lv_at hl 0 rfl) ?_
  refine lv_iload_n hx hb dX6_ring_1 rfl (lv_at hl 1 rfl) ?_
  refine lv_iload_n hx hb dX6_ring_2 rfl (lv_at hl 2 rfl) ?_
  obtain ⟨r1, hcr1, h⟩ := bd_y h
  refine g_cVR (a := a) (ci := 6) (T := TX6) (N := 8) (av := [.int v1, .int v2]) (rest := []) X hG hS (ct_X6_streetWithSet l z k_a n_a hcr1) mt_X6_streetWithSet ml_X6_216 rfl ⟨rfl, rfl, Nat.le_of_ble_eq_true rfl, Nat.le_of_ble_eq_true rfl⟩ ⟨Nat.le_refl 0, Nat.le_refl 0⟩ (nx_0 n_a) k_a (by decide) rfl hl.1 (Nat.le_of_ble_eq_true rfl) rfl dX6_ring_3 (fun H locs hG hS => ?_)
  have h0 := onO_y h
  clear h
  obtain ⟨eq2, h⟩ | ⟨q2, eq2, h⟩ := h0
  · subst eq2
    refine g_rfN ?_
    refine lv_astore_nN (lv' := [(3, .null), (0, .ref (gad z a)), (1, .int v1), (2, .int v2)]) hx hb dX6_ring_6 rfl hl (by decide) rfl (fun ls hl => ?_)
    refine lv_aload_nN hx hb dX6_ring_7 rfl (lv_at hl 0 rfl) ?_
    refine lv_ifnonnullN hx hb dX6_ring_8 ?_
    refine lv_aload_n hx hb dX6_ring_11 rfl (lv_at hl 1 rfl) ?_
    refine lv_bipush (v := (-2)) hx hb dX6_ring_12 (by decide) ?_
    obtain ⟨r3, hcr3, h⟩ := bd_y h
    refine g_cVI (a := a) (ci := 6) (T := TX6) (N := 8) (av := [.int (-2)]) (rest := []) X hG hS (ct_X6_refuse l z k_a n_a hcr3) mt_X6_refuse ml_X6_59 rfl ⟨rfl, rfl, Nat.le_of_ble_eq_true rfl, Nat.le_of_ble_eq_true rfl⟩ ⟨Nat.le_refl 0, Nat.le_refl 0⟩ (nx_0 n_a) k_a (by decide) rfl hl.1 (Nat.le_of_ble_eq_true rfl) rfl dX6_ring_14 (fun H locs hG hS => ?_)
    obtain rfl := Option.some.inj h
    exact g_iret X hr hlk hG hS dX6_ring_17
  · subst eq2
    refine g_rfS ?_
    obtain ⟨⟨k_q2, n1_q2⟩, h⟩ := gc_y h
    have n_q2 : q2 + 8 ≤ gn z := Nat.le_trans n1_q2 n_a
    refine lv_astore_n (lv' := [(3, .ref (gad z q2)), (0, .ref (gad z a)), (1, .int v1), (2, .int v2)]) hx hb dX6_ring_6 rfl hl (by decide) rfl (fun ls hl => ?_)
    refine lv_aload_n hx hb dX6_ring_7 rfl (lv_at hl 0 rfl) ?_
    refine lv_ifnonnull (tgt := 18) hx hb dX6_ring_8 (by decide) ?_
    refine lv_aload_n hx hb dX6_ring_18 rfl (lv_at hl 1 rfl) ?_
    refine gf_X6_5 X hG (nx_0 n_a) k_a fl_X6_42 dX6_ring_19 ?_
    refine lv_aload_n hx hb dX6_ring_22 rfl (lv_at hl 0 rfl) ?_
    refine lv_iload_n hx hb dX6_ring_23 rfl (lv_at hl 3 rfl) ?_
    refine lv_aload_n hx hb dX6_ring_24 rfl (lv_at hl 0 rfl) ?_
    refine gf_X4_9 X hG (nx_0 n_q2) k_q2 fl_X6_152 dX6_ring_25 ?_
    refine lv_ior hx hb dX6_ring_28 ?_
    obtain ⟨r4, hcr4, h⟩ := bd_y h
    refine g_cVV (a := (a + 100)) (ci := 0) (T := TX0) (N := 4) (av := [.ref (gad z q2), .int (v2 ||| (M.1 q2 9))]) (rest := []) X hG hS (ct_X0_run l z (kx_6_100 k_a) (nx_o (a := a) (k := 100) (n := 119) (c := 2) n_a (Nat.le_of_ble_eq_true rfl)) k_q2 n_q2 hcr4) mt_X0_run ml_X6_242 rfl ⟨rfl, rfl, Nat.le_of_ble_eq_true rfl, Nat.le_of_ble_eq_true rfl⟩ ⟨Nat.le_refl 0, Nat.le_refl 0⟩ (nx_0 (nx_o (a := a) (k := 100) (n := 119) (c := 2) n_a (Nat.le_of_ble_eq_true rfl))) (kx_6_100 k_a) (by decide) rfl hl.1 (Nat.le_of_ble_eq_true rfl) rfl dX6_ring_29 (fun H locs hG hS => ?_)
    refine lv_aload_n hx hb dX6_ring_32 rfl (lv_at hl 1 rfl) ?_
    refine gf_X6_5 X hG (nx_0 n_a) k_a fl_X6_42 dX6_ring_33 ?_
    refine gf_X0_3 X hG (nx_0 (nx_o (a := a) (k := 100) (n := 119) (c := 2) n_a (Nat.le_of_ble_eq_true rfl))) (kx_6_100 k_a) fl_X6_246 dX6_ring_36 ?_
    obtain rfl := Option.some.inj h
    exact g_iret X hr hlk hG hS dX6_ring_39
set_option maxRecDepth 100000 in
set_option maxHeartbeats 4000000 in
theorem ct_X6_know (l : Launch) (z : gZ) {N : Nat} {M : Mem} {a : Nat} {v1 : Int32} {v2 : Int32} {o : Int32 × Mem} (k_a : kd a = 6) (n_a : a + 119 ≤ gn z) (h : fX6_know N M a v1 v2 = some o) : CtI l z yX6_know cX6_know 4 (some .int) { frames := 1, cells := 0, slots := 0, locals := 22 } [.ref (gad z a), .int v1, .int v2] M o.1 o.2 := by
  refine Ct_of rfl (Nat.le_of_ble_eq_true rfl) ?_
  intro p e s m below meth c ls X hr hlk hG hS hl
  have X : gX p m c _ _ s _ RX6 z := X
  have hl : lv_has ls 4 [(0, .ref (gad z a)), (1, .int v1), (2, .int v2)] := hl
  have hx := X.1
  have hb := X.2.1
  unfold fX6_know at h
  refine lv_iload_n hx hb dX6_know_0 rfl (lv_at hl 1 rfl) ?_
  refine lv_iconst (v := 0) hx hb dX6_know_1 (by decide) ?_
  refine lv_iconst (v := 5) hx hb dX6_know_2 (by decide) ?_
  obtain ⟨r1, hcr1, h⟩ := bd_y h
  refine g_cSI (av := [.int v1, .int 0, .int 5]) (rest := []) X hG hS (ct_X6_isWithin l z  hcr1) mt_X6_isWithin ml_X6_55 rfl ⟨rfl, rfl, Nat.le_of_ble_eq_true rfl, Nat.le_of_ble_eq_true rfl⟩ ⟨Nat.le_refl 0, Nat.le_refl 0⟩ hl.1 (Nat.le_of_ble_eq_true rfl) rfl dX6_know_3 (fun H locs hG hS => ?_)
  refine lv_if_eq (tgt := 19) hx hb dX6_know_6 (by decide) (fun q2 => ?_) (fun q2 => ?_)
  · have h := ite_y h q2
    refine lv_aload_n hx hb dX6_know_19 rfl (lv_at hl 0 rfl) ?_
    refine lv_bipush (v := (-2)) hx hb dX6_know_20 (by decide) ?_
    obtain ⟨r3, hcr3, h⟩ := bd_y h
    refine g_cVI (a := a) (ci := 6) (T := TX6) (N := 8) (av := [.int (-2)]) (rest := []) X hG hS (ct_X6_refuse l z k_a n_a hcr3) mt_X6_refuse ml_X6_59 rfl ⟨rfl, rfl, Nat.le_of_ble_eq_true rfl, Nat.le_of_ble_eq_true rfl⟩ ⟨Nat.le_refl 0, Nat.le_refl 0⟩ (nx_0 n_a) k_a (by decide) rfl hl.1 (Nat.le_of_ble_eq_true rfl) rfl dX6_know_22 (fun H locs hG hS => ?_)
    obtain rfl := Option.some.inj h
    exact g_iret X hr hlk hG hS dX6_know_25
  · have h := ite_n h q2
    refine lv_iload_n hx hb dX6_know_9 rfl (lv_at hl 2 rfl) ?_
    refine lv_iconst (v := 0) hx hb dX6_know_10 (by decide) ?_
    refine lv_bipush (v := 20) hx hb dX6_know_11 (by decide) ?_
    obtain ⟨r4, hcr4, h⟩ := bd_y h
    refine g_cSI (av := [.int v2, .int 0, .int 20]) (rest := []) X hG hS (ct_X6_isWithin l z  hcr4) mt_X6_isWithin ml_X6_55 rfl ⟨rfl, rfl, Nat.le_of_ble_eq_true rfl, Nat.le_of_ble_eq_true rfl⟩ ⟨Nat.le_refl 0, Nat.le_refl 0⟩ hl.1 (Nat.le_of_ble_eq_true rfl) rfl dX6_know_13 (fun H locs hG hS => ?_)
    refine lv_if_ne (tgt := 26) hx hb dX6_know_16 (by decide) (fun q5 => ?_) (fun q5 => ?_)
    · have h := ite_n h q5
      refine lv_aload_n hx hb dX6_know_26 rfl (lv_at hl 0 rfl) ?_
      refine gf_X6_2 X hG (nx_0 n_a) k_a fl_X6_25 dX6_know_27 ?_
      refine gf_X5_1 X hG (nx_0 (nx_o (a := a) (k := 4) (n := 119) (c := 44) n_a (Nat.le_of_ble_eq_true rfl))) (kx_6_4 k_a) fl_X6_267 dX6_know_30 ?_
      refine lv_iload_n hx hb dX6_know_33 rfl (lv_at hl 1 rfl) ?_
      obtain ⟨i6, h⟩ := gd_y h
      refine g_iald X hG (nx_a (a := (a + 4)) (k := 2) (n := 44) (nx_o (a := a) (k := 4) (n := 119) (c := 44) n_a (Nat.le_of_ble_eq_true rfl)) (Nat.le_of_ble_eq_true rfl)) (kx_5_2 (kx_6_4 k_a)) (by decide) i6 dX6_know_34 ?_
      refine lv_topi (fun x7 ex7 => ?_)
      have h := nm_y h x7 ex7
      refine lv_istore_n (lv' := [(3, .int x7), (0, .ref (gad z a)), (1, .int v1), (2, .int v2)]) hx hb dX6_know_35 rfl hl (by decide) rfl (fun ls hl => ?_)
      refine lv_aload_n hx hb dX6_know_36 rfl (lv_at hl 1 rfl) ?_
      refine gf_X6_2 X hG (nx_0 n_a) k_a fl_X6_25 dX6_know_37 ?_
      refine gf_X5_1 X hG (nx_0 (nx_o (a := a) (k := 4) (n := 119) (c := 44) n_a (Nat.le_of_ble_eq_true rfl))) (kx_6_4 k_a) fl_X6_267 dX6_know_40 ?_
      refine lv_iload_n hx hb dX6_know_43 rfl (lv_at hl 2 rfl) ?_
      refine lv_iload_n hx hb dX6_know_44 rfl (lv_at hl 3 rfl) ?_
      refine g_iast X hG hS (nx_a (a := (a + 4)) (k := 2) (n := 44) (nx_o (a := a) (k := 4) (n := 119) (c := 44) n_a (Nat.le_of_ble_eq_true rfl)) (Nat.le_of_ble_eq_true rfl)) (kx_5_2 (kx_6_4 k_a)) (by decide) i6 dX6_know_45 (fun H locs hG hS => ?_)
      obtain ⟨M8, eM8⟩ : ∃ y, y = sI M ((a + 4) + 2) (v1 : Int32).toNatClampNeg v2 := ⟨_, rfl⟩
      rw [← eM8] at hG
      have h := nm_y h M8 eM8
      refine lv_iload_n hx hb dX6_know_46 rfl (lv_at hl 0 rfl) ?_
      obtain rfl := Option.some.inj h
      exact g_iret X hr hlk hG hS dX6_know_47
    · have h := ite_y h q5
      refine lv_aload_n hx hb dX6_know_19 rfl (lv_at hl 0 rfl) ?_
      refine lv_bipush (v := (-2)) hx hb dX6_know_20 (by decide) ?_
      obtain ⟨r9, hcr9, h⟩ := bd_y h
      refine g_cVI (a := a) (ci := 6) (T := TX6) (N := 8) (av := [.int (-2)]) (rest := []) X hG hS (ct_X6_refuse l z k_a n_a hcr9) mt_X6_refuse ml_X6_59 rfl ⟨rfl, rfl, Nat.le_of_ble_eq_true rfl, Nat.le_of_ble_eq_true rfl⟩ ⟨Nat.le_refl 0, Nat.le_refl 0⟩ (nx_0 n_a) k_a (by decide) rfl hl.1 (Nat.le_of_ble_eq_true rfl) rfl dX6_know_22 (fun H locs hG hS => ?_)
      obtain rfl := Option.some.inj h
      exact g_iret X hr hlk hG hS dX6_know_25
set_option maxRecDepth 100000 in
set_option maxHeartbeats 4000000 in
theorem wX6_pay_39 {N : Nat} {p : Program} {l : Launch} {e : Env} {s : State} {m : MethodId} {args : Array Value} {below : List Frame} {meth : Method} {c : Code} {z : gZ} {M : Mem} {a : Nat} {q2 : Nat} {u2 : Int32} {o : Int32 × Mem} (X : gX p m c cX6_pay 6 s args RX6 z) (hr : meth.sig.returnType = (some .int)) (hlk : meth.locks = false) (k_a : kd a = 6) (n_a : a + 119 ≤ gn z) (k_q2 : kd q2 = 4) (n_q2 : q2 + 8 ≤ gn z)  : ∀ (n : Nat) (w4 : Int32) (w5 : Int32) (H : Heap) (locs : List Loc) (ls : Array Slot), fX6_pay_39 N M a q2 u2  n w4 w5 = some o → gW z M H → va_S (gA z) s.heap H locs → lv_has ls 6 [(2, .int u2), (3, .ref (gad z q2)), (4, .int w4), (5, .int w5)] → W p l e { frames := 4, cells := 0, slots := 0, locals := 90 } s m args below meth c H locs 0 0 (MQ below (va_Qi (fun r' (_ : Unit) => r' = o.1) (fun _ t => gW z o.2 t.heap) (gA z)) args s 0 0 (gA z)) (F0 m 39 ls []) := by
  have hx := X.1
  have hb := X.2.1
  intro n
  induction n with
  | zero => intro w4 w5 H locs ls h; cases h
  | succ n ih =>
    intro w4 w5 H locs ls h hG hS hl
    rw [fX6_pay_39] at h
    refine lv_iload hx hb dX6_pay_39 (lv_at hl 3 rfl) ?_
    refine lv_aload_n hx hb dX6_pay_41 rfl (lv_at hl 1 rfl) ?_
    refine gf_X4_7 X hG (nx_0 n_q2) k_q2 fl_X6_143 dX6_pay_42 ?_
    refine lv_icmp_ge (tgt := 66) hx hb dX6_pay_45 (by decide) (fun q1 => ?_) (fun q1 => ?_)
    · have h := ite_y h q1
      refine lv_iload hx hb dX6_pay_66 (lv_at hl 2 rfl) ?_
      obtain rfl := Option.some.inj h
      exact g_iret X hr hlk hG hS dX6_pay_68
    · have h := ite_n h q1
      refine lv_iload hx hb dX6_pay_48 (lv_at hl 2 rfl) ?_
      refine lv_aload_n hx hb dX6_pay_50 rfl (lv_at hl 1 rfl) ?_
      refine lv_iload hx hb dX6_pay_51 (lv_at hl 3 rfl) ?_
      refine lv_iload_n hx hb dX6_pay_53 rfl (lv_at hl 0 rfl) ?_
      obtain ⟨r2, hcr2, h⟩ := bd_y h
      refine g_cVI (a := q2) (ci := 4) (T := TX4) (N := 10) (av := [.int w5, .int u2]) (rest := [.int w4]) X hG hS (ct_X4_needOf l z k_q2 n_q2 hcr2) mt_X4_needOf ml_X6_299 rfl ⟨rfl, rfl, Nat.le_of_ble_eq_true rfl, Nat.le_of_ble_eq_true rfl⟩ ⟨Nat.le_refl 0, Nat.le_refl 0⟩ (nx_0 n_q2) k_q2 (by decide) rfl hl.1 (Nat.le_of_ble_eq_true rfl) rfl dX6_pay_54 (fun H locs hG hS => ?_)
      refine lv_iadd hx hb dX6_pay_57 ?_
      refine lv_topi (fun x3 ex3 => ?_)
      have h := nm_y h x3 ex3
      refine lv_istore (lv' := [(4, .int x3), (2, .int u2), (3, .ref (gad z q2)), (5, .int w5)]) hx hb dX6_pay_58 hl (by decide) rfl (fun ls hl => ?_)
      refine lv_iinc (v := (w5 + 1)) (lv' := [(5, .int (w5 + 1)), (4, .int x3), (2, .int u2), (3, .ref (gad z q2))]) hx hb dX6_pay_60 hl (k := 3) rfl rfl (by decide) rfl (fun ls hl => ?_)
      refine lv_goto (tgt := 39) hx hb dX6_pay_63 (by decide) ?_
      exact ih x3 (w5 + 1) _ _ _ h hG hS (lv_sub hl [2, 3, 1, 0] rfl)
set_option maxRecDepth 100000 in
set_option maxHeartbeats 4000000 in
theorem ct_X6_pay (l : Launch) (z : gZ) {N : Nat} {M : Mem} {a : Nat} {v1 : Int32} {v2 : Int32} {o : Int32 × Mem} (k_a : kd a = 6) (n_a : a + 119 ≤ gn z) (h : fX6_pay N M a v1 v2 = some o) : CtI l z yX6_pay cX6_pay 6 (some .int) { frames := 4, cells := 0, slots := 0, locals := 90 } [.ref (gad z a), .int v1, .int v2] M o.1 o.2 := by
  refine Ct_of rfl (Nat.le_of_ble_eq_true rfl) ?_
  intro p e s m below meth c ls X hr hlk hG hS hl
  have X : gX p m c _ _ s _ RX6 z := X
  have hl : lv_has ls 6 [(0, .ref (gad z a)), (1, .int v1), (2, .int v2)] := hl
  have hx := X.1
  have hb := X.2.1
  unfold fX6_pay at h
  refine lv_aload_n hx hb dX6_pay_0 rfl (lv_at hl 0 rfl) ?_
  refine lv_iload_n hx hb dX6_pay_1 rfl (lv_at hl 1 rfl) ?_
  refine lv_iload_n hx hb dX6_pay_2 rfl (lv_at hl 2 rfl) ?_
  obtain ⟨r1, hcr1, h⟩ := bd_y h
  refine g_cVR (a := a) (ci := 6) (T := TX6) (N := 8) (av := [.int v1, .int v2]) (rest := []) X hG hS (ct_X6_streetWithSet l z k_a n_a hcr1) mt_X6_streetWithSet ml_X6_216 rfl ⟨rfl, rfl, Nat.le_of_ble_eq_true rfl, Nat.le_of_ble_eq_true rfl⟩ ⟨Nat.le_refl 0, Nat.le_refl 0⟩ (nx_0 n_a) k_a (by decide) rfl hl.1 (Nat.le_of_ble_eq_true rfl) rfl dX6_pay_3 (fun H locs hG hS => ?_)
  have h0 := onO_y h
  clear h
  obtain ⟨eq2, h⟩ | ⟨q2, eq2, h⟩ := h0
  · subst eq2
    refine g_rfN ?_
    refine lv_astore_nN (lv' := [(3, .null), (0, .ref (gad z a)), (1, .int v1), (2, .int v2)]) hx hb dX6_pay_6 rfl hl (by decide) rfl (fun ls hl => ?_)
    refine lv_aload_nN hx hb dX6_pay_7 rfl (lv_at hl 0 rfl) ?_
    refine lv_ifnonnullN hx hb dX6_pay_8 ?_
    refine lv_aload_n hx hb dX6_pay_11 rfl (lv_at hl 1 rfl) ?_
    refine lv_bipush (v := (-2)) hx hb dX6_pay_12 (by decide) ?_
    obtain ⟨r3, hcr3, h⟩ := bd_y h
    refine g_cVI (a := a) (ci := 6) (T := TX6) (N := 8) (av := [.int (-2)]) (rest := []) X hG hS (ct_X6_refuse l z k_a n_a hcr3) mt_X6_refuse ml_X6_59 rfl ⟨rfl, rfl, Nat.le_of_ble_eq_true rfl, Nat.le_of_ble_eq_true rfl⟩ ⟨Nat.le_refl 0, Nat.le_refl 0⟩ (nx_0 n_a) k_a (by decide) rfl hl.1 (Nat.le_of_ble_eq_true rfl) rfl dX6_pay_14 (fun H locs hG hS => ?_)
    obtain rfl := Option.some.inj h
    exact g_iret X hr hlk hG hS dX6_pay_17
  · subst eq2
    refine g_rfS ?_
    obtain ⟨⟨k_q2, n1_q2⟩, h⟩ := gc_y h
    have n_q2 : q2 + 8 ≤ gn z := Nat.le_trans n1_q2 n_a
    refine lv_astore_n (lv' := [(3, .ref (gad z q2)), (0, .ref (gad z a)), (1, .int v1), (2, .int v2)]) hx hb dX6_pay_6 rfl hl (by decide) rfl (fun ls hl => ?_)
    refine lv_aload_n hx hb dX6_pay_7 rfl (lv_at hl 0 rfl) ?_
    refine lv_ifnonnull (tgt := 18) hx hb dX6_pay_8 (by decide) ?_
    refine lv_aload_n hx hb dX6_pay_18 rfl (lv_at hl 0 rfl) ?_
    refine lv_iload_n hx hb dX6_pay_19 rfl (lv_at hl 3 rfl) ?_
    obtain ⟨r4, hcr4, h⟩ := bd_y h
    refine g_cVI (a := q2) (ci := 4) (T := TX4) (N := 10) (av := [.int v2]) (rest := []) X hG hS (ct_X4_hasMustsIn l z k_q2 n_q2 hcr4) mt_X4_hasMustsIn ml_X6_302 rfl ⟨rfl, rfl, Nat.le_of_ble_eq_true rfl, Nat.le_of_ble_eq_true rfl⟩ ⟨Nat.le_refl 0, Nat.le_refl 0⟩ (nx_0 n_q2) k_q2 (by decide) rfl hl.1 (Nat.le_of_ble_eq_true rfl) rfl dX6_pay_20 (fun H locs hG hS => ?_)
    refine lv_if_ne (tgt := 33) hx hb dX6_pay_23 (by decide) (fun q5 => ?_) (fun q5 => ?_)
    · have h := ite_n h q5
      refine lv_iconst (v := 0) hx hb dX6_pay_33 (by decide) ?_
      refine lv_istore (lv' := [(4, .int 0), (3, .ref (gad z q2)), (0, .ref (gad z a)), (1, .int v1), (2, .int v2)]) hx hb dX6_pay_34 hl (by decide) rfl (fun ls hl => ?_)
      refine lv_iconst (v := 0) hx hb dX6_pay_36 (by decide) ?_
      refine lv_istore (lv' := [(5, .int 0), (4, .int 0), (3, .ref (gad z q2)), (0, .ref (gad z a)), (1, .int v1), (2, .int v2)]) hx hb dX6_pay_37 hl (by decide) rfl (fun ls hl => ?_)
      refine wX6_pay_39 X hr hlk k_a n_a k_q2 n_q2 _ _ _ _ _ _ h hG hS (lv_sub hl [5, 2, 1, 0] rfl)
    · have h := ite_y h q5
      refine lv_aload_n hx hb dX6_pay_26 rfl (lv_at hl 1 rfl) ?_
      refine lv_bipush (v := (-5)) hx hb dX6_pay_27 (by decide) ?_
      obtain ⟨r6, hcr6, h⟩ := bd_y h
      refine g_cVI (a := a) (ci := 6) (T := TX6) (N := 8) (av := [.int (-5)]) (rest := []) X hG hS (ct_X6_refuse l z k_a n_a hcr6) mt_X6_refuse ml_X6_59 rfl ⟨rfl, rfl, Nat.le_of_ble_eq_true rfl, Nat.le_of_ble_eq_true rfl⟩ ⟨Nat.le_refl 0, Nat.le_refl 0⟩ (nx_0 n_a) k_a (by decide) rfl hl.1 (Nat.le_of_ble_eq_true rfl) rfl dX6_pay_29 (fun H locs hG hS => ?_)
      obtain rfl := Option.some.inj h
      exact g_iret X hr hlk hG hS dX6_pay_32
set_option maxRecDepth 100000 in
set_option maxHeartbeats 4000000 in
theorem wX6_few_39 {N : Nat} {p : Program} {l : Launch} {e : Env} {s : State} {m : MethodId} {args : Array Value} {below : List Frame} {meth : Method} {c : Code} {z : gZ} {M : Mem} {a : Nat} {q2 : Nat} {u2 : Int32} {o : Int32 × Mem} (X : gX p m c cX6_few 6 s args RX6 z) (hr : meth.sig.returnType = (some .int)) (hlk : meth.locks = false) (k_a : kd a = 6) (n_a : a + 119 ≤ gn z) (k_q2 : kd q2 = 4) (n_q2 : q2 + 8 ≤ gn z)  : ∀ (n : Nat) (w4 : Int32) (w5 : Int32) (H : Heap) (locs : List Loc) (ls : Array Slot), fX6_few_39 N M a q2 u2  n w4 w5 = some o → gW z M H → va_S (gA z) s.heap H locs → lv_has ls 6 [(2, .int u2), (3, .ref (gad z q2)), (4, .int w4), (5, .int w5)] → W p l e { frames := 4, cells := 0, slots := 0, locals := 90 } s m args below meth c H locs 0 0 (MQ below (va_Qi (fun r' (_ : Unit) => r' = o.1) (fun _ t => gW z o.2 t.heap) (gA z)) args s 0 0 (gA z)) (F0 m 39 ls []) := by
  have hx := X.1
  have hb := X.2.1
  intro n
  induction n with
  | zero => intro w4 w5 H locs ls h; cases h
  | succ n ih =>
    intro w4 w5 H locs ls h hG hS hl
    rw [fX6_few_39] at h
    refine lv_iload hx hb dX6_few_39 (lv_at hl 3 rfl) ?_
    refine lv_aload_n hx hb dX6_few_41 rfl (lv_at hl 1 rfl) ?_
    refine gf_X4_7 X hG (nx_0 n_q2) k_q2 fl_X6_143 dX6_few_42 ?_
    refine lv_icmp_ge (tgt := 67) hx hb dX6_few_45 (by decide) (fun q1 => ?_) (fun q1 => ?_)
    · have h := ite_y h q1
      refine lv_iload hx hb dX6_few_67 (lv_at hl 2 rfl) ?_
      obtain rfl := Option.some.inj h
      exact g_iret X hr hlk hG hS dX6_few_69
    · have h := ite_n h q1
      refine lv_aload_n hx hb dX6_few_48 rfl (lv_at hl 1 rfl) ?_
      refine lv_iload hx hb dX6_few_49 (lv_at hl 3 rfl) ?_
      refine lv_iload_n hx hb dX6_few_51 rfl (lv_at hl 0 rfl) ?_
      obtain ⟨r2, hcr2, h⟩ := bd_y h
      refine g_cVI (a := q2) (ci := 4) (T := TX4) (N := 10) (av := [.int w5, .int u2]) (rest := []) X hG hS (ct_X4_needOf l z k_q2 n_q2 hcr2) mt_X4_needOf ml_X6_299 rfl ⟨rfl, rfl, Nat.le_of_ble_eq_true rfl, Nat.le_of_ble_eq_true rfl⟩ ⟨Nat.le_refl 0, Nat.le_refl 0⟩ (nx_0 n_q2) k_q2 (by decide) rfl hl.1 (Nat.le_of_ble_eq_true rfl) rfl dX6_few_52 (fun H locs hG hS => ?_)
      refine lv_if_le (tgt := 61) hx hb dX6_few_55 (by decide) (fun q3 => ?_) (fun q3 => ?_)
      · have h := ite_y h q3
        refine lv_iinc (v := (w5 + 1)) (lv' := [(5, .int (w5 + 1)), (2, .int u2), (3, .ref (gad z q2)), (4, .int w4)]) hx hb dX6_few_61 hl (k := 3) rfl rfl (by decide) rfl (fun ls hl => ?_)
        refine lv_goto (tgt := 39) hx hb dX6_few_64 (by decide) ?_
        exact ih w4 (w5 + 1) _ _ _ h hG hS (lv_sub hl [1, 2, 3, 0] rfl)
      · have h := ite_n h q3
        refine lv_iinc (v := (w4 + 1)) (lv' := [(4, .int (w4 + 1)), (2, .int u2), (3, .ref (gad z q2)), (5, .int w5)]) hx hb dX6_few_58 hl (k := 2) rfl rfl (by decide) rfl (fun ls hl => ?_)
        refine lv_iinc (v := (w5 + 1)) (lv' := [(5, .int (w5 + 1)), (4, .int (w4 + 1)), (2, .int u2), (3, .ref (gad z q2))]) hx hb dX6_few_61 hl (k := 3) rfl rfl (by decide) rfl (fun ls hl => ?_)
        refine lv_goto (tgt := 39) hx hb dX6_few_64 (by decide) ?_
        exact ih (w4 + 1) (w5 + 1) _ _ _ h hG hS (lv_sub hl [2, 3, 1, 0] rfl)
set_option maxRecDepth 100000 in
set_option maxHeartbeats 4000000 in
theorem ct_X6_few (l : Launch) (z : gZ) {N : Nat} {M : Mem} {a : Nat} {v1 : Int32} {v2 : Int32} {o : Int32 × Mem} (k_a : kd a = 6) (n_a : a + 119 ≤ gn z) (h : fX6_few N M a v1 v2 = some o) : CtI l z yX6_few cX6_few 6 (some .int) { frames := 4, cells := 0, slots := 0, locals := 90 } [.ref (gad z a), .int v1, .int v2] M o.1 o.2 := by
  refine Ct_of rfl (Nat.le_of_ble_eq_true rfl) ?_
  intro p e s m below meth c ls X hr hlk hG hS hl
  have X : gX p m c _ _ s _ RX6 z := X
  have hl : lv_has ls 6 [(0, .ref (gad z a)), (1, .int v1), (2, .int v2)] := hl
  have hx := X.1
  have hb := X.2.1
  unfold fX6_few at h
  refine lv_aload_n hx hb dX6_few_0 rfl (lv_at hl 0 rfl) ?_
  refine lv_iload_n hx hb dX6_few_1 rfl (lv_at hl 1 rfl) ?_
  refine lv_iload_n hx hb dX6_few_2 rfl (lv_at hl 2 rfl) ?_
  obtain ⟨r1, hcr1, h⟩ := bd_y h
  refine g_cVR (a := a) (ci := 6) (T := TX6) (N := 8) (av := [.int v1, .int v2]) (rest := []) X hG hS (ct_X6_streetWithSet l z k_a n_a hcr1) mt_X6_streetWithSet ml_X6_216 rfl ⟨rfl, rfl, Nat.le_of_ble_eq_true rfl, Nat.le_of_ble_eq_true rfl⟩ ⟨Nat.le_refl 0, Nat.le_refl 0⟩ (nx_0 n_a) k_a (by decide) rfl hl.1 (Nat.le_of_ble_eq_true rfl) rfl dX6_few_3 (fun H locs hG hS => ?_)
  have h0 := onO_y h
  clear h
  obtain ⟨eq2, h⟩ | ⟨q2, eq2, h⟩ := h0
  · subst eq2
    refine g_rfN ?_
    refine lv_astore_nN (lv' := [(3, .null), (0, .ref (gad z a)), (1, .int v1), (2, .int v2)]) hx hb dX6_few_6 rfl hl (by decide) rfl (fun ls hl => ?_)
    refine lv_aload_nN hx hb dX6_few_7 rfl (lv_at hl 0 rfl) ?_
    refine lv_ifnonnullN hx hb dX6_few_8 ?_
    refine lv_aload_n hx hb dX6_few_11 rfl (lv_at hl 1 rfl) ?_
    refine lv_bipush (v := (-2)) hx hb dX6_few_12 (by decide) ?_
    obtain ⟨r3, hcr3, h⟩ := bd_y h
    refine g_cVI (a := a) (ci := 6) (T := TX6) (N := 8) (av := [.int (-2)]) (rest := []) X hG hS (ct_X6_refuse l z k_a n_a hcr3) mt_X6_refuse ml_X6_59 rfl ⟨rfl, rfl, Nat.le_of_ble_eq_true rfl, Nat.le_of_ble_eq_true rfl⟩ ⟨Nat.le_refl 0, Nat.le_refl 0⟩ (nx_0 n_a) k_a (by decide) rfl hl.1 (Nat.le_of_ble_eq_true rfl) rfl dX6_few_14 (fun H locs hG hS => ?_)
    obtain rfl := Option.some.inj h
    exact g_iret X hr hlk hG hS dX6_few_17
  · subst eq2
    refine g_rfS ?_
    obtain ⟨⟨k_q2, n1_q2⟩, h⟩ := gc_y h
    have n_q2 : q2 + 8 ≤ gn z := Nat.le_trans n1_q2 n_a
    refine lv_astore_n (lv' := [(3, .ref (gad z q2)), (0, .ref (gad z a)), (1, .int v1), (2, .int v2)]) hx hb dX6_few_6 rfl hl (by decide) rfl (fun ls hl => ?_)
    refine lv_aload_n hx hb dX6_few_7 rfl (lv_at hl 0 rfl) ?_
    refine lv_ifnonnull (tgt := 18) hx hb dX6_few_8 (by decide) ?_
    refine lv_aload_n hx hb dX6_few_18 rfl (lv_at hl 0 rfl) ?_
    refine lv_iload_n hx hb dX6_few_19 rfl (lv_at hl 3 rfl) ?_
    obtain ⟨r4, hcr4, h⟩ := bd_y h
    refine g_cVI (a := q2) (ci := 4) (T := TX4) (N := 10) (av := [.int v2]) (rest := []) X hG hS (ct_X4_hasMustsIn l z k_q2 n_q2 hcr4) mt_X4_hasMustsIn ml_X6_302 rfl ⟨rfl, rfl, Nat.le_of_ble_eq_true rfl, Nat.le_of_ble_eq_true rfl⟩ ⟨Nat.le_refl 0, Nat.le_refl 0⟩ (nx_0 n_q2) k_q2 (by decide) rfl hl.1 (Nat.le_of_ble_eq_true rfl) rfl dX6_few_20 (fun H locs hG hS => ?_)
    refine lv_if_ne (tgt := 33) hx hb dX6_few_23 (by decide) (fun q5 => ?_) (fun q5 => ?_)
    · have h := ite_n h q5
      refine lv_iconst (v := 0) hx hb dX6_few_33 (by decide) ?_
      refine lv_istore (lv' := [(4, .int 0), (3, .ref (gad z q2)), (0, .ref (gad z a)), (1, .int v1), (2, .int v2)]) hx hb dX6_few_34 hl (by decide) rfl (fun ls hl => ?_)
      refine lv_iconst (v := 0) hx hb dX6_few_36 (by decide) ?_
      refine lv_istore (lv' := [(5, .int 0), (4, .int 0), (3, .ref (gad z q2)), (0, .ref (gad z a)), (1, .int v1), (2, .int v2)]) hx hb dX6_few_37 hl (by decide) rfl (fun ls hl => ?_)
      refine wX6_few_39 X hr hlk k_a n_a k_q2 n_q2 _ _ _ _ _ _ h hG hS (lv_sub hl [5, 2, 1, 0] rfl)
    · have h := ite_y h q5
      refine lv_aload_n hx hb dX6_few_26 rfl (lv_at hl 1 rfl) ?_
      refine lv_bipush (v := (-5)) hx hb dX6_few_27 (by decide) ?_
      obtain ⟨r6, hcr6, h⟩ := bd_y h
      refine g_cVI (a := a) (ci := 6) (T := TX6) (N := 8) (av := [.int (-5)]) (rest := []) X hG hS (ct_X6_refuse l z k_a n_a hcr6) mt_X6_refuse ml_X6_59 rfl ⟨rfl, rfl, Nat.le_of_ble_eq_true rfl, Nat.le_of_ble_eq_true rfl⟩ ⟨Nat.le_refl 0, Nat.le_refl 0⟩ (nx_0 n_a) k_a (by decide) rfl hl.1 (Nat.le_of_ble_eq_true rfl) rfl dX6_few_29 (fun H locs hG hS => ?_)
      obtain rfl := Option.some.inj h
      exact g_iret X hr hlk hG hS dX6_few_32
set_option maxRecDepth 100000 in
set_option maxHeartbeats 4000000 in
theorem wX6_doers_37 {N : Nat} {p : Program} {l : Launch} {e : Env} {s : State} {m : MethodId} {args : Array Value} {below : List Frame} {meth : Method} {c : Code} {z : gZ} {a : Nat} {q2 : Nat} {u2 : Int32} {o : Int32 × Mem} (X : gX p m c cX6_doers 8 s args RX6 z) (hr : meth.sig.returnType = (some .int)) (hlk : meth.locks = false) (k_a : kd a = 6) (n_a : a + 119 ≤ gn z) (k_q2 : kd q2 = 4) (n_q2 : q2 + 8 ≤ gn z)  : ∀ (n : Nat) (Mw : Mem) (w4 : Int32) (w5 : Int32) (H : Heap) (locs : List Loc) (ls : Array Slot), fX6_doers_37 N a q2 u2  n Mw w4 w5 = some o → gW z Mw H → va_S (gA z) s.heap H locs → lv_has ls 8 [(0, .ref (gad z a)), (2, .int u2), (3, .ref (gad z q2)), (4, .int w4), (5, .int w5)] → W p l e { frames := 3, cells := 0, slots := 0, locals := 69 } s m args below meth c H locs 0 0 (MQ below (va_Qi (fun r' (_ : Unit) => r' = o.1) (fun _ t => gW z o.2 t.heap) (gA z)) args s 0 0 (gA z)) (F0 m 37 ls []) := by
  have hx := X.1
  have hb := X.2.1
  intro n
  induction n with
  | zero => intro Mw w4 w5 H locs ls h; cases h
  | succ n ih =>
    intro Mw w4 w5 H locs ls h hG hS hl
    rw [fX6_doers_37] at h
    refine lv_iload hx hb dX6_doers_37 (lv_at hl 4 rfl) ?_
    refine lv_aload_n hx hb dX6_doers_39 rfl (lv_at hl 2 rfl) ?_
    refine gf_X4_7 X hG (nx_0 n_q2) k_q2 fl_X6_143 dX6_doers_40 ?_
    refine lv_icmp_ge (tgt := 125) hx hb dX6_doers_43 (by decide) (fun q1 => ?_) (fun q1 => ?_)
    · have h := ite_y h q1
      refine lv_iload hx hb dX6_doers_125 (lv_at hl 3 rfl) ?_
      obtain rfl := Option.some.inj h
      exact g_iret X hr hlk hG hS dX6_doers_127
    · have h := ite_n h q1
      refine lv_aload_n hx hb dX6_doers_46 rfl (lv_at hl 2 rfl) ?_
      refine lv_iload hx hb dX6_doers_47 (lv_at hl 4 rfl) ?_
      refine lv_iload_n hx hb dX6_doers_49 rfl (lv_at hl 1 rfl) ?_
      obtain ⟨r2, hcr2, h⟩ := bd_y h
      refine g_cVI (a := q2) (ci := 4) (T := TX4) (N := 10) (av := [.int w5, .int u2]) (rest := []) X hG hS (ct_X4_chanceOf l z k_q2 n_q2 hcr2) mt_X4_chanceOf ml_X6_313 rfl ⟨rfl, rfl, Nat.le_of_ble_eq_true rfl, Nat.le_of_ble_eq_true rfl⟩ ⟨Nat.le_refl 0, Nat.le_refl 0⟩ (nx_0 n_q2) k_q2 (by decide) rfl hl.1 (Nat.le_of_ble_eq_true rfl) rfl dX6_doers_50 (fun H locs hG hS => ?_)
      refine lv_istore (lv' := [(6, .int r2), (0, .ref (gad z a)), (2, .int u2), (3, .ref (gad z q2)), (4, .int w4), (5, .int w5)]) hx hb dX6_doers_53 hl (by decide) rfl (fun ls hl => ?_)
      refine lv_aload_n hx hb dX6_doers_55 rfl (lv_at hl 3 rfl) ?_
      refine gf_X4_3 X hG (nx_0 n_q2) k_q2 fl_X6_173 dX6_doers_56 ?_
      refine lv_iload hx hb dX6_doers_59 (lv_at hl 5 rfl) ?_
      obtain ⟨i3, h⟩ := gd_y h
      refine g_iald X hG (nx_a (a := q2) (k := 4) (n := 8) n_q2 (Nat.le_of_ble_eq_true rfl)) (kx_4_4 k_q2) (by decide) i3 dX6_doers_61 ?_
      refine lv_iconst (v := 2) hx hb dX6_doers_62 (by decide) ?_
      refine lv_icmp_ne (tgt := 79) hx hb dX6_doers_63 (by decide) (fun q4 => ?_) (fun q4 => ?_)
      · have h := ite_n h q4
        refine lv_iconst (v := 0) hx hb dX6_doers_79 (by decide) ?_
        refine lv_istore (lv' := [(7, .int 0), (6, .int r2), (0, .ref (gad z a)), (2, .int u2), (3, .ref (gad z q2)), (4, .int w4), (5, .int w5)]) hx hb dX6_doers_80 hl (by decide) rfl (fun ls hl => ?_)
        refine lv_iload hx hb dX6_doers_82 (lv_at hl 0 rfl) ?_
        refine lv_if_eq (tgt := 105) hx hb dX6_doers_84 (by decide) (fun q5 => ?_) (fun q5 => ?_)
        · have h := ite_y h q5
          refine lv_iload hx hb dX6_doers_105 (lv_at hl 1 rfl) ?_
          refine lv_if_le (tgt := 119) hx hb dX6_doers_107 (by decide) (fun q6 => ?_) (fun q6 => ?_)
          · have h := ite_y h q6
            refine lv_iinc (v := (w5 + 1)) (lv' := [(5, .int (w5 + 1)), (7, .int 0), (6, .int r2), (0, .ref (gad z a)), (2, .int u2), (3, .ref (gad z q2)), (4, .int w4)]) hx hb dX6_doers_119 hl (k := 6) rfl rfl (by decide) rfl (fun ls hl => ?_)
            refine lv_goto (tgt := 37) hx hb dX6_doers_122 (by decide) ?_
            exact ih Mw w4 (w5 + 1) _ _ _ h hG hS (lv_sub hl [3, 4, 5, 6, 0] rfl)
          · have h := ite_n h q6
            refine lv_iload hx hb dX6_doers_110 (lv_at hl 5 rfl) ?_
            refine lv_iconst (v := 1) hx hb dX6_doers_112 (by decide) ?_
            refine lv_iload hx hb dX6_doers_113 (lv_at hl 6 rfl) ?_
            refine lv_ishl hx hb dX6_doers_115 ?_
            refine lv_ior hx hb dX6_doers_116 ?_
            refine lv_topi (fun x7 ex7 => ?_)
            have h := nm_y h x7 ex7
            refine lv_istore (lv' := [(4, .int x7), (7, .int 0), (6, .int r2), (0, .ref (gad z a)), (2, .int u2), (3, .ref (gad z q2)), (5, .int w5)]) hx hb dX6_doers_117 hl (by decide) rfl (fun ls hl => ?_)
            refine lv_iinc (v := (w5 + 1)) (lv' := [(5, .int (w5 + 1)), (4, .int x7), (7, .int 0), (6, .int r2), (0, .ref (gad z a)), (2, .int u2), (3, .ref (gad z q2))]) hx hb dX6_doers_119 hl (k := 6) rfl rfl (by decide) rfl (fun ls hl => ?_)
            refine lv_goto (tgt := 37) hx hb dX6_doers_122 (by decide) ?_
            exact ih Mw x7 (w5 + 1) _ _ _ h hG hS (lv_sub hl [4, 5, 6, 1, 0] rfl)
        · have h := ite_n h q5
          refine lv_aload_n hx hb dX6_doers_87 rfl (lv_at hl 2 rfl) ?_
          refine gf_X6_2 X hG (nx_0 n_a) k_a fl_X6_25 dX6_doers_88 ?_
          refine lv_sipush (v := 1000) hx hb dX6_doers_91 (by decide) ?_
          obtain ⟨r8, hcr8, h⟩ := bd_y h
          refine g_cVI (a := (a + 4)) (ci := 5) (T := TX5) (N := 5) (av := [.int 1000]) (rest := []) X hG hS (ct_X5_draw l z (kx_6_4 k_a) (nx_o (a := a) (k := 4) (n := 119) (c := 44) n_a (Nat.le_of_ble_eq_true rfl)) hcr8) mt_X5_draw ml_X6_316 rfl ⟨rfl, rfl, Nat.le_of_ble_eq_true rfl, Nat.le_of_ble_eq_true rfl⟩ ⟨Nat.le_refl 0, Nat.le_refl 0⟩ (nx_0 (nx_o (a := a) (k := 4) (n := 119) (c := 44) n_a (Nat.le_of_ble_eq_true rfl))) (kx_6_4 k_a) (by decide) rfl hl.1 (Nat.le_of_ble_eq_true rfl) rfl dX6_doers_94 (fun H locs hG hS => ?_)
          refine lv_iload hx hb dX6_doers_97 (lv_at hl 1 rfl) ?_
          refine lv_icmp_ge (tgt := 119) hx hb dX6_doers_99 (by decide) (fun q9 => ?_) (fun q9 => ?_)
          · have h := ite_y h q9
            refine lv_iinc (v := (w5 + 1)) (lv' := [(5, .int (w5 + 1)), (7, .int 0), (6, .int r2), (0, .ref (gad z a)), (2, .int u2), (3, .ref (gad z q2)), (4, .int w4)]) hx hb dX6_doers_119 hl (k := 6) rfl rfl (by decide) rfl (fun ls hl => ?_)
            refine lv_goto (tgt := 37) hx hb dX6_doers_122 (by decide) ?_
            exact ih r8.2 w4 (w5 + 1) _ _ _ h hG hS (lv_sub hl [3, 4, 5, 6, 0] rfl)
          · have h := ite_n h q9
            refine lv_goto (tgt := 110) hx hb dX6_doers_102 (by decide) ?_
            refine lv_iload hx hb dX6_doers_110 (lv_at hl 5 rfl) ?_
            refine lv_iconst (v := 1) hx hb dX6_doers_112 (by decide) ?_
            refine lv_iload hx hb dX6_doers_113 (lv_at hl 6 rfl) ?_
            refine lv_ishl hx hb dX6_doers_115 ?_
            refine lv_ior hx hb dX6_doers_116 ?_
            refine lv_topi (fun x10 ex10 => ?_)
            have h := nm_y h x10 ex10
            refine lv_istore (lv' := [(4, .int x10), (7, .int 0), (6, .int r2), (0, .ref (gad z a)), (2, .int u2), (3, .ref (gad z q2)), (5, .int w5)]) hx hb dX6_doers_117 hl (by decide) rfl (fun ls hl => ?_)
            refine lv_iinc (v := (w5 + 1)) (lv' := [(5, .int (w5 + 1)), (4, .int x10), (7, .int 0), (6, .int r2), (0, .ref (gad z a)), (2, .int u2), (3, .ref (gad z q2))]) hx hb dX6_doers_119 hl (k := 6) rfl rfl (by decide) rfl (fun ls hl => ?_)
            refine lv_goto (tgt := 37) hx hb dX6_doers_122 (by decide) ?_
            exact ih r8.2 x10 (w5 + 1) _ _ _ h hG hS (lv_sub hl [4, 5, 6, 1, 0] rfl)
      · have h := ite_y h q4
        refine lv_aload_n hx hb dX6_doers_66 rfl (lv_at hl 3 rfl) ?_
        refine lv_iload hx hb dX6_doers_67 (lv_at hl 5 rfl) ?_
        obtain ⟨r11, hcr11, h⟩ := bd_y h
        refine g_cVI (a := q2) (ci := 4) (T := TX4) (N := 10) (av := [.int w5]) (rest := []) X hG hS (ct_X4_isMust l z k_q2 n_q2 hcr11) mt_X4_isMust ml_X6_170 rfl ⟨rfl, rfl, Nat.le_of_ble_eq_true rfl, Nat.le_of_ble_eq_true rfl⟩ ⟨Nat.le_refl 0, Nat.le_refl 0⟩ (nx_0 n_q2) k_q2 (by decide) rfl hl.1 (Nat.le_of_ble_eq_true rfl) rfl dX6_doers_69 (fun H locs hG hS => ?_)
        refine lv_if_ne (tgt := 79) hx hb dX6_doers_72 (by decide) (fun q12 => ?_) (fun q12 => ?_)
        · have h := ite_n h q12
          refine lv_iconst (v := 0) hx hb dX6_doers_79 (by decide) ?_
          refine lv_istore (lv' := [(7, .int 0), (6, .int r2), (0, .ref (gad z a)), (2, .int u2), (3, .ref (gad z q2)), (4, .int w4), (5, .int w5)]) hx hb dX6_doers_80 hl (by decide) rfl (fun ls hl => ?_)
          refine lv_iload hx hb dX6_doers_82 (lv_at hl 0 rfl) ?_
          refine lv_if_eq (tgt := 105) hx hb dX6_doers_84 (by decide) (fun q13 => ?_) (fun q13 => ?_)
          · have h := ite_y h q13
            refine lv_iload hx hb dX6_doers_105 (lv_at hl 1 rfl) ?_
            refine lv_if_le (tgt := 119) hx hb dX6_doers_107 (by decide) (fun q14 => ?_) (fun q14 => ?_)
            · have h := ite_y h q14
              refine lv_iinc (v := (w5 + 1)) (lv' := [(5, .int (w5 + 1)), (7, .int 0), (6, .int r2), (0, .ref (gad z a)), (2, .int u2), (3, .ref (gad z q2)), (4, .int w4)]) hx hb dX6_doers_119 hl (k := 6) rfl rfl (by decide) rfl (fun ls hl => ?_)
              refine lv_goto (tgt := 37) hx hb dX6_doers_122 (by decide) ?_
              exact ih Mw w4 (w5 + 1) _ _ _ h hG hS (lv_sub hl [3, 4, 5, 6, 0] rfl)
            · have h := ite_n h q14
              refine lv_iload hx hb dX6_doers_110 (lv_at hl 5 rfl) ?_
              refine lv_iconst (v := 1) hx hb dX6_doers_112 (by decide) ?_
              refine lv_iload hx hb dX6_doers_113 (lv_at hl 6 rfl) ?_
              refine lv_ishl hx hb dX6_doers_115 ?_
              refine lv_ior hx hb dX6_doers_116 ?_
              refine lv_topi (fun x15 ex15 => ?_)
              have h := nm_y h x15 ex15
              refine lv_istore (lv' := [(4, .int x15), (7, .int 0), (6, .int r2), (0, .ref (gad z a)), (2, .int u2), (3, .ref (gad z q2)), (5, .int w5)]) hx hb dX6_doers_117 hl (by decide) rfl (fun ls hl => ?_)
              refine lv_iinc (v := (w5 + 1)) (lv' := [(5, .int (w5 + 1)), (4, .int x15), (7, .int 0), (6, .int r2), (0, .ref (gad z a)), (2, .int u2), (3, .ref (gad z q2))]) hx hb dX6_doers_119 hl (k := 6) rfl rfl (by decide) rfl (fun ls hl => ?_)
              refine lv_goto (tgt := 37) hx hb dX6_doers_122 (by decide) ?_
              exact ih Mw x15 (w5 + 1) _ _ _ h hG hS (lv_sub hl [4, 5, 6, 1, 0] rfl)
          · have h := ite_n h q13
            refine lv_aload_n hx hb dX6_doers_87 rfl (lv_at hl 2 rfl) ?_
            refine gf_X6_2 X hG (nx_0 n_a) k_a fl_X6_25 dX6_doers_88 ?_
            refine lv_sipush (v := 1000) hx hb dX6_doers_91 (by decide) ?_
            obtain ⟨r16, hcr16, h⟩ := bd_y h
            refine g_cVI (a := (a + 4)) (ci := 5) (T := TX5) (N := 5) (av := [.int 1000]) (rest := []) X hG hS (ct_X5_draw l z (kx_6_4 k_a) (nx_o (a := a) (k := 4) (n := 119) (c := 44) n_a (Nat.le_of_ble_eq_true rfl)) hcr16) mt_X5_draw ml_X6_316 rfl ⟨rfl, rfl, Nat.le_of_ble_eq_true rfl, Nat.le_of_ble_eq_true rfl⟩ ⟨Nat.le_refl 0, Nat.le_refl 0⟩ (nx_0 (nx_o (a := a) (k := 4) (n := 119) (c := 44) n_a (Nat.le_of_ble_eq_true rfl))) (kx_6_4 k_a) (by decide) rfl hl.1 (Nat.le_of_ble_eq_true rfl) rfl dX6_doers_94 (fun H locs hG hS => ?_)
            refine lv_iload hx hb dX6_doers_97 (lv_at hl 1 rfl) ?_
            refine lv_icmp_ge (tgt := 119) hx hb dX6_doers_99 (by decide) (fun q17 => ?_) (fun q17 => ?_)
            · have h := ite_y h q17
              refine lv_iinc (v := (w5 + 1)) (lv' := [(5, .int (w5 + 1)), (7, .int 0), (6, .int r2), (0, .ref (gad z a)), (2, .int u2), (3, .ref (gad z q2)), (4, .int w4)]) hx hb dX6_doers_119 hl (k := 6) rfl rfl (by decide) rfl (fun ls hl => ?_)
              refine lv_goto (tgt := 37) hx hb dX6_doers_122 (by decide) ?_
              exact ih r16.2 w4 (w5 + 1) _ _ _ h hG hS (lv_sub hl [3, 4, 5, 6, 0] rfl)
            · have h := ite_n h q17
              refine lv_goto (tgt := 110) hx hb dX6_doers_102 (by decide) ?_
              refine lv_iload hx hb dX6_doers_110 (lv_at hl 5 rfl) ?_
              refine lv_iconst (v := 1) hx hb dX6_doers_112 (by decide) ?_
              refine lv_iload hx hb dX6_doers_113 (lv_at hl 6 rfl) ?_
              refine lv_ishl hx hb dX6_doers_115 ?_
              refine lv_ior hx hb dX6_doers_116 ?_
              refine lv_topi (fun x18 ex18 => ?_)
              have h := nm_y h x18 ex18
              refine lv_istore (lv' := [(4, .int x18), (7, .int 0), (6, .int r2), (0, .ref (gad z a)), (2, .int u2), (3, .ref (gad z q2)), (5, .int w5)]) hx hb dX6_doers_117 hl (by decide) rfl (fun ls hl => ?_)
              refine lv_iinc (v := (w5 + 1)) (lv' := [(5, .int (w5 + 1)), (4, .int x18), (7, .int 0), (6, .int r2), (0, .ref (gad z a)), (2, .int u2), (3, .ref (gad z q2))]) hx hb dX6_doers_119 hl (k := 6) rfl rfl (by decide) rfl (fun ls hl => ?_)
              refine lv_goto (tgt := 37) hx hb dX6_doers_122 (by decide) ?_
              exact ih r16.2 x18 (w5 + 1) _ _ _ h hG hS (lv_sub hl [4, 5, 6, 1, 0] rfl)
        · have h := ite_y h q12
          refine lv_iconst (v := 1) hx hb dX6_doers_75 (by decide) ?_
          refine lv_goto (tgt := 80) hx hb dX6_doers_76 (by decide) ?_
          refine lv_istore (lv' := [(7, .int 1), (6, .int r2), (0, .ref (gad z a)), (2, .int u2), (3, .ref (gad z q2)), (4, .int w4), (5, .int w5)]) hx hb dX6_doers_80 hl (by decide) rfl (fun ls hl => ?_)
          refine lv_iload hx hb dX6_doers_82 (lv_at hl 0 rfl) ?_
          refine lv_if_eq (tgt := 105) hx hb dX6_doers_84 (by decide) (fun q19 => ?_) (fun q19 => ?_)
          · have h := ite_y h q19
            refine lv_iload hx hb dX6_doers_105 (lv_at hl 1 rfl) ?_
            refine lv_if_le (tgt := 119) hx hb dX6_doers_107 (by decide) (fun q20 => ?_) (fun q20 => ?_)
            · have h := ite_y h q20
              refine lv_iinc (v := (w5 + 1)) (lv' := [(5, .int (w5 + 1)), (7, .int 1), (6, .int r2), (0, .ref (gad z a)), (2, .int u2), (3, .ref (gad z q2)), (4, .int w4)]) hx hb dX6_doers_119 hl (k := 6) rfl rfl (by decide) rfl (fun ls hl => ?_)
              refine lv_goto (tgt := 37) hx hb dX6_doers_122 (by decide) ?_
              exact ih Mw w4 (w5 + 1) _ _ _ h hG hS (lv_sub hl [3, 4, 5, 6, 0] rfl)
            · have h := ite_n h q20
              refine lv_iload hx hb dX6_doers_110 (lv_at hl 5 rfl) ?_
              refine lv_iconst (v := 1) hx hb dX6_doers_112 (by decide) ?_
              refine lv_iload hx hb dX6_doers_113 (lv_at hl 6 rfl) ?_
              refine lv_ishl hx hb dX6_doers_115 ?_
              refine lv_ior hx hb dX6_doers_116 ?_
              refine lv_topi (fun x21 ex21 => ?_)
              have h := nm_y h x21 ex21
              refine lv_istore (lv' := [(4, .int x21), (7, .int 1), (6, .int r2), (0, .ref (gad z a)), (2, .int u2), (3, .ref (gad z q2)), (5, .int w5)]) hx hb dX6_doers_117 hl (by decide) rfl (fun ls hl => ?_)
              refine lv_iinc (v := (w5 + 1)) (lv' := [(5, .int (w5 + 1)), (4, .int x21), (7, .int 1), (6, .int r2), (0, .ref (gad z a)), (2, .int u2), (3, .ref (gad z q2))]) hx hb dX6_doers_119 hl (k := 6) rfl rfl (by decide) rfl (fun ls hl => ?_)
              refine lv_goto (tgt := 37) hx hb dX6_doers_122 (by decide) ?_
              exact ih Mw x21 (w5 + 1) _ _ _ h hG hS (lv_sub hl [4, 5, 6, 1, 0] rfl)
          · have h := ite_n h q19
            refine lv_aload_n hx hb dX6_doers_87 rfl (lv_at hl 2 rfl) ?_
            refine gf_X6_2 X hG (nx_0 n_a) k_a fl_X6_25 dX6_doers_88 ?_
            refine lv_sipush (v := 1000) hx hb dX6_doers_91 (by decide) ?_
            obtain ⟨r22, hcr22, h⟩ := bd_y h
            refine g_cVI (a := (a + 4)) (ci := 5) (T := TX5) (N := 5) (av := [.int 1000]) (rest := []) X hG hS (ct_X5_draw l z (kx_6_4 k_a) (nx_o (a := a) (k := 4) (n := 119) (c := 44) n_a (Nat.le_of_ble_eq_true rfl)) hcr22) mt_X5_draw ml_X6_316 rfl ⟨rfl, rfl, Nat.le_of_ble_eq_true rfl, Nat.le_of_ble_eq_true rfl⟩ ⟨Nat.le_refl 0, Nat.le_refl 0⟩ (nx_0 (nx_o (a := a) (k := 4) (n := 119) (c := 44) n_a (Nat.le_of_ble_eq_true rfl))) (kx_6_4 k_a) (by decide) rfl hl.1 (Nat.le_of_ble_eq_true rfl) rfl dX6_doers_94 (fun H locs hG hS => ?_)
            refine lv_iload hx hb dX6_doers_97 (lv_at hl 1 rfl) ?_
            refine lv_icmp_ge (tgt := 119) hx hb dX6_doers_99 (by decide) (fun q23 => ?_) (fun q23 => ?_)
            · have h := ite_y h q23
              refine lv_iinc (v := (w5 + 1)) (lv' := [(5, .int (w5 + 1)), (7, .int 1), (6, .int r2), (0, .ref (gad z a)), (2, .int u2), (3, .ref (gad z q2)), (4, .int w4)]) hx hb dX6_doers_119 hl (k := 6) rfl rfl (by decide) rfl (fun ls hl => ?_)
              refine lv_goto (tgt := 37) hx hb dX6_doers_122 (by decide) ?_
              exact ih r22.2 w4 (w5 + 1) _ _ _ h hG hS (lv_sub hl [3, 4, 5, 6, 0] rfl)
            · have h := ite_n h q23
              refine lv_goto (tgt := 110) hx hb dX6_doers_102 (by decide) ?_
              refine lv_iload hx hb dX6_doers_110 (lv_at hl 5 rfl) ?_
              refine lv_iconst (v := 1) hx hb dX6_doers_112 (by decide) ?_
              refine lv_iload hx hb dX6_doers_113 (lv_at hl 6 rfl) ?_
              refine lv_ishl hx hb dX6_doers_115 ?_
              refine lv_ior hx hb dX6_doers_116 ?_
              refine lv_topi (fun x24 ex24 => ?_)
              have h := nm_y h x24 ex24
              refine lv_istore (lv' := [(4, .int x24), (7, .int 1), (6, .int r2), (0, .ref (gad z a)), (2, .int u2), (3, .ref (gad z q2)), (5, .int w5)]) hx hb dX6_doers_117 hl (by decide) rfl (fun ls hl => ?_)
              refine lv_iinc (v := (w5 + 1)) (lv' := [(5, .int (w5 + 1)), (4, .int x24), (7, .int 1), (6, .int r2), (0, .ref (gad z a)), (2, .int u2), (3, .ref (gad z q2))]) hx hb dX6_doers_119 hl (k := 6) rfl rfl (by decide) rfl (fun ls hl => ?_)
              refine lv_goto (tgt := 37) hx hb dX6_doers_122 (by decide) ?_
              exact ih r22.2 x24 (w5 + 1) _ _ _ h hG hS (lv_sub hl [4, 5, 6, 1, 0] rfl)
set_option maxRecDepth 100000 in
set_option maxHeartbeats 4000000 in
theorem ct_X6_doers (l : Launch) (z : gZ) {N : Nat} {M : Mem} {a : Nat} {v1 : Int32} {v2 : Int32} {o : Int32 × Mem} (k_a : kd a = 6) (n_a : a + 119 ≤ gn z) (h : fX6_doers N M a v1 v2 = some o) : CtI l z yX6_doers cX6_doers 8 (some .int) { frames := 3, cells := 0, slots := 0, locals := 69 } [.ref (gad z a), .int v1, .int v2] M o.1 o.2 := by
  refine Ct_of rfl (Nat.le_of_ble_eq_true rfl) ?_
  intro p e s m below meth c ls X hr hlk hG hS hl
  have X : gX p m c _ _ s _ RX6 z := X
  have hl : lv_has ls 8 [(0, .ref (gad z a)), (1, .int v1), (2, .int v2)] := hl
  have hx := X.1
  have hb := X.2.1
  unfold fX6_doers at h
  refine lv_aload_n hx hb dX6_doers_0 rfl (lv_at hl 0 rfl) ?_
  refine gf_X6_2 X hG (nx_0 n_a) k_a fl_X6_25 dX6_doers_1 ?_
  refine lv_iload_n hx hb dX6_doers_4 rfl (lv_at hl 1 rfl) ?_
  obtain ⟨r1, hcr1, h⟩ := bd_y h
  refine g_cVR (a := (a + 4)) (ci := 5) (T := TX5) (N := 5) (av := [.int v1]) (rest := []) X hG hS (ct_X5_streetAt l z (kx_6_4 k_a) (nx_o (a := a) (k := 4) (n := 119) (c := 44) n_a (Nat.le_of_ble_eq_true rfl)) hcr1) mt_X5_streetAt ml_X6_139 rfl ⟨rfl, rfl, Nat.le_of_ble_eq_true rfl, Nat.le_of_ble_eq_true rfl⟩ ⟨Nat.le_refl 0, Nat.le_refl 0⟩ (nx_0 (nx_o (a := a) (k := 4) (n := 119) (c := 44) n_a (Nat.le_of_ble_eq_true rfl))) (kx_6_4 k_a) (by decide) rfl hl.1 (Nat.le_of_ble_eq_true rfl) rfl dX6_doers_5 (fun H locs hG hS => ?_)
  have h0 := onO_y h
  clear h
  obtain ⟨eq2, h⟩ | ⟨q2, eq2, h⟩ := h0
  · subst eq2
    refine g_rfN ?_
    refine lv_astore_nN (lv' := [(3, .null), (0, .ref (gad z a)), (1, .int v1), (2, .int v2)]) hx hb dX6_doers_8 rfl hl (by decide) rfl (fun ls hl => ?_)
    refine lv_aload_nN hx hb dX6_doers_9 rfl (lv_at hl 0 rfl) ?_
    refine lv_ifnullN (tgt := 24) hx hb dX6_doers_10 (by decide) ?_
    refine lv_aload_n hx hb dX6_doers_24 rfl (lv_at hl 1 rfl) ?_
    refine lv_bipush (v := (-2)) hx hb dX6_doers_25 (by decide) ?_
    obtain ⟨r3, hcr3, h⟩ := bd_y h
    refine g_cVI (a := a) (ci := 6) (T := TX6) (N := 8) (av := [.int (-2)]) (rest := []) X hG hS (ct_X6_refuse l z k_a n_a hcr3) mt_X6_refuse ml_X6_59 rfl ⟨rfl, rfl, Nat.le_of_ble_eq_true rfl, Nat.le_of_ble_eq_true rfl⟩ ⟨Nat.le_refl 0, Nat.le_refl 0⟩ (nx_0 n_a) k_a (by decide) rfl hl.1 (Nat.le_of_ble_eq_true rfl) rfl dX6_doers_27 (fun H locs hG hS => ?_)
    obtain rfl := Option.some.inj h
    exact g_iret X hr hlk hG hS dX6_doers_30
  · subst eq2
    refine g_rfS ?_
    obtain ⟨⟨k_q2, n1_q2⟩, h⟩ := gc_y h
    have n_q2 : q2 + 8 ≤ gn z := Nat.le_trans n1_q2 n_a
    refine lv_astore_n (lv' := [(3, .ref (gad z q2)), (0, .ref (gad z a)), (1, .int v1), (2, .int v2)]) hx hb dX6_doers_8 rfl hl (by decide) rfl (fun ls hl => ?_)
    refine lv_aload_n hx hb dX6_doers_9 rfl (lv_at hl 0 rfl) ?_
    refine lv_ifnull hx hb dX6_doers_10 ?_
    refine lv_iload_n hx hb dX6_doers_13 rfl (lv_at hl 3 rfl) ?_
    refine lv_iconst (v := 0) hx hb dX6_doers_14 (by decide) ?_
    refine lv_sipush (v := 999) hx hb dX6_doers_15 (by decide) ?_
    obtain ⟨r4, hcr4, h⟩ := bd_y h
    refine g_cSI (av := [.int v2, .int 0, .int 999]) (rest := []) X hG hS (ct_X6_isWithin l z  hcr4) mt_X6_isWithin ml_X6_55 rfl ⟨rfl, rfl, Nat.le_of_ble_eq_true rfl, Nat.le_of_ble_eq_true rfl⟩ ⟨Nat.le_refl 0, Nat.le_refl 0⟩ hl.1 (Nat.le_of_ble_eq_true rfl) rfl dX6_doers_18 (fun H locs hG hS => ?_)
    refine lv_if_ne (tgt := 31) hx hb dX6_doers_21 (by decide) (fun q5 => ?_) (fun q5 => ?_)
    · have h := ite_n h q5
      refine lv_iconst (v := 0) hx hb dX6_doers_31 (by decide) ?_
      refine lv_istore (lv' := [(4, .int 0), (3, .ref (gad z q2)), (0, .ref (gad z a)), (1, .int v1), (2, .int v2)]) hx hb dX6_doers_32 hl (by decide) rfl (fun ls hl => ?_)
      refine lv_iconst (v := 0) hx hb dX6_doers_34 (by decide) ?_
      refine lv_istore (lv' := [(5, .int 0), (4, .int 0), (3, .ref (gad z q2)), (0, .ref (gad z a)), (1, .int v1), (2, .int v2)]) hx hb dX6_doers_35 hl (by decide) rfl (fun ls hl => ?_)
      refine wX6_doers_37 X hr hlk k_a n_a k_q2 n_q2 _ _ _ _ _ _ _ h hG hS (lv_sub hl [3, 5, 2, 1, 0] rfl)
    · have h := ite_y h q5
      refine lv_aload_n hx hb dX6_doers_24 rfl (lv_at hl 1 rfl) ?_
      refine lv_bipush (v := (-2)) hx hb dX6_doers_25 (by decide) ?_
      obtain ⟨r25, hcr25, h⟩ := bd_y h
      refine g_cVI (a := a) (ci := 6) (T := TX6) (N := 8) (av := [.int (-2)]) (rest := []) X hG hS (ct_X6_refuse l z k_a n_a hcr25) mt_X6_refuse ml_X6_59 rfl ⟨rfl, rfl, Nat.le_of_ble_eq_true rfl, Nat.le_of_ble_eq_true rfl⟩ ⟨Nat.le_refl 0, Nat.le_refl 0⟩ (nx_0 n_a) k_a (by decide) rfl hl.1 (Nat.le_of_ble_eq_true rfl) rfl dX6_doers_27 (fun H locs hG hS => ?_)
      obtain rfl := Option.some.inj h
      exact g_iret X hr hlk hG hS dX6_doers_30
set_option maxRecDepth 100000 in
set_option maxHeartbeats 4000000 in
theorem wX6_light_38 {N : Nat} {p : Program} {l : Launch} {e : Env} {s : State} {m : MethodId} {args : Array Value} {below : List Frame} {meth : Method} {c : Code} {z : gZ} {M : Mem} {a : Nat} {q2 : Nat} {u2 : Int32} {o : Int32 × Mem} (X : gX p m c cX6_light 6 s args RX6 z) (hr : meth.sig.returnType = (some .int)) (hlk : meth.locks = false) (k_a : kd a = 6) (n_a : a + 119 ≤ gn z) (k_q2 : kd q2 = 4) (n_q2 : q2 + 8 ≤ gn z)  : ∀ (n : Nat) (w4 : Int32) (w5 : Int32) (H : Heap) (locs : List Loc) (ls : Array Slot), fX6_light_38 N M a q2 u2  n w4 w5 = some o → gW z M H → va_S (gA z) s.heap H locs → lv_has ls 6 [(2, .int u2), (3, .ref (gad z q2)), (4, .int w4), (5, .int w5)] → W p l e { frames := 4, cells := 0, slots := 0, locals := 93 } s m args below meth c H locs 0 0 (MQ below (va_Qi (fun r' (_ : Unit) => r' = o.1) (fun _ t => gW z o.2 t.heap) (gA z)) args s 0 0 (gA z)) (F0 m 38 ls []) := by
  have hx := X.1
  have hb := X.2.1
  intro n
  induction n with
  | zero => intro w4 w5 H locs ls h; cases h
  | succ n ih =>
    intro w4 w5 H locs ls h hG hS hl
    rw [fX6_light_38] at h
    refine lv_iload hx hb dX6_light_38 (lv_at hl 3 rfl) ?_
    refine lv_iload_n hx hb dX6_light_40 rfl (lv_at hl 0 rfl) ?_
    refine lv_icmp_gt (tgt := 60) hx hb dX6_light_41 (by decide) (fun q1 => ?_) (fun q1 => ?_)
    · have h := ite_y h q1
      refine lv_iload hx hb dX6_light_60 (lv_at hl 2 rfl) ?_
      obtain rfl := Option.some.inj h
      exact g_iret X hr hlk hG hS dX6_light_62
    · have h := ite_n h q1
      refine lv_aload_n hx hb dX6_light_44 rfl (lv_at hl 1 rfl) ?_
      refine lv_iload hx hb dX6_light_45 (lv_at hl 2 rfl) ?_
      refine lv_iload hx hb dX6_light_47 (lv_at hl 3 rfl) ?_
      obtain ⟨r2, hcr2, h⟩ := bd_y h
      refine g_cVI (a := q2) (ci := 4) (T := TX4) (N := 10) (av := [.int w4, .int w5]) (rest := []) X hG hS (ct_X4_lightAfter l z k_q2 n_q2 hcr2) mt_X4_lightAfter ml_X6_320 rfl ⟨rfl, rfl, Nat.le_of_ble_eq_true rfl, Nat.le_of_ble_eq_true rfl⟩ ⟨Nat.le_refl 0, Nat.le_refl 0⟩ (nx_0 n_q2) k_q2 (by decide) rfl hl.1 (Nat.le_of_ble_eq_true rfl) rfl dX6_light_49 (fun H locs hG hS => ?_)
      refine lv_istore (lv' := [(4, .int r2), (2, .int u2), (3, .ref (gad z q2)), (5, .int w5)]) hx hb dX6_light_52 hl (by decide) rfl (fun ls hl => ?_)
      refine lv_iinc (v := (w5 + 1)) (lv' := [(5, .int (w5 + 1)), (4, .int r2), (2, .int u2), (3, .ref (gad z q2))]) hx hb dX6_light_54 hl (k := 3) rfl rfl (by decide) rfl (fun ls hl => ?_)
      refine lv_goto (tgt := 38) hx hb dX6_light_57 (by decide) ?_
      exact ih r2 (w5 + 1) _ _ _ h hG hS (lv_sub hl [2, 3, 1, 0] rfl)
set_option maxRecDepth 100000 in
set_option maxHeartbeats 4000000 in
theorem ct_X6_light (l : Launch) (z : gZ) {N : Nat} {M : Mem} {a : Nat} {v1 : Int32} {v2 : Int32} {o : Int32 × Mem} (k_a : kd a = 6) (n_a : a + 119 ≤ gn z) (h : fX6_light N M a v1 v2 = some o) : CtI l z yX6_light cX6_light 6 (some .int) { frames := 4, cells := 0, slots := 0, locals := 93 } [.ref (gad z a), .int v1, .int v2] M o.1 o.2 := by
  refine Ct_of rfl (Nat.le_of_ble_eq_true rfl) ?_
  intro p e s m below meth c ls X hr hlk hG hS hl
  have X : gX p m c _ _ s _ RX6 z := X
  have hl : lv_has ls 6 [(0, .ref (gad z a)), (1, .int v1), (2, .int v2)] := hl
  have hx := X.1
  have hb := X.2.1
  unfold fX6_light at h
  refine lv_aload_n hx hb dX6_light_0 rfl (lv_at hl 0 rfl) ?_
  refine gf_X6_2 X hG (nx_0 n_a) k_a fl_X6_25 dX6_light_1 ?_
  refine lv_iload_n hx hb dX6_light_4 rfl (lv_at hl 1 rfl) ?_
  obtain ⟨r1, hcr1, h⟩ := bd_y h
  refine g_cVR (a := (a + 4)) (ci := 5) (T := TX5) (N := 5) (av := [.int v1]) (rest := []) X hG hS (ct_X5_streetAt l z (kx_6_4 k_a) (nx_o (a := a) (k := 4) (n := 119) (c := 44) n_a (Nat.le_of_ble_eq_true rfl)) hcr1) mt_X5_streetAt ml_X6_139 rfl ⟨rfl, rfl, Nat.le_of_ble_eq_true rfl, Nat.le_of_ble_eq_true rfl⟩ ⟨Nat.le_refl 0, Nat.le_refl 0⟩ (nx_0 (nx_o (a := a) (k := 4) (n := 119) (c := 44) n_a (Nat.le_of_ble_eq_true rfl))) (kx_6_4 k_a) (by decide) rfl hl.1 (Nat.le_of_ble_eq_true rfl) rfl dX6_light_5 (fun H locs hG hS => ?_)
  have h0 := onO_y h
  clear h
  obtain ⟨eq2, h⟩ | ⟨q2, eq2, h⟩ := h0
  · subst eq2
    refine g_rfN ?_
    refine lv_astore_nN (lv' := [(3, .null), (0, .ref (gad z a)), (1, .int v1), (2, .int v2)]) hx hb dX6_light_8 rfl hl (by decide) rfl (fun ls hl => ?_)
    refine lv_aload_nN hx hb dX6_light_9 rfl (lv_at hl 0 rfl) ?_
    refine lv_ifnullN (tgt := 23) hx hb dX6_light_10 (by decide) ?_
    refine lv_aload_n hx hb dX6_light_23 rfl (lv_at hl 1 rfl) ?_
    refine lv_bipush (v := (-2)) hx hb dX6_light_24 (by decide) ?_
    obtain ⟨r3, hcr3, h⟩ := bd_y h
    refine g_cVI (a := a) (ci := 6) (T := TX6) (N := 8) (av := [.int (-2)]) (rest := []) X hG hS (ct_X6_refuse l z k_a n_a hcr3) mt_X6_refuse ml_X6_59 rfl ⟨rfl, rfl, Nat.le_of_ble_eq_true rfl, Nat.le_of_ble_eq_true rfl⟩ ⟨Nat.le_refl 0, Nat.le_refl 0⟩ (nx_0 n_a) k_a (by decide) rfl hl.1 (Nat.le_of_ble_eq_true rfl) rfl dX6_light_26 (fun H locs hG hS => ?_)
    obtain rfl := Option.some.inj h
    exact g_iret X hr hlk hG hS dX6_light_29
  · subst eq2
    refine g_rfS ?_
    obtain ⟨⟨k_q2, n1_q2⟩, h⟩ := gc_y h
    have n_q2 : q2 + 8 ≤ gn z := Nat.le_trans n1_q2 n_a
    refine lv_astore_n (lv' := [(3, .ref (gad z q2)), (0, .ref (gad z a)), (1, .int v1), (2, .int v2)]) hx hb dX6_light_8 rfl hl (by decide) rfl (fun ls hl => ?_)
    refine lv_aload_n hx hb dX6_light_9 rfl (lv_at hl 0 rfl) ?_
    refine lv_ifnull hx hb dX6_light_10 ?_
    refine lv_iload_n hx hb dX6_light_13 rfl (lv_at hl 3 rfl) ?_
    refine lv_iconst (v := 1) hx hb dX6_light_14 (by decide) ?_
    refine lv_bipush (v := 99) hx hb dX6_light_15 (by decide) ?_
    obtain ⟨r4, hcr4, h⟩ := bd_y h
    refine g_cSI (av := [.int v2, .int 1, .int 99]) (rest := []) X hG hS (ct_X6_isWithin l z  hcr4) mt_X6_isWithin ml_X6_55 rfl ⟨rfl, rfl, Nat.le_of_ble_eq_true rfl, Nat.le_of_ble_eq_true rfl⟩ ⟨Nat.le_refl 0, Nat.le_refl 0⟩ hl.1 (Nat.le_of_ble_eq_true rfl) rfl dX6_light_17 (fun H locs hG hS => ?_)
    refine lv_if_ne (tgt := 30) hx hb dX6_light_20 (by decide) (fun q5 => ?_) (fun q5 => ?_)
    · have h := ite_n h q5
      refine lv_ldcw (v := 1000000) hx hb X.2.2.2.1 (X.2.2.2.2.1 _ cn_X6_319) dX6_light_30 ?_
      refine lv_istore (lv' := [(4, .int 1000000), (3, .ref (gad z q2)), (0, .ref (gad z a)), (1, .int v1), (2, .int v2)]) hx hb dX6_light_33 hl (by decide) rfl (fun ls hl => ?_)
      refine lv_iconst (v := 1) hx hb dX6_light_35 (by decide) ?_
      refine lv_istore (lv' := [(5, .int 1), (4, .int 1000000), (3, .ref (gad z q2)), (0, .ref (gad z a)), (1, .int v1), (2, .int v2)]) hx hb dX6_light_36 hl (by decide) rfl (fun ls hl => ?_)
      refine wX6_light_38 X hr hlk k_a n_a k_q2 n_q2 _ _ _ _ _ _ h hG hS (lv_sub hl [5, 2, 1, 0] rfl)
    · have h := ite_y h q5
      refine lv_aload_n hx hb dX6_light_23 rfl (lv_at hl 1 rfl) ?_
      refine lv_bipush (v := (-2)) hx hb dX6_light_24 (by decide) ?_
      obtain ⟨r6, hcr6, h⟩ := bd_y h
      refine g_cVI (a := a) (ci := 6) (T := TX6) (N := 8) (av := [.int (-2)]) (rest := []) X hG hS (ct_X6_refuse l z k_a n_a hcr6) mt_X6_refuse ml_X6_59 rfl ⟨rfl, rfl, Nat.le_of_ble_eq_true rfl, Nat.le_of_ble_eq_true rfl⟩ ⟨Nat.le_refl 0, Nat.le_refl 0⟩ (nx_0 n_a) k_a (by decide) rfl hl.1 (Nat.le_of_ble_eq_true rfl) rfl dX6_light_26 (fun H locs hG hS => ?_)
      obtain rfl := Option.some.inj h
      exact g_iret X hr hlk hG hS dX6_light_29
set_option maxRecDepth 100000 in
set_option maxHeartbeats 4000000 in
theorem ct_X6_begin (l : Launch) (z : gZ) {N : Nat} {M : Mem} {a : Nat} {v1 : Int32} {o : Int32 × Mem} (k_a : kd a = 6) (n_a : a + 119 ≤ gn z) (h : fX6_begin N M a v1 = some o) : CtI l z yX6_begin cX6_begin 3 (some .int) { frames := 3, cells := 0, slots := 0, locals := 73 } [.ref (gad z a), .int v1] M o.1 o.2 := by
  refine Ct_of rfl (Nat.le_of_ble_eq_true rfl) ?_
  intro p e s m below meth c ls X hr hlk hG hS hl
  have X : gX p m c _ _ s _ RX6 z := X
  have hl : lv_has ls 3 [(0, .ref (gad z a)), (1, .int v1)] := hl
  have hx := X.1
  have hb := X.2.1
  unfold fX6_begin at h
  refine lv_aload_n hx hb dX6_begin_0 rfl (lv_at hl 0 rfl) ?_
  refine gf_X6_2 X hG (nx_0 n_a) k_a fl_X6_25 dX6_begin_1 ?_
  refine lv_iload_n hx hb dX6_begin_4 rfl (lv_at hl 1 rfl) ?_
  obtain ⟨r1, hcr1, h⟩ := bd_y h
  refine g_cVR (a := (a + 4)) (ci := 5) (T := TX5) (N := 5) (av := [.int v1]) (rest := []) X hG hS (ct_X5_streetAt l z (kx_6_4 k_a) (nx_o (a := a) (k := 4) (n := 119) (c := 44) n_a (Nat.le_of_ble_eq_true rfl)) hcr1) mt_X5_streetAt ml_X6_139 rfl ⟨rfl, rfl, Nat.le_of_ble_eq_true rfl, Nat.le_of_ble_eq_true rfl⟩ ⟨Nat.le_refl 0, Nat.le_refl 0⟩ (nx_0 (nx_o (a := a) (k := 4) (n := 119) (c := 44) n_a (Nat.le_of_ble_eq_true rfl))) (kx_6_4 k_a) (by decide) rfl hl.1 (Nat.le_of_ble_eq_true rfl) rfl dX6_begin_5 (fun H locs hG hS => ?_)
  have h0 := onO_y h
  clear h
  obtain ⟨eq2, h⟩ | ⟨q2, eq2, h⟩ := h0
  · subst eq2
    refine g_rfN ?_
    refine lv_astore_nN (lv' := [(2, .null), (0, .ref (gad z a)), (1, .int v1)]) hx hb dX6_begin_8 rfl hl (by decide) rfl (fun ls hl => ?_)
    refine lv_aload_nN hx hb dX6_begin_9 rfl (lv_at hl 0 rfl) ?_
    refine lv_ifnonnullN hx hb dX6_begin_10 ?_
    refine lv_aload_n hx hb dX6_begin_13 rfl (lv_at hl 1 rfl) ?_
    refine lv_bipush (v := (-2)) hx hb dX6_begin_14 (by decide) ?_
    obtain ⟨r3, hcr3, h⟩ := bd_y h
    refine g_cVI (a := a) (ci := 6) (T := TX6) (N := 8) (av := [.int (-2)]) (rest := []) X hG hS (ct_X6_refuse l z k_a n_a hcr3) mt_X6_refuse ml_X6_59 rfl ⟨rfl, rfl, Nat.le_of_ble_eq_true rfl, Nat.le_of_ble_eq_true rfl⟩ ⟨Nat.le_refl 0, Nat.le_refl 0⟩ (nx_0 n_a) k_a (by decide) rfl hl.1 (Nat.le_of_ble_eq_true rfl) rfl dX6_begin_16 (fun H locs hG hS => ?_)
    obtain rfl := Option.some.inj h
    exact g_iret X hr hlk hG hS dX6_begin_19
  · subst eq2
    refine g_rfS ?_
    obtain ⟨⟨k_q2, n1_q2⟩, h⟩ := gc_y h
    have n_q2 : q2 + 8 ≤ gn z := Nat.le_trans n1_q2 n_a
    refine lv_astore_n (lv' := [(2, .ref (gad z q2)), (0, .ref (gad z a)), (1, .int v1)]) hx hb dX6_begin_8 rfl hl (by decide) rfl (fun ls hl => ?_)
    refine lv_aload_n hx hb dX6_begin_9 rfl (lv_at hl 0 rfl) ?_
    refine lv_ifnonnull (tgt := 20) hx hb dX6_begin_10 (by decide) ?_
    refine lv_aload_n hx hb dX6_begin_20 rfl (lv_at hl 1 rfl) ?_
    refine gf_X6_2 X hG (nx_0 n_a) k_a fl_X6_25 dX6_begin_21 ?_
    refine gf_X5_2 X hG (nx_0 (nx_o (a := a) (k := 4) (n := 119) (c := 44) n_a (Nat.le_of_ble_eq_true rfl))) (kx_6_4 k_a) fl_X6_326 dX6_begin_24 ?_
    refine lv_aload_n hx hb dX6_begin_27 rfl (lv_at hl 0 rfl) ?_
    refine lv_iload_n hx hb dX6_begin_28 rfl (lv_at hl 2 rfl) ?_
    obtain ⟨r4, hcr4, h⟩ := bd_y h
    refine g_cVV (a := ((a + 4) + 3)) (ci := 2) (T := TX2) (N := 6) (av := [.ref (gad z q2), .int v1]) (rest := []) X hG hS (ct_X2_start l z (kx_5_3 (kx_6_4 k_a)) (nx_o (a := (a + 4)) (k := 3) (n := 44) (c := 9) (nx_o (a := a) (k := 4) (n := 119) (c := 44) n_a (Nat.le_of_ble_eq_true rfl)) (Nat.le_of_ble_eq_true rfl)) k_q2 n_q2 hcr4) mt_X2_start ml_X6_330 rfl ⟨rfl, rfl, Nat.le_of_ble_eq_true rfl, Nat.le_of_ble_eq_true rfl⟩ ⟨Nat.le_refl 0, Nat.le_refl 0⟩ (nx_0 (nx_o (a := (a + 4)) (k := 3) (n := 44) (c := 9) (nx_o (a := a) (k := 4) (n := 119) (c := 44) n_a (Nat.le_of_ble_eq_true rfl)) (Nat.le_of_ble_eq_true rfl))) (kx_5_3 (kx_6_4 k_a)) (by decide) rfl hl.1 (Nat.le_of_ble_eq_true rfl) rfl dX6_begin_29 (fun H locs hG hS => ?_)
    refine lv_aload_n hx hb dX6_begin_32 rfl (lv_at hl 0 rfl) ?_
    obtain ⟨r5, hcr5, h⟩ := bd_y h
    refine g_cVI (a := q2) (ci := 4) (T := TX4) (N := 10) (av := []) (rest := []) X hG hS (ct_X4_sets l z k_q2 n_q2 hcr5) mt_X4_sets ml_X6_334 rfl ⟨rfl, rfl, Nat.le_of_ble_eq_true rfl, Nat.le_of_ble_eq_true rfl⟩ ⟨Nat.le_refl 0, Nat.le_refl 0⟩ (nx_0 n_q2) k_q2 (by decide) rfl hl.1 (Nat.le_of_ble_eq_true rfl) rfl dX6_begin_33 (fun H locs hG hS => ?_)
    obtain rfl := Option.some.inj h
    exact g_iret X hr hlk hG hS dX6_begin_36
set_option maxRecDepth 100000 in
set_option maxHeartbeats 4000000 in
theorem ct_X6_step (l : Launch) (z : gZ) {N : Nat} {M : Mem} {a : Nat} {v1 : Int32} {o : Int32 × Mem} (k_a : kd a = 6) (n_a : a + 119 ≤ gn z) (h : fX6_step N M a v1 = some o) : CtI l z yX6_step cX6_step 2 (some .int) { frames := 5, cells := 0, slots := 0, locals := 112 } [.ref (gad z a), .int v1] M o.1 o.2 := by
  refine Ct_of rfl (Nat.le_of_ble_eq_true rfl) ?_
  intro p e s m below meth c ls X hr hlk hG hS hl
  have X : gX p m c _ _ s _ RX6 z := X
  have hl : lv_has ls 2 [(0, .ref (gad z a)), (1, .int v1)] := hl
  have hx := X.1
  have hb := X.2.1
  unfold fX6_step at h
  refine lv_iload_n hx hb dX6_step_0 rfl (lv_at hl 1 rfl) ?_
  refine lv_iconst (v := 1) hx hb dX6_step_1 (by decide) ?_
  refine lv_sipush (v := 999) hx hb dX6_step_2 (by decide) ?_
  obtain ⟨r1, hcr1, h⟩ := bd_y h
  refine g_cSI (av := [.int v1, .int 1, .int 999]) (rest := []) X hG hS (ct_X6_isWithin l z  hcr1) mt_X6_isWithin ml_X6_55 rfl ⟨rfl, rfl, Nat.le_of_ble_eq_true rfl, Nat.le_of_ble_eq_true rfl⟩ ⟨Nat.le_refl 0, Nat.le_refl 0⟩ hl.1 (Nat.le_of_ble_eq_true rfl) rfl dX6_step_5 (fun H locs hG hS => ?_)
  refine lv_if_ne (tgt := 18) hx hb dX6_step_8 (by decide) (fun q2 => ?_) (fun q2 => ?_)
  · have h := ite_n h q2
    refine lv_aload_n hx hb dX6_step_18 rfl (lv_at hl 0 rfl) ?_
    refine gf_X6_2 X hG (nx_0 n_a) k_a fl_X6_25 dX6_step_19 ?_
    refine gf_X5_2 X hG (nx_0 (nx_o (a := a) (k := 4) (n := 119) (c := 44) n_a (Nat.le_of_ble_eq_true rfl))) (kx_6_4 k_a) fl_X6_326 dX6_step_22 ?_
    refine gf_X2_1 X hG (nx_0 (nx_o (a := (a + 4)) (k := 3) (n := 44) (c := 9) (nx_o (a := a) (k := 4) (n := 119) (c := 44) n_a (Nat.le_of_ble_eq_true rfl)) (Nat.le_of_ble_eq_true rfl))) (kx_5_3 (kx_6_4 k_a)) fl_X6_337 dX6_step_25 ?_
    refine lv_if_eq (tgt := 44) hx hb dX6_step_28 (by decide) (fun q3 => ?_) (fun q3 => ?_)
    · have h := ite_y h q3
      refine lv_aload_n hx hb dX6_step_44 rfl (lv_at hl 0 rfl) ?_
      refine lv_bipush (v := (-5)) hx hb dX6_step_45 (by decide) ?_
      obtain ⟨r4, hcr4, h⟩ := bd_y h
      refine g_cVI (a := a) (ci := 6) (T := TX6) (N := 8) (av := [.int (-5)]) (rest := []) X hG hS (ct_X6_refuse l z k_a n_a hcr4) mt_X6_refuse ml_X6_59 rfl ⟨rfl, rfl, Nat.le_of_ble_eq_true rfl, Nat.le_of_ble_eq_true rfl⟩ ⟨Nat.le_refl 0, Nat.le_refl 0⟩ (nx_0 n_a) k_a (by decide) rfl hl.1 (Nat.le_of_ble_eq_true rfl) rfl dX6_step_47 (fun H locs hG hS => ?_)
      obtain rfl := Option.some.inj h
      exact g_iret X hr hlk hG hS dX6_step_50
    · have h := ite_n h q3
      refine lv_aload_n hx hb dX6_step_31 rfl (lv_at hl 0 rfl) ?_
      refine gf_X6_2 X hG (nx_0 n_a) k_a fl_X6_25 dX6_step_32 ?_
      refine gf_X5_2 X hG (nx_0 (nx_o (a := a) (k := 4) (n := 119) (c := 44) n_a (Nat.le_of_ble_eq_true rfl))) (kx_6_4 k_a) fl_X6_326 dX6_step_35 ?_
      obtain ⟨r5, hcr5, h⟩ := bd_y h
      refine g_cVI (a := ((a + 4) + 3)) (ci := 2) (T := TX2) (N := 6) (av := []) (rest := []) X hG hS (ct_X2_isDone l z (kx_5_3 (kx_6_4 k_a)) (nx_o (a := (a + 4)) (k := 3) (n := 44) (c := 9) (nx_o (a := a) (k := 4) (n := 119) (c := 44) n_a (Nat.le_of_ble_eq_true rfl)) (Nat.le_of_ble_eq_true rfl)) hcr5) mt_X2_isDone ml_X6_341 rfl ⟨rfl, rfl, Nat.le_of_ble_eq_true rfl, Nat.le_of_ble_eq_true rfl⟩ ⟨Nat.le_refl 0, Nat.le_refl 0⟩ (nx_0 (nx_o (a := (a + 4)) (k := 3) (n := 44) (c := 9) (nx_o (a := a) (k := 4) (n := 119) (c := 44) n_a (Nat.le_of_ble_eq_true rfl)) (Nat.le_of_ble_eq_true rfl))) (kx_5_3 (kx_6_4 k_a)) (by decide) rfl hl.1 (Nat.le_of_ble_eq_true rfl) rfl dX6_step_38 (fun H locs hG hS => ?_)
      refine lv_if_eq (tgt := 51) hx hb dX6_step_41 (by decide) (fun q6 => ?_) (fun q6 => ?_)
      · have h := ite_y h q6
        refine lv_aload_n hx hb dX6_step_51 rfl (lv_at hl 0 rfl) ?_
        refine gf_X6_2 X hG (nx_0 n_a) k_a fl_X6_25 dX6_step_52 ?_
        refine gf_X5_2 X hG (nx_0 (nx_o (a := a) (k := 4) (n := 119) (c := 44) n_a (Nat.le_of_ble_eq_true rfl))) (kx_6_4 k_a) fl_X6_326 dX6_step_55 ?_
        refine lv_iload_n hx hb dX6_step_58 rfl (lv_at hl 1 rfl) ?_
        obtain ⟨r7, hcr7, h⟩ := bd_y h
        refine g_cVI (a := ((a + 4) + 3)) (ci := 2) (T := TX2) (N := 6) (av := [.int v1]) (rest := []) X hG hS (ct_X2_advance l z (kx_5_3 (kx_6_4 k_a)) (nx_o (a := (a + 4)) (k := 3) (n := 44) (c := 9) (nx_o (a := a) (k := 4) (n := 119) (c := 44) n_a (Nat.le_of_ble_eq_true rfl)) (Nat.le_of_ble_eq_true rfl)) hcr7) mt_X2_advance ml_X6_344 rfl ⟨rfl, rfl, Nat.le_of_ble_eq_true rfl, Nat.le_of_ble_eq_true rfl⟩ ⟨Nat.le_refl 0, Nat.le_refl 0⟩ (nx_0 (nx_o (a := (a + 4)) (k := 3) (n := 44) (c := 9) (nx_o (a := a) (k := 4) (n := 119) (c := 44) n_a (Nat.le_of_ble_eq_true rfl)) (Nat.le_of_ble_eq_true rfl))) (kx_5_3 (kx_6_4 k_a)) (by decide) rfl hl.1 (Nat.le_of_ble_eq_true rfl) rfl dX6_step_59 (fun H locs hG hS => ?_)
        obtain rfl := Option.some.inj h
        exact g_iret X hr hlk hG hS dX6_step_62
      · have h := ite_n h q6
        refine lv_aload_n hx hb dX6_step_44 rfl (lv_at hl 0 rfl) ?_
        refine lv_bipush (v := (-5)) hx hb dX6_step_45 (by decide) ?_
        obtain ⟨r8, hcr8, h⟩ := bd_y h
        refine g_cVI (a := a) (ci := 6) (T := TX6) (N := 8) (av := [.int (-5)]) (rest := []) X hG hS (ct_X6_refuse l z k_a n_a hcr8) mt_X6_refuse ml_X6_59 rfl ⟨rfl, rfl, Nat.le_of_ble_eq_true rfl, Nat.le_of_ble_eq_true rfl⟩ ⟨Nat.le_refl 0, Nat.le_refl 0⟩ (nx_0 n_a) k_a (by decide) rfl hl.1 (Nat.le_of_ble_eq_true rfl) rfl dX6_step_47 (fun H locs hG hS => ?_)
        obtain rfl := Option.some.inj h
        exact g_iret X hr hlk hG hS dX6_step_50
  · have h := ite_y h q2
    refine lv_aload_n hx hb dX6_step_11 rfl (lv_at hl 0 rfl) ?_
    refine lv_bipush (v := (-2)) hx hb dX6_step_12 (by decide) ?_
    obtain ⟨r9, hcr9, h⟩ := bd_y h
    refine g_cVI (a := a) (ci := 6) (T := TX6) (N := 8) (av := [.int (-2)]) (rest := []) X hG hS (ct_X6_refuse l z k_a n_a hcr9) mt_X6_refuse ml_X6_59 rfl ⟨rfl, rfl, Nat.le_of_ble_eq_true rfl, Nat.le_of_ble_eq_true rfl⟩ ⟨Nat.le_refl 0, Nat.le_refl 0⟩ (nx_0 n_a) k_a (by decide) rfl hl.1 (Nat.le_of_ble_eq_true rfl) rfl dX6_step_14 (fun H locs hG hS => ?_)
    obtain rfl := Option.some.inj h
    exact g_iret X hr hlk hG hS dX6_step_17
set_option maxRecDepth 100000 in
set_option maxHeartbeats 4000000 in
theorem ct_X6_image (l : Launch) (z : gZ) {N : Nat} {M : Mem} {a : Nat} {o : Int32 × Mem} (k_a : kd a = 6) (n_a : a + 119 ≤ gn z) (h : fX6_image N M a = some o) : CtI l z yX6_image cX6_image 1 (some .int) { frames := 4, cells := 0, slots := 0, locals := 94 } [.ref (gad z a)] M o.1 o.2 := by
  refine Ct_of rfl (Nat.le_of_ble_eq_true rfl) ?_
  intro p e s m below meth c ls X hr hlk hG hS hl
  have X : gX p m c _ _ s _ RX6 z := X
  have hl : lv_has ls 1 [(0, .ref (gad z a))] := hl
  have hx := X.1
  have hb := X.2.1
  unfold fX6_image at h
  refine lv_aload_n hx hb dX6_image_0 rfl (lv_at hl 0 rfl) ?_
  refine gf_X6_3 X hG (nx_0 n_a) k_a fl_X6_29 dX6_image_1 ?_
  refine lv_aload_n hx hb dX6_image_4 rfl (lv_at hl 0 rfl) ?_
  refine gf_X6_2 X hG (nx_0 n_a) k_a fl_X6_25 dX6_image_5 ?_
  obtain ⟨r1, hcr1, h⟩ := bd_y h
  refine g_cVV (a := (a + 48)) (ci := 5) (T := TX5) (N := 5) (av := [.ref (gad z (a + 4))]) (rest := []) X hG hS (ct_X5_become l z (kx_6_48 k_a) (nx_o (a := a) (k := 48) (n := 119) (c := 44) n_a (Nat.le_of_ble_eq_true rfl)) (kx_6_4 k_a) (nx_o (a := a) (k := 4) (n := 119) (c := 44) n_a (Nat.le_of_ble_eq_true rfl)) hcr1) mt_X5_become ml_X6_359 rfl ⟨rfl, rfl, Nat.le_of_ble_eq_true rfl, Nat.le_of_ble_eq_true rfl⟩ ⟨Nat.le_refl 0, Nat.le_refl 0⟩ (nx_0 (nx_o (a := a) (k := 48) (n := 119) (c := 44) n_a (Nat.le_of_ble_eq_true rfl))) (kx_6_48 k_a) (by decide) rfl hl.1 (Nat.le_of_ble_eq_true rfl) rfl dX6_image_8 (fun H locs hG hS => ?_)
  refine lv_aload_n hx hb dX6_image_11 rfl (lv_at hl 0 rfl) ?_
  refine lv_iconst (v := 1) hx hb dX6_image_12 (by decide) ?_
  refine pf_X6_7 X hG hS (by decide) (nx_0 n_a) k_a fl_X6_362 dX6_image_13 (fun H locs hG hS => ?_)
  obtain ⟨M2, eM2⟩ : ∃ y, y = sI r1 a 7 1 := ⟨_, rfl⟩
  rw [← eM2] at hG
  have h := nm_y h M2 eM2
  refine lv_iconst (v := 1) hx hb dX6_image_16 (by decide) ?_
  obtain rfl := Option.some.inj h
  exact g_iret X hr hlk hG hS dX6_image_17
set_option maxRecDepth 100000 in
set_option maxHeartbeats 4000000 in
theorem ct_X6_back (l : Launch) (z : gZ) {N : Nat} {M : Mem} {a : Nat} {o : Int32 × Mem} (k_a : kd a = 6) (n_a : a + 119 ≤ gn z) (h : fX6_back N M a = some o) : CtI l z yX6_back cX6_back 1 (some .int) { frames := 4, cells := 0, slots := 0, locals := 94 } [.ref (gad z a)] M o.1 o.2 := by
  refine Ct_of rfl (Nat.le_of_ble_eq_true rfl) ?_
  intro p e s m below meth c ls X hr hlk hG hS hl
  have X : gX p m c _ _ s _ RX6 z := X
  have hl : lv_has ls 1 [(0, .ref (gad z a))] := hl
  have hx := X.1
  have hb := X.2.1
  unfold fX6_back at h
  refine lv_aload_n hx hb dX6_back_0 rfl (lv_at hl 0 rfl) ?_
  refine gf_X6_7 X hG (nx_0 n_a) k_a fl_X6_362 dX6_back_1 ?_
  refine lv_if_ne (tgt := 14) hx hb dX6_back_4 (by decide) (fun q1 => ?_) (fun q1 => ?_)
  · have h := ite_n h q1
    refine lv_aload_n hx hb dX6_back_14 rfl (lv_at hl 0 rfl) ?_
    refine gf_X6_2 X hG (nx_0 n_a) k_a fl_X6_25 dX6_back_15 ?_
    refine lv_aload_n hx hb dX6_back_18 rfl (lv_at hl 0 rfl) ?_
    refine gf_X6_3 X hG (nx_0 n_a) k_a fl_X6_29 dX6_back_19 ?_
    obtain ⟨r2, hcr2, h⟩ := bd_y h
    refine g_cVV (a := (a + 4)) (ci := 5) (T := TX5) (N := 5) (av := [.ref (gad z (a + 48))]) (rest := []) X hG hS (ct_X5_become l z (kx_6_4 k_a) (nx_o (a := a) (k := 4) (n := 119) (c := 44) n_a (Nat.le_of_ble_eq_true rfl)) (kx_6_48 k_a) (nx_o (a := a) (k := 48) (n := 119) (c := 44) n_a (Nat.le_of_ble_eq_true rfl)) hcr2) mt_X5_become ml_X6_359 rfl ⟨rfl, rfl, Nat.le_of_ble_eq_true rfl, Nat.le_of_ble_eq_true rfl⟩ ⟨Nat.le_refl 0, Nat.le_refl 0⟩ (nx_0 (nx_o (a := a) (k := 4) (n := 119) (c := 44) n_a (Nat.le_of_ble_eq_true rfl))) (kx_6_4 k_a) (by decide) rfl hl.1 (Nat.le_of_ble_eq_true rfl) rfl dX6_back_22 (fun H locs hG hS => ?_)
    refine lv_iconst (v := 1) hx hb dX6_back_25 (by decide) ?_
    obtain rfl := Option.some.inj h
    exact g_iret X hr hlk hG hS dX6_back_26
  · have h := ite_y h q1
    refine lv_aload_n hx hb dX6_back_7 rfl (lv_at hl 0 rfl) ?_
    refine lv_bipush (v := (-5)) hx hb dX6_back_8 (by decide) ?_
    obtain ⟨r3, hcr3, h⟩ := bd_y h
    refine g_cVI (a := a) (ci := 6) (T := TX6) (N := 8) (av := [.int (-5)]) (rest := []) X hG hS (ct_X6_refuse l z k_a n_a hcr3) mt_X6_refuse ml_X6_59 rfl ⟨rfl, rfl, Nat.le_of_ble_eq_true rfl, Nat.le_of_ble_eq_true rfl⟩ ⟨Nat.le_refl 0, Nat.le_refl 0⟩ (nx_0 n_a) k_a (by decide) rfl hl.1 (Nat.le_of_ble_eq_true rfl) rfl dX6_back_10 (fun H locs hG hS => ?_)
    obtain rfl := Option.some.inj h
    exact g_iret X hr hlk hG hS dX6_back_13
set_option maxRecDepth 100000 in
set_option maxHeartbeats 4000000 in
theorem wX6_shelvesInUse_4 {N : Nat} {p : Program} {l : Launch} {e : Env} {s : State} {m : MethodId} {args : Array Value} {below : List Frame} {meth : Method} {c : Code} {z : gZ} {M : Mem} {a : Nat} {o : Int32} (X : gX p m c cX6_shelvesInUse 3 s args RX6 z) (hr : meth.sig.returnType = (some .int)) (hlk : meth.locks = false) (k_a : kd a = 6) (n_a : a + 119 ≤ gn z)  : ∀ (n : Nat) (w1 : Int32) (w2 : Int32) (H : Heap) (locs : List Loc) (ls : Array Slot), fX6_shelvesInUse_4 N M a  n w1 w2 = some o → gW z M H → va_S (gA z) s.heap H locs → lv_has ls 3 [(0, .ref (gad z a)), (1, .int w1), (2, .int w2)] → W p l e { frames := 0, cells := 0, slots := 0, locals := 0 } s m args below meth c H locs 0 0 (MQ below (va_Qi (fun r' (_ : Unit) => r' = o) (fun _ t => gW z M t.heap) (gA z)) args s 0 0 (gA z)) (F0 m 4 ls []) := by
  have hx := X.1
  have hb := X.2.1
  intro n
  induction n with
  | zero => intro w1 w2 H locs ls h; cases h
  | succ n ih =>
    intro w1 w2 H locs ls h hG hS hl
    rw [fX6_shelvesInUse_4] at h
    refine lv_iload_n hx hb dX6_shelvesInUse_4 rfl (lv_at hl 2 rfl) ?_
    refine lv_bipush (v := 8) hx hb dX6_shelvesInUse_5 (by decide) ?_
    refine lv_icmp_ge (tgt := 32) hx hb dX6_shelvesInUse_7 (by decide) (fun q1 => ?_) (fun q1 => ?_)
    · have h := ite_y h q1
      refine lv_iload_n hx hb dX6_shelvesInUse_32 rfl (lv_at hl 1 rfl) ?_
      obtain rfl := Option.some.inj h
      exact g_iret X hr hlk hG hS dX6_shelvesInUse_33
    · have h := ite_n h q1
      refine lv_aload_n hx hb dX6_shelvesInUse_10 rfl (lv_at hl 0 rfl) ?_
      refine gf_X6_0 X hG (nx_0 n_a) k_a fl_X6_11 dX6_shelvesInUse_11 ?_
      refine lv_iload_n hx hb dX6_shelvesInUse_14 rfl (lv_at hl 2 rfl) ?_
      obtain ⟨i2, h⟩ := gd_y h
      refine g_aldH X hG (nx_a (a := a) (k := 1) (n := 119) n_a (Nat.le_of_ble_eq_true rfl)) (kx_6_1 k_a) (by decide) i2 dX6_shelvesInUse_15 ?_
      refine gf_X3_1 X hG (nx_0 (nH8 n_a i2)) (kH8 (kx_6_1 k_a) i2) fl_X6_82 dX6_shelvesInUse_16 ?_
      refine lv_iconst (v := (-1)) hx hb dX6_shelvesInUse_19 (by decide) ?_
      refine lv_icmp_eq (tgt := 26) hx hb dX6_shelvesInUse_20 (by decide) (fun q3 => ?_) (fun q3 => ?_)
      · have h := ite_y h q3
        refine lv_iinc (v := (w2 + 1)) (lv' := [(2, .int (w2 + 1)), (0, .ref (gad z a)), (1, .int w1)]) hx hb dX6_shelvesInUse_26 hl (k := 2) rfl rfl (by decide) rfl (fun ls hl => ?_)
        refine lv_goto (tgt := 4) hx hb dX6_shelvesInUse_29 (by decide) ?_
        exact ih w1 (w2 + 1) _ _ _ h hG hS (lv_sub hl [1, 2, 0] rfl)
      · have h := ite_n h q3
        refine lv_iinc (v := (w1 + 1)) (lv' := [(1, .int (w1 + 1)), (0, .ref (gad z a)), (2, .int w2)]) hx hb dX6_shelvesInUse_23 hl (k := 1) rfl rfl (by decide) rfl (fun ls hl => ?_)
        refine lv_iinc (v := (w2 + 1)) (lv' := [(2, .int (w2 + 1)), (1, .int (w1 + 1)), (0, .ref (gad z a))]) hx hb dX6_shelvesInUse_26 hl (k := 2) rfl rfl (by decide) rfl (fun ls hl => ?_)
        refine lv_goto (tgt := 4) hx hb dX6_shelvesInUse_29 (by decide) ?_
        exact ih (w1 + 1) (w2 + 1) _ _ _ h hG hS (lv_sub hl [2, 1, 0] rfl)
set_option maxRecDepth 100000 in
set_option maxHeartbeats 4000000 in
theorem ct_X6_shelvesInUse (l : Launch) (z : gZ) {N : Nat} {M : Mem} {a : Nat} {o : Int32} (k_a : kd a = 6) (n_a : a + 119 ≤ gn z) (h : fX6_shelvesInUse N M a = some o) : CtI l z yX6_shelvesInUse cX6_shelvesInUse 3 (some .int) { frames := 0, cells := 0, slots := 0, locals := 0 } [.ref (gad z a)] M o M := by
  refine Ct_of rfl (Nat.le_of_ble_eq_true rfl) ?_
  intro p e s m below meth c ls X hr hlk hG hS hl
  have X : gX p m c _ _ s _ RX6 z := X
  have hl : lv_has ls 3 [(0, .ref (gad z a))] := hl
  have hx := X.1
  have hb := X.2.1
  unfold fX6_shelvesInUse at h
  refine lv_iconst (v := 0) hx hb dX6_shelvesInUse_0 (by decide) ?_
  refine lv_istore_n (lv' := [(1, .int 0), (0, .ref (gad z a))]) hx hb dX6_shelvesInUse_1 rfl hl (by decide) rfl (fun ls hl => ?_)
  refine lv_iconst (v := 0) hx hb dX6_shelvesInUse_2 (by decide) ?_
  refine lv_istore_n (lv' := [(2, .int 0), (1, .int 0), (0, .ref (gad z a))]) hx hb dX6_shelvesInUse_3 rfl hl (by decide) rfl (fun ls hl => ?_)
  refine wX6_shelvesInUse_4 X hr hlk k_a n_a _ _ _ _ _ _ h hG hS (lv_sub hl [2, 1, 0] rfl)
set_option maxRecDepth 100000 in
set_option maxHeartbeats 4000000 in
theorem ct_X6_status (l : Launch) (z : gZ) {N : Nat} {M : Mem} {a : Nat} {v1 : Int32} {o : Int32} (k_a : kd a = 6) (n_a : a + 119 ≤ gn z) (h : fX6_status N M a v1 = some o) : CtI l z yX6_status cX6_status 2 (some .int) { frames := 1, cells := 0, slots := 0, locals := 22 } [.ref (gad z a), .int v1] M o M := by
  refine Ct_of rfl (Nat.le_of_ble_eq_true rfl) ?_
  intro p e s m below meth c ls X hr hlk hG hS hl
  have X : gX p m c _ _ s _ RX6 z := X
  have hl : lv_has ls 2 [(0, .ref (gad z a)), (1, .int v1)] := hl
  have hx := X.1
  have hb := X.2.1
  unfold fX6_status at h
  refine lv_iload_n hx hb dX6_status_0 rfl (lv_at hl 1 rfl) ?_
  by_cases q1 : v1 = 0
  · have h := ite_y h q1
    refine lv_tableIn (tgt := 32) hx hb dX6_status_1 (by rw [q1]; decide) (by rw [q1]; decide) (by rw [q1]; rfl) (by decide) ?_
    refine lv_aload_n hx hb dX6_status_32 rfl (lv_at hl 0 rfl) ?_
    refine gf_X6_2 X hG (nx_0 n_a) k_a fl_X6_25 dX6_status_33 ?_
    refine gf_X5_3 X hG (nx_0 (nx_o (a := a) (k := 4) (n := 119) (c := 44) n_a (Nat.le_of_ble_eq_true rfl))) (kx_6_4 k_a) fl_X6_138 dX6_status_36 ?_
    obtain rfl := Option.some.inj h
    exact g_iret X hr hlk hG hS dX6_status_39
  · have h := ite_n h q1
    by_cases q2 : v1 = 1
    · have h := ite_y h q2
      refine lv_tableIn (tgt := 40) hx hb dX6_status_1 (by rw [q2]; decide) (by rw [q2]; decide) (by rw [q2]; rfl) (by decide) ?_
      refine lv_aload_n hx hb dX6_status_40 rfl (lv_at hl 0 rfl) ?_
      refine gf_X6_1 X hG (nx_0 n_a) k_a fl_X6_18 dX6_status_41 ?_
      refine gf_X1_1 X hG (nx_0 (nx_o (a := a) (k := 2) (n := 119) (c := 2) n_a (Nat.le_of_ble_eq_true rfl))) (kx_6_2 k_a) fl_X6_117 dX6_status_44 ?_
      obtain rfl := Option.some.inj h
      exact g_iret X hr hlk hG hS dX6_status_47
    · have h := ite_n h q2
      by_cases q3 : v1 = 2
      · have h := ite_y h q3
        refine lv_tableIn (tgt := 48) hx hb dX6_status_1 (by rw [q3]; decide) (by rw [q3]; decide) (by rw [q3]; rfl) (by decide) ?_
        refine lv_aload_n hx hb dX6_status_48 rfl (lv_at hl 0 rfl) ?_
        refine gf_X6_2 X hG (nx_0 n_a) k_a fl_X6_25 dX6_status_49 ?_
        refine gf_X5_4 X hG (nx_0 (nx_o (a := a) (k := 4) (n := 119) (c := 44) n_a (Nat.le_of_ble_eq_true rfl))) (kx_6_4 k_a) fl_X6_323 dX6_status_52 ?_
        obtain rfl := Option.some.inj h
        exact g_iret X hr hlk hG hS dX6_status_55
      · have h := ite_n h q3
        by_cases q4 : v1 = 3
        · have h := ite_y h q4
          refine lv_tableIn (tgt := 56) hx hb dX6_status_1 (by rw [q4]; decide) (by rw [q4]; decide) (by rw [q4]; rfl) (by decide) ?_
          refine lv_aload_n hx hb dX6_status_56 rfl (lv_at hl 0 rfl) ?_
          obtain ⟨r5, hcr5, h⟩ := bd_y h
          refine g_cVI (a := a) (ci := 6) (T := TX6) (N := 8) (av := []) (rest := []) X hG hS (ct_X6_shelvesInUse l z k_a n_a hcr5) mt_X6_shelvesInUse ml_X6_365 rfl ⟨rfl, rfl, Nat.le_of_ble_eq_true rfl, Nat.le_of_ble_eq_true rfl⟩ ⟨Nat.le_refl 0, Nat.le_refl 0⟩ (nx_0 n_a) k_a (by decide) rfl hl.1 (Nat.le_of_ble_eq_true rfl) rfl dX6_status_57 (fun H locs hG hS => ?_)
          obtain rfl := Option.some.inj h
          exact g_iret X hr hlk hG hS dX6_status_60
        · have h := ite_n h q4
          refine lv_tableOut (tgt := 61) hx hb dX6_status_1 (by have eq1 := lv_neT (a := 0) q1 (by decide); have eq2 := lv_neT (a := 1) q2 (by decide); have eq3 := lv_neT (a := 2) q3 (by decide); have eq4 := lv_neT (a := 3) q4 (by decide); omega) (by decide) ?_
          refine lv_iload_n hx hb dX6_status_61 rfl (lv_at hl 1 rfl) ?_
          refine lv_bipush (v := 12) hx hb dX6_status_62 (by decide) ?_
          refine lv_bipush (v := 16) hx hb dX6_status_64 (by decide) ?_
          obtain ⟨r6, hcr6, h⟩ := bd_y h
          refine g_cSI (av := [.int v1, .int 12, .int 16]) (rest := []) X hG hS (ct_X6_isWithin l z  hcr6) mt_X6_isWithin ml_X6_55 rfl ⟨rfl, rfl, Nat.le_of_ble_eq_true rfl, Nat.le_of_ble_eq_true rfl⟩ ⟨Nat.le_refl 0, Nat.le_refl 0⟩ hl.1 (Nat.le_of_ble_eq_true rfl) rfl dX6_status_66 (fun H locs hG hS => ?_)
          refine lv_if_eq (tgt := 84) hx hb dX6_status_69 (by decide) (fun q7 => ?_) (fun q7 => ?_)
          · have h := ite_y h q7
            refine lv_iconst (v := (-1)) hx hb dX6_status_84 (by decide) ?_
            obtain rfl := Option.some.inj h
            exact g_iret X hr hlk hG hS dX6_status_85
          · have h := ite_n h q7
            refine lv_aload_n hx hb dX6_status_72 rfl (lv_at hl 0 rfl) ?_
            refine gf_X6_6 X hG (nx_0 n_a) k_a fl_X6_46 dX6_status_73 ?_
            refine lv_iload_n hx hb dX6_status_76 rfl (lv_at hl 1 rfl) ?_
            refine lv_bipush (v := 12) hx hb dX6_status_77 (by decide) ?_
            refine lv_isub hx hb dX6_status_79 ?_
            obtain ⟨i8, h⟩ := gd_y h
            refine g_iald X hG (nx_a (a := a) (k := 102) (n := 119) n_a (Nat.le_of_ble_eq_true rfl)) (kx_6_102 k_a) (by decide) i8 dX6_status_80 ?_
            refine lv_goto (tgt := 85) hx hb dX6_status_81 (by decide) ?_
            obtain rfl := Option.some.inj h
            exact g_iret X hr hlk hG hS dX6_status_85
