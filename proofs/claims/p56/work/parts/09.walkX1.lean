set_option maxRecDepth 100000 in
set_option maxHeartbeats 4000000 in
theorem ct_X1_append (l : Launch) (z : gZ) {N : Nat} {M : Mem} {a : Nat} {v1 : Int32} {o : Mem} (k_a : kd a = 1) (n_a : a + 2 ≤ gn z) (h : fX1_append N M a v1 = some o) : CtV l z yX1_append cX1_append 2 none { frames := 0, cells := 0, slots := 0, locals := 0 } [.ref (gad z a), .int v1] M o := by
  refine Ct_of rfl (Nat.le_of_ble_eq_true rfl) ?_
  intro p e s m below meth c ls X hr hlk hG hS hl
  have X : gX p m c _ _ s _ RX1 z := X
  have hl : lv_has ls 2 [(0, .ref (gad z a)), (1, .int v1)] := hl
  have hx := X.1
  have hb := X.2.1
  unfold fX1_append at h
  refine lv_aload_n hx hb dX1_append_0 rfl (lv_at hl 0 rfl) ?_
  refine gf_X1_1 X hG (nx_0 n_a) k_a fl_X1_15 dX1_append_1 ?_
  refine lv_sipush (v := 160) hx hb dX1_append_4 (by decide) ?_
  refine lv_icmp_ge (tgt := 30) hx hb dX1_append_7 (by decide) (fun q1 => ?_) (fun q1 => ?_)
  · have h := ite_y h q1
    obtain rfl := Option.some.inj h
    exact g_vret X hr hlk hG hS dX1_append_30
  · have h := ite_n h q1
    refine lv_aload_n hx hb dX1_append_10 rfl (lv_at hl 0 rfl) ?_
    refine gf_X1_0 X hG (nx_0 n_a) k_a fl_X1_9 dX1_append_11 ?_
    refine lv_aload_n hx hb dX1_append_14 rfl (lv_at hl 0 rfl) ?_
    refine gf_X1_1 X hG (nx_0 n_a) k_a fl_X1_15 dX1_append_15 ?_
    refine lv_iload_n hx hb dX1_append_18 rfl (lv_at hl 1 rfl) ?_
    obtain ⟨i2, h⟩ := gd_y h
    refine g_iast X hG hS (nx_a (a := a) (k := 1) (n := 2) n_a (Nat.le_of_ble_eq_true rfl)) (kx_1_1 k_a) (by decide) i2 dX1_append_19 (fun H locs hG hS => ?_)
    obtain ⟨M3, eM3⟩ : ∃ y, y = sI M (a + 1) ((M.1 a 1) : Int32).toNatClampNeg v1 := ⟨_, rfl⟩
    rw [← eM3] at hG
    have h := nm_y h M3 eM3
    refine lv_aload_n hx hb dX1_append_20 rfl (lv_at hl 0 rfl) ?_
    refine lv_dup hx hb dX1_append_21 rfl ?_
    refine gf_X1_1 X hG (nx_0 n_a) k_a fl_X1_15 dX1_append_22 ?_
    refine lv_iconst (v := 1) hx hb dX1_append_25 (by decide) ?_
    refine lv_iadd hx hb dX1_append_26 ?_
    refine pf_X1_1 X hG hS (nx_0 n_a) k_a fl_X1_15 dX1_append_27 (fun H locs hG hS => ?_)
    obtain ⟨M4, eM4⟩ : ∃ y, y = sI M3 a 1 ((M3.1 a 1) + 1) := ⟨_, rfl⟩
    rw [← eM4] at hG
    have h := nm_y h M4 eM4
    obtain rfl := Option.some.inj h
    exact g_vret X hr hlk hG hS dX1_append_30
set_option maxRecDepth 100000 in
set_option maxHeartbeats 4000000 in
theorem ct_X1_sortOf (l : Launch) (z : gZ) {N : Nat} {M : Mem} {v0 : Int32} {o : Int32}  (h : fX1_sortOf N M v0 = some o) : CtI l z yX1_sortOf cX1_sortOf 1 (some .int) { frames := 0, cells := 0, slots := 0, locals := 0 } [.int v0] M o M := by
  refine Ct_of rfl (Nat.le_of_ble_eq_true rfl) ?_
  intro p e s m below meth c ls X hr hlk hG hS hl
  have X : gX p m c _ _ s _ RX1 z := X
  have hl : lv_has ls 1 [(0, .int v0)] := hl
  have hx := X.1
  have hb := X.2.1
  unfold fX1_sortOf at h
  refine lv_iload_n hx hb dX1_sortOf_0 rfl (lv_at hl 0 rfl) ?_
  refine lv_bipush (v := 97) hx hb dX1_sortOf_1 (by decide) ?_
  refine lv_icmp_lt (tgt := 14) hx hb dX1_sortOf_3 (by decide) (fun q1 => ?_) (fun q1 => ?_)
  · have h := ite_y h q1
    refine lv_iload_n hx hb dX1_sortOf_14 rfl (lv_at hl 0 rfl) ?_
    refine lv_bipush (v := 48) hx hb dX1_sortOf_15 (by decide) ?_
    refine lv_icmp_lt (tgt := 28) hx hb dX1_sortOf_17 (by decide) (fun q2 => ?_) (fun q2 => ?_)
    · have h := ite_y h q2
      refine lv_iload_n hx hb dX1_sortOf_28 rfl (lv_at hl 0 rfl) ?_
      refine lv_bipush (v := 59) hx hb dX1_sortOf_29 (by decide) ?_
      refine lv_icmp_ne (tgt := 38) hx hb dX1_sortOf_31 (by decide) (fun q3 => ?_) (fun q3 => ?_)
      · have h := ite_n h q3
        refine lv_iconst (v := 4) hx hb dX1_sortOf_38 (by decide) ?_
        obtain rfl := Option.some.inj h
        exact g_iret X hr hlk hG hS dX1_sortOf_39
      · have h := ite_y h q3
        refine lv_iconst (v := 3) hx hb dX1_sortOf_34 (by decide) ?_
        refine lv_goto (tgt := 39) hx hb dX1_sortOf_35 (by decide) ?_
        obtain rfl := Option.some.inj h
        exact g_iret X hr hlk hG hS dX1_sortOf_39
    · have h := ite_n h q2
      refine lv_iload_n hx hb dX1_sortOf_20 rfl (lv_at hl 0 rfl) ?_
      refine lv_bipush (v := 57) hx hb dX1_sortOf_21 (by decide) ?_
      refine lv_icmp_gt (tgt := 28) hx hb dX1_sortOf_23 (by decide) (fun q4 => ?_) (fun q4 => ?_)
      · have h := ite_y h q4
        refine lv_iload_n hx hb dX1_sortOf_28 rfl (lv_at hl 0 rfl) ?_
        refine lv_bipush (v := 59) hx hb dX1_sortOf_29 (by decide) ?_
        refine lv_icmp_ne (tgt := 38) hx hb dX1_sortOf_31 (by decide) (fun q5 => ?_) (fun q5 => ?_)
        · have h := ite_n h q5
          refine lv_iconst (v := 4) hx hb dX1_sortOf_38 (by decide) ?_
          obtain rfl := Option.some.inj h
          exact g_iret X hr hlk hG hS dX1_sortOf_39
        · have h := ite_y h q5
          refine lv_iconst (v := 3) hx hb dX1_sortOf_34 (by decide) ?_
          refine lv_goto (tgt := 39) hx hb dX1_sortOf_35 (by decide) ?_
          obtain rfl := Option.some.inj h
          exact g_iret X hr hlk hG hS dX1_sortOf_39
      · have h := ite_n h q4
        refine lv_iconst (v := 2) hx hb dX1_sortOf_26 (by decide) ?_
        obtain rfl := Option.some.inj h
        exact g_iret X hr hlk hG hS dX1_sortOf_27
  · have h := ite_n h q1
    refine lv_iload_n hx hb dX1_sortOf_6 rfl (lv_at hl 0 rfl) ?_
    refine lv_bipush (v := 122) hx hb dX1_sortOf_7 (by decide) ?_
    refine lv_icmp_gt (tgt := 14) hx hb dX1_sortOf_9 (by decide) (fun q6 => ?_) (fun q6 => ?_)
    · have h := ite_y h q6
      refine lv_iload_n hx hb dX1_sortOf_14 rfl (lv_at hl 0 rfl) ?_
      refine lv_bipush (v := 48) hx hb dX1_sortOf_15 (by decide) ?_
      refine lv_icmp_lt (tgt := 28) hx hb dX1_sortOf_17 (by decide) (fun q7 => ?_) (fun q7 => ?_)
      · have h := ite_y h q7
        refine lv_iload_n hx hb dX1_sortOf_28 rfl (lv_at hl 0 rfl) ?_
        refine lv_bipush (v := 59) hx hb dX1_sortOf_29 (by decide) ?_
        refine lv_icmp_ne (tgt := 38) hx hb dX1_sortOf_31 (by decide) (fun q8 => ?_) (fun q8 => ?_)
        · have h := ite_n h q8
          refine lv_iconst (v := 4) hx hb dX1_sortOf_38 (by decide) ?_
          obtain rfl := Option.some.inj h
          exact g_iret X hr hlk hG hS dX1_sortOf_39
        · have h := ite_y h q8
          refine lv_iconst (v := 3) hx hb dX1_sortOf_34 (by decide) ?_
          refine lv_goto (tgt := 39) hx hb dX1_sortOf_35 (by decide) ?_
          obtain rfl := Option.some.inj h
          exact g_iret X hr hlk hG hS dX1_sortOf_39
      · have h := ite_n h q7
        refine lv_iload_n hx hb dX1_sortOf_20 rfl (lv_at hl 0 rfl) ?_
        refine lv_bipush (v := 57) hx hb dX1_sortOf_21 (by decide) ?_
        refine lv_icmp_gt (tgt := 28) hx hb dX1_sortOf_23 (by decide) (fun q9 => ?_) (fun q9 => ?_)
        · have h := ite_y h q9
          refine lv_iload_n hx hb dX1_sortOf_28 rfl (lv_at hl 0 rfl) ?_
          refine lv_bipush (v := 59) hx hb dX1_sortOf_29 (by decide) ?_
          refine lv_icmp_ne (tgt := 38) hx hb dX1_sortOf_31 (by decide) (fun q10 => ?_) (fun q10 => ?_)
          · have h := ite_n h q10
            refine lv_iconst (v := 4) hx hb dX1_sortOf_38 (by decide) ?_
            obtain rfl := Option.some.inj h
            exact g_iret X hr hlk hG hS dX1_sortOf_39
          · have h := ite_y h q10
            refine lv_iconst (v := 3) hx hb dX1_sortOf_34 (by decide) ?_
            refine lv_goto (tgt := 39) hx hb dX1_sortOf_35 (by decide) ?_
            obtain rfl := Option.some.inj h
            exact g_iret X hr hlk hG hS dX1_sortOf_39
        · have h := ite_n h q9
          refine lv_iconst (v := 2) hx hb dX1_sortOf_26 (by decide) ?_
          obtain rfl := Option.some.inj h
          exact g_iret X hr hlk hG hS dX1_sortOf_27
    · have h := ite_n h q6
      refine lv_iconst (v := 1) hx hb dX1_sortOf_12 (by decide) ?_
      obtain rfl := Option.some.inj h
      exact g_iret X hr hlk hG hS dX1_sortOf_13
set_option maxRecDepth 100000 in
set_option maxHeartbeats 4000000 in
theorem wX1_advance_134 {N : Nat} {p : Program} {l : Launch} {e : Env} {s : State} {m : MethodId} {args : Array Value} {below : List Frame} {meth : Method} {c : Code} {z : gZ} {a : Nat} {o : Mem} (X : gX p m c cX1_advance 1 s args RX1 z) (hr : meth.sig.returnType = none) (hlk : meth.locks = false) (k_a : kd a = 1) (n_a : a + 2 ≤ gn z)  : ∀ (n : Nat) (Mw : Mem) (H : Heap) (locs : List Loc) (ls : Array Slot), fX1_advance_134 N a  n Mw = some o → gW z Mw H → va_S (gA z) s.heap H locs → lv_has ls 1 [(0, .ref (gad z a))] → W p l e { frames := 1, cells := 0, slots := 0, locals := 20 } s m args below meth c H locs 0 0 (MQ below (va_Qv (fun (_ : Unit) => True) (fun _ t => gW z o t.heap) (gA z)) args s 0 0 (gA z)) (F0 m 134 ls []) := by
  have hx := X.1
  have hb := X.2.1
  intro n
  induction n with
  | zero => intro Mw H locs ls h; cases h
  | succ n ih =>
    intro Mw H locs ls h hG hS hl
    rw [fX1_advance_134] at h
    refine lv_aload_n hx hb dX1_advance_134 rfl (lv_at hl 0 rfl) ?_
    refine gf_X1_4 X hG (nx_0 n_a) k_a fl_X1_19 dX1_advance_135 ?_
    refine lv_aload_n hx hb dX1_advance_138 rfl (lv_at hl 0 rfl) ?_
    refine gf_X1_1 X hG (nx_0 n_a) k_a fl_X1_15 dX1_advance_139 ?_
    refine lv_icmp_ge (tgt := 187) hx hb dX1_advance_142 (by decide) (fun q1 => ?_) (fun q1 => ?_)
    · have h := ite_y h q1
      obtain rfl := Option.some.inj h
      exact g_vret X hr hlk hG hS dX1_advance_187
    · have h := ite_n h q1
      refine lv_aload_n hx hb dX1_advance_145 rfl (lv_at hl 0 rfl) ?_
      refine gf_X1_4 X hG (nx_0 n_a) k_a fl_X1_19 dX1_advance_146 ?_
      refine lv_sipush (v := 160) hx hb dX1_advance_149 (by decide) ?_
      refine lv_icmp_ge (tgt := 187) hx hb dX1_advance_152 (by decide) (fun q2 => ?_) (fun q2 => ?_)
      · have h := ite_y h q2
        obtain rfl := Option.some.inj h
        exact g_vret X hr hlk hG hS dX1_advance_187
      · have h := ite_n h q2
        refine lv_aload_n hx hb dX1_advance_155 rfl (lv_at hl 0 rfl) ?_
        refine gf_X1_0 X hG (nx_0 n_a) k_a fl_X1_9 dX1_advance_156 ?_
        refine lv_aload_n hx hb dX1_advance_159 rfl (lv_at hl 0 rfl) ?_
        refine gf_X1_4 X hG (nx_0 n_a) k_a fl_X1_19 dX1_advance_160 ?_
        obtain ⟨i3, h⟩ := gd_y h
        refine g_iald X hG (nx_a (a := a) (k := 1) (n := 2) n_a (Nat.le_of_ble_eq_true rfl)) (kx_1_1 k_a) (by decide) i3 dX1_advance_163 ?_
        obtain ⟨r4, hcr4, h⟩ := bd_y h
        refine g_cSI (av := [.int (Mw.1 (a + 1) ((Mw.1 a 4) : Int32).toNatClampNeg)]) (rest := []) X hG hS (ct_X1_sortOf l z  hcr4) mt_X1_sortOf ml_X1_136 rfl ⟨rfl, rfl, Nat.le_of_ble_eq_true rfl, Nat.le_of_ble_eq_true rfl⟩ ⟨Nat.le_refl 0, Nat.le_refl 0⟩ hl.1 (Nat.le_of_ble_eq_true rfl) rfl dX1_advance_164 (fun H locs hG hS => ?_)
        refine lv_aload_n hx hb dX1_advance_167 rfl (lv_at hl 0 rfl) ?_
        refine gf_X1_2 X hG (nx_0 n_a) k_a fl_X1_44 dX1_advance_168 ?_
        refine lv_icmp_ne (tgt := 187) hx hb dX1_advance_171 (by decide) (fun q5 => ?_) (fun q5 => ?_)
        · have h := ite_n h q5
          obtain rfl := Option.some.inj h
          exact g_vret X hr hlk hG hS dX1_advance_187
        · have h := ite_y h q5
          refine lv_aload_n hx hb dX1_advance_174 rfl (lv_at hl 0 rfl) ?_
          refine lv_dup hx hb dX1_advance_175 rfl ?_
          refine gf_X1_4 X hG (nx_0 n_a) k_a fl_X1_19 dX1_advance_176 ?_
          refine lv_iconst (v := 1) hx hb dX1_advance_179 (by decide) ?_
          refine lv_iadd hx hb dX1_advance_180 ?_
          refine pf_X1_4 X hG hS (nx_0 n_a) k_a fl_X1_19 dX1_advance_181 (fun H locs hG hS => ?_)
          obtain ⟨M6, eM6⟩ : ∃ y, y = sI Mw a 4 ((Mw.1 a 4) + 1) := ⟨_, rfl⟩
          rw [← eM6] at hG
          have h := nm_y h M6 eM6
          refine lv_goto (tgt := 134) hx hb dX1_advance_184 (by decide) ?_
          exact ih M6  _ _ _ h hG hS (lv_sub hl [0] rfl)
set_option maxRecDepth 100000 in
set_option maxHeartbeats 4000000 in
theorem wX1_advance_8 {N : Nat} {p : Program} {l : Launch} {e : Env} {s : State} {m : MethodId} {args : Array Value} {below : List Frame} {meth : Method} {c : Code} {z : gZ} {a : Nat} {o : Mem} (X : gX p m c cX1_advance 1 s args RX1 z) (hr : meth.sig.returnType = none) (hlk : meth.locks = false) (k_a : kd a = 1) (n_a : a + 2 ≤ gn z)  : ∀ (n : Nat) (Mw : Mem) (H : Heap) (locs : List Loc) (ls : Array Slot), fX1_advance_8 N a  n Mw = some o → gW z Mw H → va_S (gA z) s.heap H locs → lv_has ls 1 [(0, .ref (gad z a))] → W p l e { frames := 1, cells := 0, slots := 0, locals := 20 } s m args below meth c H locs 0 0 (MQ below (va_Qv (fun (_ : Unit) => True) (fun _ t => gW z o t.heap) (gA z)) args s 0 0 (gA z)) (F0 m 8 ls []) := by
  have hx := X.1
  have hb := X.2.1
  intro n
  induction n with
  | zero => intro Mw H locs ls h; cases h
  | succ n ih =>
    intro Mw H locs ls h hG hS hl
    rw [fX1_advance_8] at h
    refine lv_aload_n hx hb dX1_advance_8 rfl (lv_at hl 0 rfl) ?_
    refine gf_X1_3 X hG (nx_0 n_a) k_a fl_X1_129 dX1_advance_9 ?_
    refine lv_aload_n hx hb dX1_advance_12 rfl (lv_at hl 0 rfl) ?_
    refine gf_X1_1 X hG (nx_0 n_a) k_a fl_X1_15 dX1_advance_13 ?_
    refine lv_icmp_ge (tgt := 56) hx hb dX1_advance_16 (by decide) (fun q1 => ?_) (fun q1 => ?_)
    · have h := ite_y h q1
      refine lv_aload_n hx hb dX1_advance_56 rfl (lv_at hl 0 rfl) ?_
      refine lv_aload_n hx hb dX1_advance_57 rfl (lv_at hl 0 rfl) ?_
      refine gf_X1_3 X hG (nx_0 n_a) k_a fl_X1_129 dX1_advance_58 ?_
      refine pf_X1_4 X hG hS (nx_0 n_a) k_a fl_X1_19 dX1_advance_61 (fun H locs hG hS => ?_)
      obtain ⟨M2, eM2⟩ : ∃ y, y = sI Mw a 4 (Mw.1 a 3) := ⟨_, rfl⟩
      rw [← eM2] at hG
      have h := nm_y h M2 eM2
      refine lv_aload_n hx hb dX1_advance_64 rfl (lv_at hl 0 rfl) ?_
      refine gf_X1_3 X hG (nx_0 n_a) k_a fl_X1_129 dX1_advance_65 ?_
      refine lv_aload_n hx hb dX1_advance_68 rfl (lv_at hl 0 rfl) ?_
      refine gf_X1_1 X hG (nx_0 n_a) k_a fl_X1_15 dX1_advance_69 ?_
      refine lv_icmp_ge (tgt := 85) hx hb dX1_advance_72 (by decide) (fun q3 => ?_) (fun q3 => ?_)
      · have h := ite_y h q3
        refine lv_aload_n hx hb dX1_advance_85 rfl (lv_at hl 0 rfl) ?_
        refine lv_iconst (v := 0) hx hb dX1_advance_86 (by decide) ?_
        refine pf_X1_2 X hG hS (nx_0 n_a) k_a fl_X1_44 dX1_advance_87 (fun H locs hG hS => ?_)
        obtain ⟨M4, eM4⟩ : ∃ y, y = sI M2 a 2 0 := ⟨_, rfl⟩
        rw [← eM4] at hG
        have h := nm_y h M4 eM4
        obtain rfl := Option.some.inj h
        exact g_vret X hr hlk hG hS dX1_advance_90
      · have h := ite_n h q3
        refine lv_aload_n hx hb dX1_advance_75 rfl (lv_at hl 0 rfl) ?_
        refine gf_X1_3 X hG (nx_0 n_a) k_a fl_X1_129 dX1_advance_76 ?_
        refine lv_sipush (v := 160) hx hb dX1_advance_79 (by decide) ?_
        refine lv_icmp_lt (tgt := 91) hx hb dX1_advance_82 (by decide) (fun q5 => ?_) (fun q5 => ?_)
        · have h := ite_y h q5
          refine lv_aload_n hx hb dX1_advance_91 rfl (lv_at hl 0 rfl) ?_
          refine lv_aload_n hx hb dX1_advance_92 rfl (lv_at hl 0 rfl) ?_
          refine gf_X1_0 X hG (nx_0 n_a) k_a fl_X1_9 dX1_advance_93 ?_
          refine lv_aload_n hx hb dX1_advance_96 rfl (lv_at hl 0 rfl) ?_
          refine gf_X1_3 X hG (nx_0 n_a) k_a fl_X1_129 dX1_advance_97 ?_
          obtain ⟨i6, h⟩ := gd_y h
          refine g_iald X hG (nx_a (a := a) (k := 1) (n := 2) n_a (Nat.le_of_ble_eq_true rfl)) (kx_1_1 k_a) (by decide) i6 dX1_advance_100 ?_
          obtain ⟨r7, hcr7, h⟩ := bd_y h
          refine g_cSI (av := [.int (M2.1 (a + 1) ((M2.1 a 3) : Int32).toNatClampNeg)]) (rest := [.ref (gad z a)]) X hG hS (ct_X1_sortOf l z  hcr7) mt_X1_sortOf ml_X1_136 rfl ⟨rfl, rfl, Nat.le_of_ble_eq_true rfl, Nat.le_of_ble_eq_true rfl⟩ ⟨Nat.le_refl 0, Nat.le_refl 0⟩ hl.1 (Nat.le_of_ble_eq_true rfl) rfl dX1_advance_101 (fun H locs hG hS => ?_)
          refine pf_X1_2 X hG hS (nx_0 n_a) k_a fl_X1_44 dX1_advance_104 (fun H locs hG hS => ?_)
          obtain ⟨M8, eM8⟩ : ∃ y, y = sI M2 a 2 r7 := ⟨_, rfl⟩
          rw [← eM8] at hG
          have h := nm_y h M8 eM8
          refine lv_aload_n hx hb dX1_advance_107 rfl (lv_at hl 0 rfl) ?_
          refine lv_dup hx hb dX1_advance_108 rfl ?_
          refine gf_X1_4 X hG (nx_0 n_a) k_a fl_X1_19 dX1_advance_109 ?_
          refine lv_iconst (v := 1) hx hb dX1_advance_112 (by decide) ?_
          refine lv_iadd hx hb dX1_advance_113 ?_
          refine pf_X1_4 X hG hS (nx_0 n_a) k_a fl_X1_19 dX1_advance_114 (fun H locs hG hS => ?_)
          obtain ⟨M9, eM9⟩ : ∃ y, y = sI M8 a 4 ((M8.1 a 4) + 1) := ⟨_, rfl⟩
          rw [← eM9] at hG
          have h := nm_y h M9 eM9
          refine lv_aload_n hx hb dX1_advance_117 rfl (lv_at hl 0 rfl) ?_
          refine gf_X1_2 X hG (nx_0 n_a) k_a fl_X1_44 dX1_advance_118 ?_
          refine lv_iconst (v := 3) hx hb dX1_advance_121 (by decide) ?_
          refine lv_icmp_eq (tgt := 133) hx hb dX1_advance_122 (by decide) (fun q10 => ?_) (fun q10 => ?_)
          · have h := ite_y h q10
            obtain rfl := Option.some.inj h
            exact g_vret X hr hlk hG hS dX1_advance_133
          · have h := ite_n h q10
            refine lv_aload_n hx hb dX1_advance_125 rfl (lv_at hl 0 rfl) ?_
            refine gf_X1_2 X hG (nx_0 n_a) k_a fl_X1_44 dX1_advance_126 ?_
            refine lv_iconst (v := 4) hx hb dX1_advance_129 (by decide) ?_
            refine lv_icmp_ne (tgt := 134) hx hb dX1_advance_130 (by decide) (fun q11 => ?_) (fun q11 => ?_)
            · have h := ite_n h q11
              refine wX1_advance_134 X hr hlk k_a n_a _ _ _ _ _ h hG hS (lv_sub hl [0] rfl)
            · have h := ite_y h q11
              obtain rfl := Option.some.inj h
              exact g_vret X hr hlk hG hS dX1_advance_133
        · have h := ite_n h q5
          refine lv_aload_n hx hb dX1_advance_85 rfl (lv_at hl 0 rfl) ?_
          refine lv_iconst (v := 0) hx hb dX1_advance_86 (by decide) ?_
          refine pf_X1_2 X hG hS (nx_0 n_a) k_a fl_X1_44 dX1_advance_87 (fun H locs hG hS => ?_)
          obtain ⟨M12, eM12⟩ : ∃ y, y = sI M2 a 2 0 := ⟨_, rfl⟩
          rw [← eM12] at hG
          have h := nm_y h M12 eM12
          obtain rfl := Option.some.inj h
          exact g_vret X hr hlk hG hS dX1_advance_90
    · have h := ite_n h q1
      refine lv_aload_n hx hb dX1_advance_19 rfl (lv_at hl 0 rfl) ?_
      refine gf_X1_3 X hG (nx_0 n_a) k_a fl_X1_129 dX1_advance_20 ?_
      refine lv_sipush (v := 160) hx hb dX1_advance_23 (by decide) ?_
      refine lv_icmp_ge (tgt := 56) hx hb dX1_advance_26 (by decide) (fun q13 => ?_) (fun q13 => ?_)
      · have h := ite_y h q13
        refine lv_aload_n hx hb dX1_advance_56 rfl (lv_at hl 0 rfl) ?_
        refine lv_aload_n hx hb dX1_advance_57 rfl (lv_at hl 0 rfl) ?_
        refine gf_X1_3 X hG (nx_0 n_a) k_a fl_X1_129 dX1_advance_58 ?_
        refine pf_X1_4 X hG hS (nx_0 n_a) k_a fl_X1_19 dX1_advance_61 (fun H locs hG hS => ?_)
        obtain ⟨M14, eM14⟩ : ∃ y, y = sI Mw a 4 (Mw.1 a 3) := ⟨_, rfl⟩
        rw [← eM14] at hG
        have h := nm_y h M14 eM14
        refine lv_aload_n hx hb dX1_advance_64 rfl (lv_at hl 0 rfl) ?_
        refine gf_X1_3 X hG (nx_0 n_a) k_a fl_X1_129 dX1_advance_65 ?_
        refine lv_aload_n hx hb dX1_advance_68 rfl (lv_at hl 0 rfl) ?_
        refine gf_X1_1 X hG (nx_0 n_a) k_a fl_X1_15 dX1_advance_69 ?_
        refine lv_icmp_ge (tgt := 85) hx hb dX1_advance_72 (by decide) (fun q15 => ?_) (fun q15 => ?_)
        · have h := ite_y h q15
          refine lv_aload_n hx hb dX1_advance_85 rfl (lv_at hl 0 rfl) ?_
          refine lv_iconst (v := 0) hx hb dX1_advance_86 (by decide) ?_
          refine pf_X1_2 X hG hS (nx_0 n_a) k_a fl_X1_44 dX1_advance_87 (fun H locs hG hS => ?_)
          obtain ⟨M16, eM16⟩ : ∃ y, y = sI M14 a 2 0 := ⟨_, rfl⟩
          rw [← eM16] at hG
          have h := nm_y h M16 eM16
          obtain rfl := Option.some.inj h
          exact g_vret X hr hlk hG hS dX1_advance_90
        · have h := ite_n h q15
          refine lv_aload_n hx hb dX1_advance_75 rfl (lv_at hl 0 rfl) ?_
          refine gf_X1_3 X hG (nx_0 n_a) k_a fl_X1_129 dX1_advance_76 ?_
          refine lv_sipush (v := 160) hx hb dX1_advance_79 (by decide) ?_
          refine lv_icmp_lt (tgt := 91) hx hb dX1_advance_82 (by decide) (fun q17 => ?_) (fun q17 => ?_)
          · have h := ite_y h q17
            refine lv_aload_n hx hb dX1_advance_91 rfl (lv_at hl 0 rfl) ?_
            refine lv_aload_n hx hb dX1_advance_92 rfl (lv_at hl 0 rfl) ?_
            refine gf_X1_0 X hG (nx_0 n_a) k_a fl_X1_9 dX1_advance_93 ?_
            refine lv_aload_n hx hb dX1_advance_96 rfl (lv_at hl 0 rfl) ?_
            refine gf_X1_3 X hG (nx_0 n_a) k_a fl_X1_129 dX1_advance_97 ?_
            obtain ⟨i18, h⟩ := gd_y h
            refine g_iald X hG (nx_a (a := a) (k := 1) (n := 2) n_a (Nat.le_of_ble_eq_true rfl)) (kx_1_1 k_a) (by decide) i18 dX1_advance_100 ?_
            obtain ⟨r19, hcr19, h⟩ := bd_y h
            refine g_cSI (av := [.int (M14.1 (a + 1) ((M14.1 a 3) : Int32).toNatClampNeg)]) (rest := [.ref (gad z a)]) X hG hS (ct_X1_sortOf l z  hcr19) mt_X1_sortOf ml_X1_136 rfl ⟨rfl, rfl, Nat.le_of_ble_eq_true rfl, Nat.le_of_ble_eq_true rfl⟩ ⟨Nat.le_refl 0, Nat.le_refl 0⟩ hl.1 (Nat.le_of_ble_eq_true rfl) rfl dX1_advance_101 (fun H locs hG hS => ?_)
            refine pf_X1_2 X hG hS (nx_0 n_a) k_a fl_X1_44 dX1_advance_104 (fun H locs hG hS => ?_)
            obtain ⟨M20, eM20⟩ : ∃ y, y = sI M14 a 2 r19 := ⟨_, rfl⟩
            rw [← eM20] at hG
            have h := nm_y h M20 eM20
            refine lv_aload_n hx hb dX1_advance_107 rfl (lv_at hl 0 rfl) ?_
            refine lv_dup hx hb dX1_advance_108 rfl ?_
            refine gf_X1_4 X hG (nx_0 n_a) k_a fl_X1_19 dX1_advance_109 ?_
            refine lv_iconst (v := 1) hx hb dX1_advance_112 (by decide) ?_
            refine lv_iadd hx hb dX1_advance_113 ?_
            refine pf_X1_4 X hG hS (nx_0 n_a) k_a fl_X1_19 dX1_advance_114 (fun H locs hG hS => ?_)
            obtain ⟨M21, eM21⟩ : ∃ y, y = sI M20 a 4 ((M20.1 a 4) + 1) := ⟨_, rfl⟩
            rw [← eM21] at hG
            have h := nm_y h M21 eM21
            refine lv_aload_n hx hb dX1_advance_117 rfl (lv_at hl 0 rfl) ?_
            refine gf_X1_2 X hG (nx_0 n_a) k_a fl_X1_44 dX1_advance_118 ?_
            refine lv_iconst (v := 3) hx hb dX1_advance_121 (by decide) ?_
            refine lv_icmp_eq (tgt := 133) hx hb dX1_advance_122 (by decide) (fun q22 => ?_) (fun q22 => ?_)
            · have h := ite_y h q22
              obtain rfl := Option.some.inj h
              exact g_vret X hr hlk hG hS dX1_advance_133
            · have h := ite_n h q22
              refine lv_aload_n hx hb dX1_advance_125 rfl (lv_at hl 0 rfl) ?_
              refine gf_X1_2 X hG (nx_0 n_a) k_a fl_X1_44 dX1_advance_126 ?_
              refine lv_iconst (v := 4) hx hb dX1_advance_129 (by decide) ?_
              refine lv_icmp_ne (tgt := 134) hx hb dX1_advance_130 (by decide) (fun q23 => ?_) (fun q23 => ?_)
              · have h := ite_n h q23
                refine wX1_advance_134 X hr hlk k_a n_a _ _ _ _ _ h hG hS (lv_sub hl [0] rfl)
              · have h := ite_y h q23
                obtain rfl := Option.some.inj h
                exact g_vret X hr hlk hG hS dX1_advance_133
          · have h := ite_n h q17
            refine lv_aload_n hx hb dX1_advance_85 rfl (lv_at hl 0 rfl) ?_
            refine lv_iconst (v := 0) hx hb dX1_advance_86 (by decide) ?_
            refine pf_X1_2 X hG hS (nx_0 n_a) k_a fl_X1_44 dX1_advance_87 (fun H locs hG hS => ?_)
            obtain ⟨M24, eM24⟩ : ∃ y, y = sI M14 a 2 0 := ⟨_, rfl⟩
            rw [← eM24] at hG
            have h := nm_y h M24 eM24
            obtain rfl := Option.some.inj h
            exact g_vret X hr hlk hG hS dX1_advance_90
      · have h := ite_n h q13
        refine lv_aload_n hx hb dX1_advance_29 rfl (lv_at hl 0 rfl) ?_
        refine gf_X1_0 X hG (nx_0 n_a) k_a fl_X1_9 dX1_advance_30 ?_
        refine lv_aload_n hx hb dX1_advance_33 rfl (lv_at hl 0 rfl) ?_
        refine gf_X1_3 X hG (nx_0 n_a) k_a fl_X1_129 dX1_advance_34 ?_
        obtain ⟨i25, h⟩ := gd_y h
        refine g_iald X hG (nx_a (a := a) (k := 1) (n := 2) n_a (Nat.le_of_ble_eq_true rfl)) (kx_1_1 k_a) (by decide) i25 dX1_advance_37 ?_
        refine lv_bipush (v := 32) hx hb dX1_advance_38 (by decide) ?_
        refine lv_icmp_ne (tgt := 56) hx hb dX1_advance_40 (by decide) (fun q26 => ?_) (fun q26 => ?_)
        · have h := ite_n h q26
          refine lv_aload_n hx hb dX1_advance_56 rfl (lv_at hl 0 rfl) ?_
          refine lv_aload_n hx hb dX1_advance_57 rfl (lv_at hl 0 rfl) ?_
          refine gf_X1_3 X hG (nx_0 n_a) k_a fl_X1_129 dX1_advance_58 ?_
          refine pf_X1_4 X hG hS (nx_0 n_a) k_a fl_X1_19 dX1_advance_61 (fun H locs hG hS => ?_)
          obtain ⟨M27, eM27⟩ : ∃ y, y = sI Mw a 4 (Mw.1 a 3) := ⟨_, rfl⟩
          rw [← eM27] at hG
          have h := nm_y h M27 eM27
          refine lv_aload_n hx hb dX1_advance_64 rfl (lv_at hl 0 rfl) ?_
          refine gf_X1_3 X hG (nx_0 n_a) k_a fl_X1_129 dX1_advance_65 ?_
          refine lv_aload_n hx hb dX1_advance_68 rfl (lv_at hl 0 rfl) ?_
          refine gf_X1_1 X hG (nx_0 n_a) k_a fl_X1_15 dX1_advance_69 ?_
          refine lv_icmp_ge (tgt := 85) hx hb dX1_advance_72 (by decide) (fun q28 => ?_) (fun q28 => ?_)
          · have h := ite_y h q28
            refine lv_aload_n hx hb dX1_advance_85 rfl (lv_at hl 0 rfl) ?_
            refine lv_iconst (v := 0) hx hb dX1_advance_86 (by decide) ?_
            refine pf_X1_2 X hG hS (nx_0 n_a) k_a fl_X1_44 dX1_advance_87 (fun H locs hG hS => ?_)
            obtain ⟨M29, eM29⟩ : ∃ y, y = sI M27 a 2 0 := ⟨_, rfl⟩
            rw [← eM29] at hG
            have h := nm_y h M29 eM29
            obtain rfl := Option.some.inj h
            exact g_vret X hr hlk hG hS dX1_advance_90
          · have h := ite_n h q28
            refine lv_aload_n hx hb dX1_advance_75 rfl (lv_at hl 0 rfl) ?_
            refine gf_X1_3 X hG (nx_0 n_a) k_a fl_X1_129 dX1_advance_76 ?_
            refine lv_sipush (v := 160) hx hb dX1_advance_79 (by decide) ?_
            refine lv_icmp_lt (tgt := 91) hx hb dX1_advance_82 (by decide) (fun q30 => ?_) (fun q30 => ?_)
            · have h := ite_y h q30
              refine lv_aload_n hx hb dX1_advance_91 rfl (lv_at hl 0 rfl) ?_
              refine lv_aload_n hx hb dX1_advance_92 rfl (lv_at hl 0 rfl) ?_
              refine gf_X1_0 X hG (nx_0 n_a) k_a fl_X1_9 dX1_advance_93 ?_
              refine lv_aload_n hx hb dX1_advance_96 rfl (lv_at hl 0 rfl) ?_
              refine gf_X1_3 X hG (nx_0 n_a) k_a fl_X1_129 dX1_advance_97 ?_
              obtain ⟨i31, h⟩ := gd_y h
              refine g_iald X hG (nx_a (a := a) (k := 1) (n := 2) n_a (Nat.le_of_ble_eq_true rfl)) (kx_1_1 k_a) (by decide) i31 dX1_advance_100 ?_
              obtain ⟨r32, hcr32, h⟩ := bd_y h
              refine g_cSI (av := [.int (M27.1 (a + 1) ((M27.1 a 3) : Int32).toNatClampNeg)]) (rest := [.ref (gad z a)]) X hG hS (ct_X1_sortOf l z  hcr32) mt_X1_sortOf ml_X1_136 rfl ⟨rfl, rfl, Nat.le_of_ble_eq_true rfl, Nat.le_of_ble_eq_true rfl⟩ ⟨Nat.le_refl 0, Nat.le_refl 0⟩ hl.1 (Nat.le_of_ble_eq_true rfl) rfl dX1_advance_101 (fun H locs hG hS => ?_)
              refine pf_X1_2 X hG hS (nx_0 n_a) k_a fl_X1_44 dX1_advance_104 (fun H locs hG hS => ?_)
              obtain ⟨M33, eM33⟩ : ∃ y, y = sI M27 a 2 r32 := ⟨_, rfl⟩
              rw [← eM33] at hG
              have h := nm_y h M33 eM33
              refine lv_aload_n hx hb dX1_advance_107 rfl (lv_at hl 0 rfl) ?_
              refine lv_dup hx hb dX1_advance_108 rfl ?_
              refine gf_X1_4 X hG (nx_0 n_a) k_a fl_X1_19 dX1_advance_109 ?_
              refine lv_iconst (v := 1) hx hb dX1_advance_112 (by decide) ?_
              refine lv_iadd hx hb dX1_advance_113 ?_
              refine pf_X1_4 X hG hS (nx_0 n_a) k_a fl_X1_19 dX1_advance_114 (fun H locs hG hS => ?_)
              obtain ⟨M34, eM34⟩ : ∃ y, y = sI M33 a 4 ((M33.1 a 4) + 1) := ⟨_, rfl⟩
              rw [← eM34] at hG
              have h := nm_y h M34 eM34
              refine lv_aload_n hx hb dX1_advance_117 rfl (lv_at hl 0 rfl) ?_
              refine gf_X1_2 X hG (nx_0 n_a) k_a fl_X1_44 dX1_advance_118 ?_
              refine lv_iconst (v := 3) hx hb dX1_advance_121 (by decide) ?_
              refine lv_icmp_eq (tgt := 133) hx hb dX1_advance_122 (by decide) (fun q35 => ?_) (fun q35 => ?_)
              · have h := ite_y h q35
                obtain rfl := Option.some.inj h
                exact g_vret X hr hlk hG hS dX1_advance_133
              · have h := ite_n h q35
                refine lv_aload_n hx hb dX1_advance_125 rfl (lv_at hl 0 rfl) ?_
                refine gf_X1_2 X hG (nx_0 n_a) k_a fl_X1_44 dX1_advance_126 ?_
                refine lv_iconst (v := 4) hx hb dX1_advance_129 (by decide) ?_
                refine lv_icmp_ne (tgt := 134) hx hb dX1_advance_130 (by decide) (fun q36 => ?_) (fun q36 => ?_)
                · have h := ite_n h q36
                  refine wX1_advance_134 X hr hlk k_a n_a _ _ _ _ _ h hG hS (lv_sub hl [0] rfl)
                · have h := ite_y h q36
                  obtain rfl := Option.some.inj h
                  exact g_vret X hr hlk hG hS dX1_advance_133
            · have h := ite_n h q30
              refine lv_aload_n hx hb dX1_advance_85 rfl (lv_at hl 0 rfl) ?_
              refine lv_iconst (v := 0) hx hb dX1_advance_86 (by decide) ?_
              refine pf_X1_2 X hG hS (nx_0 n_a) k_a fl_X1_44 dX1_advance_87 (fun H locs hG hS => ?_)
              obtain ⟨M37, eM37⟩ : ∃ y, y = sI M27 a 2 0 := ⟨_, rfl⟩
              rw [← eM37] at hG
              have h := nm_y h M37 eM37
              obtain rfl := Option.some.inj h
              exact g_vret X hr hlk hG hS dX1_advance_90
        · have h := ite_y h q26
          refine lv_aload_n hx hb dX1_advance_43 rfl (lv_at hl 0 rfl) ?_
          refine lv_dup hx hb dX1_advance_44 rfl ?_
          refine gf_X1_3 X hG (nx_0 n_a) k_a fl_X1_129 dX1_advance_45 ?_
          refine lv_iconst (v := 1) hx hb dX1_advance_48 (by decide) ?_
          refine lv_iadd hx hb dX1_advance_49 ?_
          refine pf_X1_3 X hG hS (nx_0 n_a) k_a fl_X1_129 dX1_advance_50 (fun H locs hG hS => ?_)
          obtain ⟨M38, eM38⟩ : ∃ y, y = sI Mw a 3 ((Mw.1 a 3) + 1) := ⟨_, rfl⟩
          rw [← eM38] at hG
          have h := nm_y h M38 eM38
          refine lv_goto (tgt := 8) hx hb dX1_advance_53 (by decide) ?_
          exact ih M38  _ _ _ h hG hS (lv_sub hl [0] rfl)
set_option maxRecDepth 100000 in
set_option maxHeartbeats 4000000 in
theorem ct_X1_advance (l : Launch) (z : gZ) {N : Nat} {M : Mem} {a : Nat} {o : Mem} (k_a : kd a = 1) (n_a : a + 2 ≤ gn z) (h : fX1_advance N M a = some o) : CtV l z yX1_advance cX1_advance 1 none { frames := 1, cells := 0, slots := 0, locals := 20 } [.ref (gad z a)] M o := by
  refine Ct_of rfl (Nat.le_of_ble_eq_true rfl) ?_
  intro p e s m below meth c ls X hr hlk hG hS hl
  have X : gX p m c _ _ s _ RX1 z := X
  have hl : lv_has ls 1 [(0, .ref (gad z a))] := hl
  have hx := X.1
  have hb := X.2.1
  unfold fX1_advance at h
  refine lv_aload_n hx hb dX1_advance_0 rfl (lv_at hl 0 rfl) ?_
  refine lv_aload_n hx hb dX1_advance_1 rfl (lv_at hl 0 rfl) ?_
  refine gf_X1_4 X hG (nx_0 n_a) k_a fl_X1_19 dX1_advance_2 ?_
  refine pf_X1_3 X hG hS (nx_0 n_a) k_a fl_X1_129 dX1_advance_5 (fun H locs hG hS => ?_)
  obtain ⟨M1, eM1⟩ : ∃ y, y = sI M a 3 (M.1 a 4) := ⟨_, rfl⟩
  rw [← eM1] at hG
  have h := nm_y h M1 eM1
  refine wX1_advance_8 X hr hlk k_a n_a _ _ _ _ _ h hG hS (lv_sub hl [0] rfl)
set_option maxRecDepth 100000 in
set_option maxHeartbeats 4000000 in
theorem wX1_isWord_28 {N : Nat} {p : Program} {l : Launch} {e : Env} {s : State} {m : MethodId} {args : Array Value} {below : List Frame} {meth : Method} {c : Code} {z : gZ} {M : Mem} {a : Nat} {b1 : Nat} {o : Int32} (X : gX p m c cX1_isWord 3 s args RX1 z) (hr : meth.sig.returnType = (some .boolean)) (hlk : meth.locks = false) (k_a : kd a = 1) (n_a : a + 2 ≤ gn z) (k_b1 : b1 < 22)  : ∀ (n : Nat) (w2 : Int32) (H : Heap) (locs : List Loc) (ls : Array Slot), fX1_isWord_28 N M a b1  n w2 = some o → gW z M H → va_S (gA z) s.heap H locs → lv_has ls 3 [(0, .ref (gad z a)), (1, .ref (gsk z b1)), (2, .int w2)] → W p l e { frames := 4, cells := 0, slots := 0, locals := 85 } s m args below meth c H locs 0 0 (MQ below (va_Qi (fun r' (_ : Unit) => r' = o) (fun _ t => gW z M t.heap) (gA z)) args s 0 0 (gA z)) (F0 m 28 ls []) := by
  have hx := X.1
  have hb := X.2.1
  intro n
  induction n with
  | zero => intro w2 H locs ls h; cases h
  | succ n ih =>
    intro w2 H locs ls h hG hS hl
    rw [fX1_isWord_28] at h
    refine lv_iload_n hx hb dX1_isWord_28 rfl (lv_at hl 2 rfl) ?_
    refine lv_aload_n hx hb dX1_isWord_29 rfl (lv_at hl 1 rfl) ?_
    obtain ⟨r1, hcr1, h⟩ := bd_y h
    refine g_cTI (k := b1) (av := []) (rest := [.int w2]) X hG hS (ct_J0_length_8abf5 l z k_b1 hcr1) mt_J0_length_8abf5 ml_X1_124 rfl ⟨rfl, rfl, Nat.le_of_ble_eq_true rfl, Nat.le_of_ble_eq_true rfl⟩ ⟨Nat.le_refl 0, Nat.le_refl 0⟩ k_b1 rfl hl.1 (Nat.le_of_ble_eq_true rfl) rfl dX1_isWord_30 (fun H locs hG hS => ?_)
    refine lv_icmp_ge (tgt := 75) hx hb dX1_isWord_33 (by decide) (fun q2 => ?_) (fun q2 => ?_)
    · have h := ite_y h q2
      refine lv_iconst (v := 1) hx hb dX1_isWord_75 (by decide) ?_
      obtain rfl := Option.some.inj h
      exact g_zret (zn (Or.inr rfl)) X hr hlk hG hS dX1_isWord_76
    · have h := ite_n h q2
      refine lv_aload_n hx hb dX1_isWord_36 rfl (lv_at hl 0 rfl) ?_
      refine gf_X1_3 X hG (nx_0 n_a) k_a fl_X1_129 dX1_isWord_37 ?_
      refine lv_iload_n hx hb dX1_isWord_40 rfl (lv_at hl 2 rfl) ?_
      refine lv_iadd hx hb dX1_isWord_41 ?_
      refine lv_sipush (v := 160) hx hb dX1_isWord_42 (by decide) ?_
      refine lv_icmp_ge (tgt := 75) hx hb dX1_isWord_45 (by decide) (fun q3 => ?_) (fun q3 => ?_)
      · have h := ite_y h q3
        refine lv_iconst (v := 1) hx hb dX1_isWord_75 (by decide) ?_
        obtain rfl := Option.some.inj h
        exact g_zret (zn (Or.inr rfl)) X hr hlk hG hS dX1_isWord_76
      · have h := ite_n h q3
        refine lv_aload_n hx hb dX1_isWord_48 rfl (lv_at hl 0 rfl) ?_
        refine gf_X1_0 X hG (nx_0 n_a) k_a fl_X1_9 dX1_isWord_49 ?_
        refine lv_aload_n hx hb dX1_isWord_52 rfl (lv_at hl 0 rfl) ?_
        refine gf_X1_3 X hG (nx_0 n_a) k_a fl_X1_129 dX1_isWord_53 ?_
        refine lv_iload_n hx hb dX1_isWord_56 rfl (lv_at hl 2 rfl) ?_
        refine lv_iadd hx hb dX1_isWord_57 ?_
        obtain ⟨i4, h⟩ := gd_y h
        refine g_iald X hG (nx_a (a := a) (k := 1) (n := 2) n_a (Nat.le_of_ble_eq_true rfl)) (kx_1_1 k_a) (by decide) i4 dX1_isWord_58 ?_
        refine lv_aload_n hx hb dX1_isWord_59 rfl (lv_at hl 1 rfl) ?_
        refine lv_iload_n hx hb dX1_isWord_60 rfl (lv_at hl 2 rfl) ?_
        obtain ⟨r5, hcr5, h⟩ := bd_y h
        refine g_cTI (k := b1) (av := [.int w2]) (rest := [.int (M.1 (a + 1) (((M.1 a 3) + w2) : Int32).toNatClampNeg)]) X hG hS (ct_J0_charAt_5068e l z k_b1 hcr5) mt_J0_charAt_5068e ml_X1_132 rfl ⟨rfl, rfl, Nat.le_of_ble_eq_true rfl, Nat.le_of_ble_eq_true rfl⟩ ⟨Nat.le_refl 0, Nat.le_refl 0⟩ k_b1 rfl hl.1 (Nat.le_of_ble_eq_true rfl) rfl dX1_isWord_61 (fun H locs hG hS => ?_)
        refine lv_icmp_eq (tgt := 69) hx hb dX1_isWord_64 (by decide) (fun q6 => ?_) (fun q6 => ?_)
        · have h := ite_y h q6
          refine lv_iinc (v := (w2 + 1)) (lv' := [(2, .int (w2 + 1)), (0, .ref (gad z a)), (1, .ref (gsk z b1))]) hx hb dX1_isWord_69 hl (k := 2) rfl rfl (by decide) rfl (fun ls hl => ?_)
          refine lv_goto (tgt := 28) hx hb dX1_isWord_72 (by decide) ?_
          exact ih (w2 + 1) _ _ _ h hG hS (lv_sub hl [1, 2, 0] rfl)
        · have h := ite_n h q6
          refine lv_iconst (v := 0) hx hb dX1_isWord_67 (by decide) ?_
          obtain rfl := Option.some.inj h
          exact g_zret (zn (Or.inl rfl)) X hr hlk hG hS dX1_isWord_68
set_option maxRecDepth 100000 in
set_option maxHeartbeats 4000000 in
theorem ct_X1_isWord (l : Launch) (z : gZ) {N : Nat} {M : Mem} {a : Nat} {b1 : Nat} {o : Int32} (k_a : kd a = 1) (n_a : a + 2 ≤ gn z) (k_b1 : b1 < 22) (h : fX1_isWord N M a b1 = some o) : CtI l z yX1_isWord cX1_isWord 3 (some .boolean) { frames := 4, cells := 0, slots := 0, locals := 85 } [.ref (gad z a), .ref (gsk z b1)] M o M := by
  refine Ct_of rfl (Nat.le_of_ble_eq_true rfl) ?_
  intro p e s m below meth c ls X hr hlk hG hS hl
  have X : gX p m c _ _ s _ RX1 z := X
  have hl : lv_has ls 3 [(0, .ref (gad z a)), (1, .ref (gsk z b1))] := hl
  have hx := X.1
  have hb := X.2.1
  unfold fX1_isWord at h
  refine lv_aload_n hx hb dX1_isWord_0 rfl (lv_at hl 0 rfl) ?_
  refine gf_X1_2 X hG (nx_0 n_a) k_a fl_X1_44 dX1_isWord_1 ?_
  refine lv_iconst (v := 1) hx hb dX1_isWord_4 (by decide) ?_
  refine lv_icmp_ne (tgt := 24) hx hb dX1_isWord_5 (by decide) (fun q1 => ?_) (fun q1 => ?_)
  · have h := ite_n h q1
    refine lv_iconst (v := 0) hx hb dX1_isWord_24 (by decide) ?_
    obtain rfl := Option.some.inj h
    exact g_zret (zn (Or.inl rfl)) X hr hlk hG hS dX1_isWord_25
  · have h := ite_y h q1
    refine lv_aload_n hx hb dX1_isWord_8 rfl (lv_at hl 1 rfl) ?_
    obtain ⟨r2, hcr2, h⟩ := bd_y h
    refine g_cTI (k := b1) (av := []) (rest := []) X hG hS (ct_J0_length_8abf5 l z k_b1 hcr2) mt_J0_length_8abf5 ml_X1_124 rfl ⟨rfl, rfl, Nat.le_of_ble_eq_true rfl, Nat.le_of_ble_eq_true rfl⟩ ⟨Nat.le_refl 0, Nat.le_refl 0⟩ k_b1 rfl hl.1 (Nat.le_of_ble_eq_true rfl) rfl dX1_isWord_9 (fun H locs hG hS => ?_)
    refine lv_aload_n hx hb dX1_isWord_12 rfl (lv_at hl 0 rfl) ?_
    refine gf_X1_4 X hG (nx_0 n_a) k_a fl_X1_19 dX1_isWord_13 ?_
    refine lv_aload_n hx hb dX1_isWord_16 rfl (lv_at hl 0 rfl) ?_
    refine gf_X1_3 X hG (nx_0 n_a) k_a fl_X1_129 dX1_isWord_17 ?_
    refine lv_isub hx hb dX1_isWord_20 ?_
    refine lv_icmp_eq (tgt := 26) hx hb dX1_isWord_21 (by decide) (fun q3 => ?_) (fun q3 => ?_)
    · have h := ite_y h q3
      refine lv_iconst (v := 0) hx hb dX1_isWord_26 (by decide) ?_
      refine lv_istore_n (lv' := [(2, .int 0), (0, .ref (gad z a)), (1, .ref (gsk z b1))]) hx hb dX1_isWord_27 rfl hl (by decide) rfl (fun ls hl => ?_)
      refine wX1_isWord_28 X hr hlk k_a n_a k_b1 _ _ _ _ _ h hG hS (lv_sub hl [1, 2, 0] rfl)
    · have h := ite_n h q3
      refine lv_iconst (v := 0) hx hb dX1_isWord_24 (by decide) ?_
      obtain rfl := Option.some.inj h
      exact g_zret (zn (Or.inl rfl)) X hr hlk hG hS dX1_isWord_25
set_option maxRecDepth 100000 in
set_option maxHeartbeats 4000000 in
theorem ct_X1_passWord (l : Launch) (z : gZ) {N : Nat} {M : Mem} {a : Nat} {b1 : Nat} {o : Int32 × Mem} (k_a : kd a = 1) (n_a : a + 2 ≤ gn z) (k_b1 : b1 < 22) (h : fX1_passWord N M a b1 = some o) : CtI l z yX1_passWord cX1_passWord 2 (some .boolean) { frames := 5, cells := 0, slots := 0, locals := 107 } [.ref (gad z a), .ref (gsk z b1)] M o.1 o.2 := by
  refine Ct_of rfl (Nat.le_of_ble_eq_true rfl) ?_
  intro p e s m below meth c ls X hr hlk hG hS hl
  have X : gX p m c _ _ s _ RX1 z := X
  have hl : lv_has ls 2 [(0, .ref (gad z a)), (1, .ref (gsk z b1))] := hl
  have hx := X.1
  have hb := X.2.1
  unfold fX1_passWord at h
  refine lv_aload_n hx hb dX1_passWord_0 rfl (lv_at hl 0 rfl) ?_
  refine lv_aload_n hx hb dX1_passWord_1 rfl (lv_at hl 1 rfl) ?_
  obtain ⟨r1, hcr1, h⟩ := bd_y h
  refine g_cVI (a := a) (ci := 1) (T := TX1) (N := 6) (av := [.ref (gsk z b1)]) (rest := []) X hG hS (ct_X1_isWord l z k_a n_a k_b1 hcr1) mt_X1_isWord ml_X1_121 rfl ⟨rfl, rfl, Nat.le_of_ble_eq_true rfl, Nat.le_of_ble_eq_true rfl⟩ ⟨Nat.le_refl 0, Nat.le_refl 0⟩ (nx_0 n_a) k_a (by decide) rfl hl.1 (Nat.le_of_ble_eq_true rfl) rfl dX1_passWord_2 (fun H locs hG hS => ?_)
  refine lv_if_ne (tgt := 10) hx hb dX1_passWord_5 (by decide) (fun q2 => ?_) (fun q2 => ?_)
  · have h := ite_n h q2
    refine lv_aload_n hx hb dX1_passWord_10 rfl (lv_at hl 0 rfl) ?_
    obtain ⟨r3, hcr3, h⟩ := bd_y h
    refine g_cVV (a := a) (ci := 1) (T := TX1) (N := 6) (av := []) (rest := []) X hG hS (ct_X1_advance l z k_a n_a hcr3) mt_X1_advance ml_X1_22 rfl ⟨rfl, rfl, Nat.le_of_ble_eq_true rfl, Nat.le_of_ble_eq_true rfl⟩ ⟨Nat.le_refl 0, Nat.le_refl 0⟩ (nx_0 n_a) k_a (by decide) rfl hl.1 (Nat.le_of_ble_eq_true rfl) rfl dX1_passWord_11 (fun H locs hG hS => ?_)
    refine lv_iconst (v := 1) hx hb dX1_passWord_14 (by decide) ?_
    obtain rfl := Option.some.inj h
    exact g_zret (zn (Or.inr rfl)) X hr hlk hG hS dX1_passWord_15
  · have h := ite_y h q2
    refine lv_iconst (v := 0) hx hb dX1_passWord_8 (by decide) ?_
    obtain rfl := Option.some.inj h
    exact g_zret (zn (Or.inl rfl)) X hr hlk hG hS dX1_passWord_9
set_option maxRecDepth 100000 in
set_option maxHeartbeats 4000000 in
theorem wX1_numberAtHand_24 {N : Nat} {p : Program} {l : Launch} {e : Env} {s : State} {m : MethodId} {args : Array Value} {below : List Frame} {meth : Method} {c : Code} {z : gZ} {M : Mem} {a : Nat} {o : Int32} (X : gX p m c cX1_numberAtHand 3 s args RX1 z) (hr : meth.sig.returnType = (some .int)) (hlk : meth.locks = false) (k_a : kd a = 1) (n_a : a + 2 ≤ gn z)  : ∀ (n : Nat) (w1 : Int32) (w2 : Int32) (H : Heap) (locs : List Loc) (ls : Array Slot), fX1_numberAtHand_24 N M a  n w1 w2 = some o → gW z M H → va_S (gA z) s.heap H locs → lv_has ls 3 [(0, .ref (gad z a)), (1, .int w1), (2, .int w2)] → W p l e { frames := 0, cells := 0, slots := 0, locals := 0 } s m args below meth c H locs 0 0 (MQ below (va_Qi (fun r' (_ : Unit) => r' = o) (fun _ t => gW z M t.heap) (gA z)) args s 0 0 (gA z)) (F0 m 24 ls []) := by
  have hx := X.1
  have hb := X.2.1
  intro n
  induction n with
  | zero => intro w1 w2 H locs ls h; cases h
  | succ n ih =>
    intro w1 w2 H locs ls h hG hS hl
    rw [fX1_numberAtHand_24] at h
    refine lv_iload_n hx hb dX1_numberAtHand_24 rfl (lv_at hl 2 rfl) ?_
    refine lv_aload_n hx hb dX1_numberAtHand_25 rfl (lv_at hl 0 rfl) ?_
    refine gf_X1_4 X hG (nx_0 n_a) k_a fl_X1_19 dX1_numberAtHand_26 ?_
    refine lv_icmp_ge (tgt := 60) hx hb dX1_numberAtHand_29 (by decide) (fun q1 => ?_) (fun q1 => ?_)
    · have h := ite_y h q1
      refine lv_iload_n hx hb dX1_numberAtHand_60 rfl (lv_at hl 1 rfl) ?_
      obtain rfl := Option.some.inj h
      exact g_iret X hr hlk hG hS dX1_numberAtHand_61
    · have h := ite_n h q1
      refine lv_iload_n hx hb dX1_numberAtHand_32 rfl (lv_at hl 2 rfl) ?_
      refine lv_sipush (v := 160) hx hb dX1_numberAtHand_33 (by decide) ?_
      refine lv_icmp_ge (tgt := 60) hx hb dX1_numberAtHand_36 (by decide) (fun q2 => ?_) (fun q2 => ?_)
      · have h := ite_y h q2
        refine lv_iload_n hx hb dX1_numberAtHand_60 rfl (lv_at hl 1 rfl) ?_
        obtain rfl := Option.some.inj h
        exact g_iret X hr hlk hG hS dX1_numberAtHand_61
      · have h := ite_n h q2
        refine lv_bipush (v := 10) hx hb dX1_numberAtHand_39 (by decide) ?_
        refine lv_iload_n hx hb dX1_numberAtHand_41 rfl (lv_at hl 1 rfl) ?_
        refine lv_imul hx hb dX1_numberAtHand_42 ?_
        refine lv_aload_n hx hb dX1_numberAtHand_43 rfl (lv_at hl 0 rfl) ?_
        refine gf_X1_0 X hG (nx_0 n_a) k_a fl_X1_9 dX1_numberAtHand_44 ?_
        refine lv_iload_n hx hb dX1_numberAtHand_47 rfl (lv_at hl 2 rfl) ?_
        obtain ⟨i3, h⟩ := gd_y h
        refine g_iald X hG (nx_a (a := a) (k := 1) (n := 2) n_a (Nat.le_of_ble_eq_true rfl)) (kx_1_1 k_a) (by decide) i3 dX1_numberAtHand_48 ?_
        refine lv_iadd hx hb dX1_numberAtHand_49 ?_
        refine lv_bipush (v := 48) hx hb dX1_numberAtHand_50 (by decide) ?_
        refine lv_isub hx hb dX1_numberAtHand_52 ?_
        refine lv_topi (fun x4 ex4 => ?_)
        have h := nm_y h x4 ex4
        refine lv_istore_n (lv' := [(1, .int x4), (0, .ref (gad z a)), (2, .int w2)]) hx hb dX1_numberAtHand_53 rfl hl (by decide) rfl (fun ls hl => ?_)
        refine lv_iinc (v := (w2 + 1)) (lv' := [(2, .int (w2 + 1)), (1, .int x4), (0, .ref (gad z a))]) hx hb dX1_numberAtHand_54 hl (k := 2) rfl rfl (by decide) rfl (fun ls hl => ?_)
        refine lv_goto (tgt := 24) hx hb dX1_numberAtHand_57 (by decide) ?_
        exact ih x4 (w2 + 1) _ _ _ h hG hS (lv_sub hl [2, 1, 0] rfl)
set_option maxRecDepth 100000 in
set_option maxHeartbeats 4000000 in
theorem ct_X1_numberAtHand (l : Launch) (z : gZ) {N : Nat} {M : Mem} {a : Nat} {o : Int32} (k_a : kd a = 1) (n_a : a + 2 ≤ gn z) (h : fX1_numberAtHand N M a = some o) : CtI l z yX1_numberAtHand cX1_numberAtHand 3 (some .int) { frames := 0, cells := 0, slots := 0, locals := 0 } [.ref (gad z a)] M o M := by
  refine Ct_of rfl (Nat.le_of_ble_eq_true rfl) ?_
  intro p e s m below meth c ls X hr hlk hG hS hl
  have X : gX p m c _ _ s _ RX1 z := X
  have hl : lv_has ls 3 [(0, .ref (gad z a))] := hl
  have hx := X.1
  have hb := X.2.1
  unfold fX1_numberAtHand at h
  refine lv_aload_n hx hb dX1_numberAtHand_0 rfl (lv_at hl 0 rfl) ?_
  refine gf_X1_4 X hG (nx_0 n_a) k_a fl_X1_19 dX1_numberAtHand_1 ?_
  refine lv_aload_n hx hb dX1_numberAtHand_4 rfl (lv_at hl 0 rfl) ?_
  refine gf_X1_3 X hG (nx_0 n_a) k_a fl_X1_129 dX1_numberAtHand_5 ?_
  refine lv_isub hx hb dX1_numberAtHand_8 ?_
  refine lv_iconst (v := 3) hx hb dX1_numberAtHand_9 (by decide) ?_
  refine lv_icmp_le (tgt := 17) hx hb dX1_numberAtHand_10 (by decide) (fun q1 => ?_) (fun q1 => ?_)
  · have h := ite_y h q1
    refine lv_iconst (v := 0) hx hb dX1_numberAtHand_17 (by decide) ?_
    refine lv_istore_n (lv' := [(1, .int 0), (0, .ref (gad z a))]) hx hb dX1_numberAtHand_18 rfl hl (by decide) rfl (fun ls hl => ?_)
    refine lv_aload_n hx hb dX1_numberAtHand_19 rfl (lv_at hl 1 rfl) ?_
    refine gf_X1_3 X hG (nx_0 n_a) k_a fl_X1_129 dX1_numberAtHand_20 ?_
    refine lv_topi (fun x2 ex2 => ?_)
    have h := nm_y h x2 ex2
    refine lv_istore_n (lv' := [(2, .int x2), (1, .int 0), (0, .ref (gad z a))]) hx hb dX1_numberAtHand_23 rfl hl (by decide) rfl (fun ls hl => ?_)
    refine wX1_numberAtHand_24 X hr hlk k_a n_a _ _ _ _ _ _ h hG hS (lv_sub hl [2, 1, 0] rfl)
  · have h := ite_n h q1
    refine lv_sipush (v := 1000) hx hb dX1_numberAtHand_13 (by decide) ?_
    obtain rfl := Option.some.inj h
    exact g_iret X hr hlk hG hS dX1_numberAtHand_16
set_option maxRecDepth 100000 in
set_option maxHeartbeats 4000000 in
theorem ct_X1_passNumber (l : Launch) (z : gZ) {N : Nat} {M : Mem} {a : Nat} {v1 : Int32} {v2 : Int32} {o : Int32 × Mem} (k_a : kd a = 1) (n_a : a + 2 ≤ gn z) (h : fX1_passNumber N M a v1 v2 = some o) : CtI l z yX1_passNumber cX1_passNumber 4 (some .boolean) { frames := 2, cells := 0, slots := 0, locals := 40 } [.ref (gad z a), .int v1, .int v2] M o.1 o.2 := by
  refine Ct_of rfl (Nat.le_of_ble_eq_true rfl) ?_
  intro p e s m below meth c ls X hr hlk hG hS hl
  have X : gX p m c _ _ s _ RX1 z := X
  have hl : lv_has ls 4 [(0, .ref (gad z a)), (1, .int v1), (2, .int v2)] := hl
  have hx := X.1
  have hb := X.2.1
  unfold fX1_passNumber at h
  refine lv_aload_n hx hb dX1_passNumber_0 rfl (lv_at hl 0 rfl) ?_
  refine gf_X1_2 X hG (nx_0 n_a) k_a fl_X1_44 dX1_passNumber_1 ?_
  refine lv_iconst (v := 2) hx hb dX1_passNumber_4 (by decide) ?_
  refine lv_icmp_ne (tgt := 15) hx hb dX1_passNumber_5 (by decide) (fun q1 => ?_) (fun q1 => ?_)
  · have h := ite_n h q1
    refine lv_iconst (v := (-1)) hx hb dX1_passNumber_15 (by decide) ?_
    refine lv_istore_n (lv' := [(3, .int (-1)), (0, .ref (gad z a)), (1, .int v1), (2, .int v2)]) hx hb dX1_passNumber_16 rfl hl (by decide) rfl (fun ls hl => ?_)
    refine lv_aload_n hx hb dX1_passNumber_17 rfl (lv_at hl 1 rfl) ?_
    refine gf_X1_2 X hG (nx_0 n_a) k_a fl_X1_44 dX1_passNumber_18 ?_
    refine lv_iconst (v := 2) hx hb dX1_passNumber_21 (by decide) ?_
    refine lv_icmp_ne (tgt := 35) hx hb dX1_passNumber_22 (by decide) (fun q2 => ?_) (fun q2 => ?_)
    · have h := ite_n h q2
      refine lv_iconst (v := 0) hx hb dX1_passNumber_35 (by decide) ?_
      obtain rfl := Option.some.inj h
      exact g_zret (zn (Or.inl rfl)) X hr hlk hG hS dX1_passNumber_36
    · have h := ite_y h q2
      refine lv_iload_n hx hb dX1_passNumber_25 rfl (lv_at hl 0 rfl) ?_
      refine lv_iload_n hx hb dX1_passNumber_26 rfl (lv_at hl 2 rfl) ?_
      refine lv_icmp_lt (tgt := 35) hx hb dX1_passNumber_27 (by decide) (fun q3 => ?_) (fun q3 => ?_)
      · have h := ite_y h q3
        refine lv_iconst (v := 0) hx hb dX1_passNumber_35 (by decide) ?_
        obtain rfl := Option.some.inj h
        exact g_zret (zn (Or.inl rfl)) X hr hlk hG hS dX1_passNumber_36
      · have h := ite_n h q3
        refine lv_iload_n hx hb dX1_passNumber_30 rfl (lv_at hl 0 rfl) ?_
        refine lv_iload_n hx hb dX1_passNumber_31 rfl (lv_at hl 3 rfl) ?_
        refine lv_icmp_le (tgt := 37) hx hb dX1_passNumber_32 (by decide) (fun q4 => ?_) (fun q4 => ?_)
        · have h := ite_y h q4
          refine lv_aload_n hx hb dX1_passNumber_37 rfl (lv_at hl 1 rfl) ?_
          refine lv_iload_n hx hb dX1_passNumber_38 rfl (lv_at hl 0 rfl) ?_
          refine pf_X1_5 X hG hS (nx_0 n_a) k_a fl_X1_35 dX1_passNumber_39 (fun H locs hG hS => ?_)
          obtain ⟨M5, eM5⟩ : ∃ y, y = sI M a 5 (-1) := ⟨_, rfl⟩
          rw [← eM5] at hG
          have h := nm_y h M5 eM5
          refine lv_aload_n hx hb dX1_passNumber_42 rfl (lv_at hl 1 rfl) ?_
          obtain ⟨r6, hcr6, h⟩ := bd_y h
          refine g_cVV (a := a) (ci := 1) (T := TX1) (N := 6) (av := []) (rest := []) X hG hS (ct_X1_advance l z k_a n_a hcr6) mt_X1_advance ml_X1_22 rfl ⟨rfl, rfl, Nat.le_of_ble_eq_true rfl, Nat.le_of_ble_eq_true rfl⟩ ⟨Nat.le_refl 0, Nat.le_refl 0⟩ (nx_0 n_a) k_a (by decide) rfl hl.1 (Nat.le_of_ble_eq_true rfl) rfl dX1_passNumber_43 (fun H locs hG hS => ?_)
          refine lv_iconst (v := 1) hx hb dX1_passNumber_46 (by decide) ?_
          obtain rfl := Option.some.inj h
          exact g_zret (zn (Or.inr rfl)) X hr hlk hG hS dX1_passNumber_47
        · have h := ite_n h q4
          refine lv_iconst (v := 0) hx hb dX1_passNumber_35 (by decide) ?_
          obtain rfl := Option.some.inj h
          exact g_zret (zn (Or.inl rfl)) X hr hlk hG hS dX1_passNumber_36
  · have h := ite_y h q1
    refine lv_aload_n hx hb dX1_passNumber_8 rfl (lv_at hl 0 rfl) ?_
    obtain ⟨r7, hcr7, h⟩ := bd_y h
    refine g_cVI (a := a) (ci := 1) (T := TX1) (N := 6) (av := []) (rest := []) X hG hS (ct_X1_numberAtHand l z k_a n_a hcr7) mt_X1_numberAtHand ml_X1_108 rfl ⟨rfl, rfl, Nat.le_of_ble_eq_true rfl, Nat.le_of_ble_eq_true rfl⟩ ⟨Nat.le_refl 0, Nat.le_refl 0⟩ (nx_0 n_a) k_a (by decide) rfl hl.1 (Nat.le_of_ble_eq_true rfl) rfl dX1_passNumber_9 (fun H locs hG hS => ?_)
    refine lv_goto (tgt := 16) hx hb dX1_passNumber_12 (by decide) ?_
    refine lv_istore_n (lv' := [(3, .int r7), (0, .ref (gad z a)), (1, .int v1), (2, .int v2)]) hx hb dX1_passNumber_16 rfl hl (by decide) rfl (fun ls hl => ?_)
    refine lv_aload_n hx hb dX1_passNumber_17 rfl (lv_at hl 1 rfl) ?_
    refine gf_X1_2 X hG (nx_0 n_a) k_a fl_X1_44 dX1_passNumber_18 ?_
    refine lv_iconst (v := 2) hx hb dX1_passNumber_21 (by decide) ?_
    refine lv_icmp_ne (tgt := 35) hx hb dX1_passNumber_22 (by decide) (fun q8 => ?_) (fun q8 => ?_)
    · have h := ite_n h q8
      refine lv_iconst (v := 0) hx hb dX1_passNumber_35 (by decide) ?_
      obtain rfl := Option.some.inj h
      exact g_zret (zn (Or.inl rfl)) X hr hlk hG hS dX1_passNumber_36
    · have h := ite_y h q8
      refine lv_iload_n hx hb dX1_passNumber_25 rfl (lv_at hl 0 rfl) ?_
      refine lv_iload_n hx hb dX1_passNumber_26 rfl (lv_at hl 2 rfl) ?_
      refine lv_icmp_lt (tgt := 35) hx hb dX1_passNumber_27 (by decide) (fun q9 => ?_) (fun q9 => ?_)
      · have h := ite_y h q9
        refine lv_iconst (v := 0) hx hb dX1_passNumber_35 (by decide) ?_
        obtain rfl := Option.some.inj h
        exact g_zret (zn (Or.inl rfl)) X hr hlk hG hS dX1_passNumber_36
      · have h := ite_n h q9
        refine lv_iload_n hx hb dX1_passNumber_30 rfl (lv_at hl 0 rfl) ?_
        refine lv_iload_n hx hb dX1_passNumber_31 rfl (lv_at hl 3 rfl) ?_
        refine lv_icmp_le (tgt := 37) hx hb dX1_passNumber_32 (by decide) (fun q10 => ?_) (fun q10 => ?_)
        · have h := ite_y h q10
          refine lv_aload_n hx hb dX1_passNumber_37 rfl (lv_at hl 1 rfl) ?_
          refine lv_iload_n hx hb dX1_passNumber_38 rfl (lv_at hl 0 rfl) ?_
          refine pf_X1_5 X hG hS (nx_0 n_a) k_a fl_X1_35 dX1_passNumber_39 (fun H locs hG hS => ?_)
          obtain ⟨M11, eM11⟩ : ∃ y, y = sI M a 5 r7 := ⟨_, rfl⟩
          rw [← eM11] at hG
          have h := nm_y h M11 eM11
          refine lv_aload_n hx hb dX1_passNumber_42 rfl (lv_at hl 1 rfl) ?_
          obtain ⟨r12, hcr12, h⟩ := bd_y h
          refine g_cVV (a := a) (ci := 1) (T := TX1) (N := 6) (av := []) (rest := []) X hG hS (ct_X1_advance l z k_a n_a hcr12) mt_X1_advance ml_X1_22 rfl ⟨rfl, rfl, Nat.le_of_ble_eq_true rfl, Nat.le_of_ble_eq_true rfl⟩ ⟨Nat.le_refl 0, Nat.le_refl 0⟩ (nx_0 n_a) k_a (by decide) rfl hl.1 (Nat.le_of_ble_eq_true rfl) rfl dX1_passNumber_43 (fun H locs hG hS => ?_)
          refine lv_iconst (v := 1) hx hb dX1_passNumber_46 (by decide) ?_
          obtain rfl := Option.some.inj h
          exact g_zret (zn (Or.inr rfl)) X hr hlk hG hS dX1_passNumber_47
        · have h := ite_n h q10
          refine lv_iconst (v := 0) hx hb dX1_passNumber_35 (by decide) ?_
          obtain rfl := Option.some.inj h
          exact g_zret (zn (Or.inl rfl)) X hr hlk hG hS dX1_passNumber_36
set_option maxRecDepth 100000 in
set_option maxHeartbeats 4000000 in
theorem ct_X1_readForAll (l : Launch) (z : gZ) {N : Nat} {M : Mem} {a : Nat} {b1 : Nat} {o : Int32 × Mem} (k_a : kd a = 1) (n_a : a + 2 ≤ gn z) (k_b1 : kd b1 = 10000 + 12) (n_b1 : b1 < gn z) (h : fX1_readForAll N M a b1 = some o) : CtI l z yX1_readForAll cX1_readForAll 2 (some .boolean) { frames := 3, cells := 0, slots := 0, locals := 63 } [.ref (gad z a), .ref (gad z b1)] M o.1 o.2 := by
  refine Ct_of rfl (Nat.le_of_ble_eq_true rfl) ?_
  intro p e s m below meth c ls X hr hlk hG hS hl
  have X : gX p m c _ _ s _ RX1 z := X
  have hl : lv_has ls 2 [(0, .ref (gad z a)), (1, .ref (gad z b1))] := hl
  have hx := X.1
  have hb := X.2.1
  unfold fX1_readForAll at h
  refine lv_aload_n hx hb dX1_readForAll_0 rfl (lv_at hl 0 rfl) ?_
  refine lv_iconst (v := 0) hx hb dX1_readForAll_1 (by decide) ?_
  refine lv_bipush (v := 99) hx hb dX1_readForAll_2 (by decide) ?_
  obtain ⟨r1, hcr1, h⟩ := bd_y h
  refine g_cVI (a := a) (ci := 1) (T := TX1) (N := 6) (av := [.int 0, .int 99]) (rest := []) X hG hS (ct_X1_passNumber l z k_a n_a hcr1) mt_X1_passNumber ml_X1_31 rfl ⟨rfl, rfl, Nat.le_of_ble_eq_true rfl, Nat.le_of_ble_eq_true rfl⟩ ⟨Nat.le_refl 0, Nat.le_refl 0⟩ (nx_0 n_a) k_a (by decide) rfl hl.1 (Nat.le_of_ble_eq_true rfl) rfl dX1_readForAll_4 (fun H locs hG hS => ?_)
  refine lv_if_ne (tgt := 12) hx hb dX1_readForAll_7 (by decide) (fun q2 => ?_) (fun q2 => ?_)
  · have h := ite_n h q2
    refine lv_aload_n hx hb dX1_readForAll_12 rfl (lv_at hl 1 rfl) ?_
    refine lv_aload_n hx hb dX1_readForAll_13 rfl (lv_at hl 0 rfl) ?_
    refine gf_X1_5 X hG (nx_0 n_a) k_a fl_X1_35 dX1_readForAll_14 ?_
    obtain ⟨r3, hcr3, h⟩ := bd_y h
    refine g_cSV (av := [.ref (gad z b1), .int (r1.2.1 a 5)]) (rest := []) X hG hS (ct_J7_fill_53178 l z k_b1 n_b1 (by decide) hcr3) mt_J7_fill_53178 ml_X1_96 rfl ⟨rfl, rfl, Nat.le_of_ble_eq_true rfl, Nat.le_of_ble_eq_true rfl⟩ ⟨Nat.le_refl 0, Nat.le_refl 0⟩ hl.1 (Nat.le_of_ble_eq_true rfl) rfl dX1_readForAll_17 (fun H locs hG hS => ?_)
    refine lv_iconst (v := 1) hx hb dX1_readForAll_20 (by decide) ?_
    obtain rfl := Option.some.inj h
    exact g_zret (zn (Or.inr rfl)) X hr hlk hG hS dX1_readForAll_21
  · have h := ite_y h q2
    refine lv_iconst (v := 0) hx hb dX1_readForAll_10 (by decide) ?_
    obtain rfl := Option.some.inj h
    exact g_zret (zn (Or.inl rfl)) X hr hlk hG hS dX1_readForAll_11
set_option maxRecDepth 100000 in
set_option maxHeartbeats 4000000 in
theorem ct_X1_readMore (l : Launch) (z : gZ) {N : Nat} {M : Mem} {a : Nat} {b1 : Nat} {o : Int32 × Mem} (k_a : kd a = 1) (n_a : a + 2 ≤ gn z) (k_b1 : kd b1 = 4) (n_b1 : b1 + 8 ≤ gn z) (h : fX1_readMore N M a b1 = some o) : CtI l z yX1_readMore cX1_readMore 2 (some .boolean) { frames := 3, cells := 0, slots := 0, locals := 63 } [.ref (gad z a), .ref (gad z b1)] M o.1 o.2 := by
  refine Ct_of rfl (Nat.le_of_ble_eq_true rfl) ?_
  intro p e s m below meth c ls X hr hlk hG hS hl
  have X : gX p m c _ _ s _ RX1 z := X
  have hl : lv_has ls 2 [(0, .ref (gad z a)), (1, .ref (gad z b1))] := hl
  have hx := X.1
  have hb := X.2.1
  unfold fX1_readMore at h
  refine lv_aload_n hx hb dX1_readMore_0 rfl (lv_at hl 0 rfl) ?_
  refine lv_iconst (v := 0) hx hb dX1_readMore_1 (by decide) ?_
  refine lv_bipush (v := 9) hx hb dX1_readMore_2 (by decide) ?_
  obtain ⟨r1, hcr1, h⟩ := bd_y h
  refine g_cVI (a := a) (ci := 1) (T := TX1) (N := 6) (av := [.int 0, .int 9]) (rest := []) X hG hS (ct_X1_passNumber l z k_a n_a hcr1) mt_X1_passNumber ml_X1_31 rfl ⟨rfl, rfl, Nat.le_of_ble_eq_true rfl, Nat.le_of_ble_eq_true rfl⟩ ⟨Nat.le_refl 0, Nat.le_refl 0⟩ (nx_0 n_a) k_a (by decide) rfl hl.1 (Nat.le_of_ble_eq_true rfl) rfl dX1_readMore_4 (fun H locs hG hS => ?_)
  refine lv_if_ne (tgt := 12) hx hb dX1_readMore_7 (by decide) (fun q2 => ?_) (fun q2 => ?_)
  · have h := ite_n h q2
    refine lv_aload_n hx hb dX1_readMore_12 rfl (lv_at hl 1 rfl) ?_
    refine lv_aload_n hx hb dX1_readMore_13 rfl (lv_at hl 0 rfl) ?_
    refine gf_X1_5 X hG (nx_0 n_a) k_a fl_X1_35 dX1_readMore_14 ?_
    refine pf_X4_8 X hG hS (nx_0 n_b1) k_b1 fl_X1_102 dX1_readMore_17 (fun H locs hG hS => ?_)
    obtain ⟨M3, eM3⟩ : ∃ y, y = sI r1.2 b1 8 (r1.2.1 a 5) := ⟨_, rfl⟩
    rw [← eM3] at hG
    have h := nm_y h M3 eM3
    refine lv_iconst (v := 1) hx hb dX1_readMore_20 (by decide) ?_
    obtain rfl := Option.some.inj h
    exact g_zret (zn (Or.inr rfl)) X hr hlk hG hS dX1_readMore_21
  · have h := ite_y h q2
    refine lv_iconst (v := 0) hx hb dX1_readMore_10 (by decide) ?_
    obtain rfl := Option.some.inj h
    exact g_zret (zn (Or.inl rfl)) X hr hlk hG hS dX1_readMore_11
set_option maxRecDepth 100000 in
set_option maxHeartbeats 4000000 in
theorem ct_X1_readOne (l : Launch) (z : gZ) {N : Nat} {M : Mem} {a : Nat} {b1 : Nat} {o : Int32 × Mem} (k_a : kd a = 1) (n_a : a + 2 ≤ gn z) (k_b1 : kd b1 = 4) (n_b1 : b1 + 8 ≤ gn z) (h : fX1_readOne N M a b1 = some o) : CtI l z yX1_readOne cX1_readOne 4 (some .boolean) { frames := 6, cells := 0, slots := 0, locals := 128 } [.ref (gad z a), .ref (gad z b1)] M o.1 o.2 := by
  refine Ct_of rfl (Nat.le_of_ble_eq_true rfl) ?_
  intro p e s m below meth c ls X hr hlk hG hS hl
  have X : gX p m c _ _ s _ RX1 z := X
  have hl : lv_has ls 4 [(0, .ref (gad z a)), (1, .ref (gad z b1))] := hl
  have hx := X.1
  have hb := X.2.1
  unfold fX1_readOne at h
  refine lv_aload_n hx hb dX1_readOne_0 rfl (lv_at hl 0 rfl) ?_
  refine lv_iconst (v := 0) hx hb dX1_readOne_1 (by decide) ?_
  refine lv_aload_n hx hb dX1_readOne_2 rfl (lv_at hl 1 rfl) ?_
  refine gf_X4_7 X hG (nx_0 n_b1) k_b1 fl_X1_83 dX1_readOne_3 ?_
  refine lv_iconst (v := 1) hx hb dX1_readOne_6 (by decide) ?_
  refine lv_isub hx hb dX1_readOne_7 ?_
  obtain ⟨r1, hcr1, h⟩ := bd_y h
  refine g_cVI (a := a) (ci := 1) (T := TX1) (N := 6) (av := [.int 0, .int ((M.1 b1 7) - 1)]) (rest := []) X hG hS (ct_X1_passNumber l z k_a n_a hcr1) mt_X1_passNumber ml_X1_31 rfl ⟨rfl, rfl, Nat.le_of_ble_eq_true rfl, Nat.le_of_ble_eq_true rfl⟩ ⟨Nat.le_refl 0, Nat.le_refl 0⟩ (nx_0 n_a) k_a (by decide) rfl hl.1 (Nat.le_of_ble_eq_true rfl) rfl dX1_readOne_8 (fun H locs hG hS => ?_)
  refine lv_if_ne (tgt := 16) hx hb dX1_readOne_11 (by decide) (fun q2 => ?_) (fun q2 => ?_)
  · have h := ite_n h q2
    refine lv_aload_n hx hb dX1_readOne_16 rfl (lv_at hl 0 rfl) ?_
    refine gf_X1_5 X hG (nx_0 n_a) k_a fl_X1_35 dX1_readOne_17 ?_
    refine lv_topi (fun x3 ex3 => ?_)
    have h := nm_y h x3 ex3
    refine lv_istore_n (lv' := [(2, .int x3), (0, .ref (gad z a)), (1, .ref (gad z b1))]) hx hb dX1_readOne_20 rfl hl (by decide) rfl (fun ls hl => ?_)
    refine lv_aload_n hx hb dX1_readOne_21 rfl (lv_at hl 1 rfl) ?_
    refine g_ldcS X (k := 1) (tx := "cost") (by decide) dX1_readOne_22 ?_
    obtain ⟨r4, hcr4, h⟩ := bd_y h
    refine g_cVI (a := a) (ci := 1) (T := TX1) (N := 6) (av := [.ref (gsk z 1)]) (rest := []) X hG hS (ct_X1_passWord l z k_a n_a (by decide : 1 < 22) hcr4) mt_X1_passWord ml_X1_27 rfl ⟨rfl, rfl, Nat.le_of_ble_eq_true rfl, Nat.le_of_ble_eq_true rfl⟩ ⟨Nat.le_refl 0, Nat.le_refl 0⟩ (nx_0 n_a) k_a (by decide) rfl hl.1 (Nat.le_of_ble_eq_true rfl) rfl dX1_readOne_24 (fun H locs hG hS => ?_)
    refine lv_if_eq (tgt := 40) hx hb dX1_readOne_27 (by decide) (fun q5 => ?_) (fun q5 => ?_)
    · have h := ite_y h q5
      refine lv_iconst (v := 0) hx hb dX1_readOne_40 (by decide) ?_
      obtain rfl := Option.some.inj h
      exact g_zret (zn (Or.inl rfl)) X hr hlk hG hS dX1_readOne_41
    · have h := ite_n h q5
      refine lv_aload_n hx hb dX1_readOne_30 rfl (lv_at hl 1 rfl) ?_
      refine lv_iconst (v := 0) hx hb dX1_readOne_31 (by decide) ?_
      refine lv_bipush (v := 99) hx hb dX1_readOne_32 (by decide) ?_
      obtain ⟨r6, hcr6, h⟩ := bd_y h
      refine g_cVI (a := a) (ci := 1) (T := TX1) (N := 6) (av := [.int 0, .int 99]) (rest := []) X hG hS (ct_X1_passNumber l z k_a n_a hcr6) mt_X1_passNumber ml_X1_31 rfl ⟨rfl, rfl, Nat.le_of_ble_eq_true rfl, Nat.le_of_ble_eq_true rfl⟩ ⟨Nat.le_refl 0, Nat.le_refl 0⟩ (nx_0 n_a) k_a (by decide) rfl hl.1 (Nat.le_of_ble_eq_true rfl) rfl dX1_readOne_34 (fun H locs hG hS => ?_)
      refine lv_if_ne (tgt := 42) hx hb dX1_readOne_37 (by decide) (fun q7 => ?_) (fun q7 => ?_)
      · have h := ite_n h q7
        refine lv_aload_n hx hb dX1_readOne_42 rfl (lv_at hl 1 rfl) ?_
        refine gf_X1_5 X hG (nx_0 n_a) k_a fl_X1_35 dX1_readOne_43 ?_
        refine lv_topi (fun x8 ex8 => ?_)
        have h := nm_y h x8 ex8
        refine lv_istore_n (lv' := [(3, .int x8), (2, .int x3), (0, .ref (gad z a)), (1, .ref (gad z b1))]) hx hb dX1_readOne_46 rfl hl (by decide) rfl (fun ls hl => ?_)
        refine lv_aload_n hx hb dX1_readOne_47 rfl (lv_at hl 2 rfl) ?_
        refine g_ldcS X (k := 2) (tx := "worth") (by decide) dX1_readOne_48 ?_
        obtain ⟨r9, hcr9, h⟩ := bd_y h
        refine g_cVI (a := a) (ci := 1) (T := TX1) (N := 6) (av := [.ref (gsk z 2)]) (rest := []) X hG hS (ct_X1_passWord l z k_a n_a (by decide : 2 < 22) hcr9) mt_X1_passWord ml_X1_27 rfl ⟨rfl, rfl, Nat.le_of_ble_eq_true rfl, Nat.le_of_ble_eq_true rfl⟩ ⟨Nat.le_refl 0, Nat.le_refl 0⟩ (nx_0 n_a) k_a (by decide) rfl hl.1 (Nat.le_of_ble_eq_true rfl) rfl dX1_readOne_50 (fun H locs hG hS => ?_)
        refine lv_if_eq (tgt := 66) hx hb dX1_readOne_53 (by decide) (fun q10 => ?_) (fun q10 => ?_)
        · have h := ite_y h q10
          refine lv_iconst (v := 0) hx hb dX1_readOne_66 (by decide) ?_
          obtain rfl := Option.some.inj h
          exact g_zret (zn (Or.inl rfl)) X hr hlk hG hS dX1_readOne_67
        · have h := ite_n h q10
          refine lv_aload_n hx hb dX1_readOne_56 rfl (lv_at hl 2 rfl) ?_
          refine lv_iconst (v := 0) hx hb dX1_readOne_57 (by decide) ?_
          refine lv_bipush (v := 99) hx hb dX1_readOne_58 (by decide) ?_
          obtain ⟨r11, hcr11, h⟩ := bd_y h
          refine g_cVI (a := a) (ci := 1) (T := TX1) (N := 6) (av := [.int 0, .int 99]) (rest := []) X hG hS (ct_X1_passNumber l z k_a n_a hcr11) mt_X1_passNumber ml_X1_31 rfl ⟨rfl, rfl, Nat.le_of_ble_eq_true rfl, Nat.le_of_ble_eq_true rfl⟩ ⟨Nat.le_refl 0, Nat.le_refl 0⟩ (nx_0 n_a) k_a (by decide) rfl hl.1 (Nat.le_of_ble_eq_true rfl) rfl dX1_readOne_60 (fun H locs hG hS => ?_)
          refine lv_if_ne (tgt := 68) hx hb dX1_readOne_63 (by decide) (fun q12 => ?_) (fun q12 => ?_)
          · have h := ite_n h q12
            refine lv_aload_n hx hb dX1_readOne_68 rfl (lv_at hl 3 rfl) ?_
            refine lv_iload_n hx hb dX1_readOne_69 rfl (lv_at hl 1 rfl) ?_
            refine lv_iload_n hx hb dX1_readOne_70 rfl (lv_at hl 0 rfl) ?_
            refine lv_aload_n hx hb dX1_readOne_71 rfl (lv_at hl 2 rfl) ?_
            refine gf_X1_5 X hG (nx_0 n_a) k_a fl_X1_35 dX1_readOne_72 ?_
            obtain ⟨r13, hcr13, h⟩ := bd_y h
            refine g_cVV (a := b1) (ci := 4) (T := TX4) (N := 10) (av := [.int x3, .int x8, .int (r11.2.1 a 5)]) (rest := []) X hG hS (ct_X4_value l z k_b1 n_b1 hcr13) mt_X4_value ml_X1_104 rfl ⟨rfl, rfl, Nat.le_of_ble_eq_true rfl, Nat.le_of_ble_eq_true rfl⟩ ⟨Nat.le_refl 0, Nat.le_refl 0⟩ (nx_0 n_b1) k_b1 (by decide) rfl hl.1 (Nat.le_of_ble_eq_true rfl) rfl dX1_readOne_75 (fun H locs hG hS => ?_)
            refine lv_iconst (v := 1) hx hb dX1_readOne_78 (by decide) ?_
            obtain rfl := Option.some.inj h
            exact g_zret (zn (Or.inr rfl)) X hr hlk hG hS dX1_readOne_79
          · have h := ite_y h q12
            refine lv_iconst (v := 0) hx hb dX1_readOne_66 (by decide) ?_
            obtain rfl := Option.some.inj h
            exact g_zret (zn (Or.inl rfl)) X hr hlk hG hS dX1_readOne_67
      · have h := ite_y h q7
        refine lv_iconst (v := 0) hx hb dX1_readOne_40 (by decide) ?_
        obtain rfl := Option.some.inj h
        exact g_zret (zn (Or.inl rfl)) X hr hlk hG hS dX1_readOne_41
  · have h := ite_y h q2
    refine lv_iconst (v := 0) hx hb dX1_readOne_14 (by decide) ?_
    obtain rfl := Option.some.inj h
    exact g_zret (zn (Or.inl rfl)) X hr hlk hG hS dX1_readOne_15
set_option maxRecDepth 100000 in
set_option maxHeartbeats 4000000 in
theorem ct_X1_readTie (l : Launch) (z : gZ) {N : Nat} {M : Mem} {a : Nat} {b1 : Nat} {o : Int32 × Mem} (k_a : kd a = 1) (n_a : a + 2 ≤ gn z) (k_b1 : kd b1 = 4) (n_b1 : b1 + 8 ≤ gn z) (h : fX1_readTie N M a b1 = some o) : CtI l z yX1_readTie cX1_readTie 5 (some .boolean) { frames := 6, cells := 0, slots := 0, locals := 128 } [.ref (gad z a), .ref (gad z b1)] M o.1 o.2 := by
  refine Ct_of rfl (Nat.le_of_ble_eq_true rfl) ?_
  intro p e s m below meth c ls X hr hlk hG hS hl
  have X : gX p m c _ _ s _ RX1 z := X
  have hl : lv_has ls 5 [(0, .ref (gad z a)), (1, .ref (gad z b1))] := hl
  have hx := X.1
  have hb := X.2.1
  unfold fX1_readTie at h
  refine lv_aload_n hx hb dX1_readTie_0 rfl (lv_at hl 0 rfl) ?_
  refine lv_iconst (v := 0) hx hb dX1_readTie_1 (by decide) ?_
  refine lv_aload_n hx hb dX1_readTie_2 rfl (lv_at hl 1 rfl) ?_
  refine gf_X4_7 X hG (nx_0 n_b1) k_b1 fl_X1_83 dX1_readTie_3 ?_
  refine lv_iconst (v := 1) hx hb dX1_readTie_6 (by decide) ?_
  refine lv_isub hx hb dX1_readTie_7 ?_
  obtain ⟨r1, hcr1, h⟩ := bd_y h
  refine g_cVI (a := a) (ci := 1) (T := TX1) (N := 6) (av := [.int 0, .int ((M.1 b1 7) - 1)]) (rest := []) X hG hS (ct_X1_passNumber l z k_a n_a hcr1) mt_X1_passNumber ml_X1_31 rfl ⟨rfl, rfl, Nat.le_of_ble_eq_true rfl, Nat.le_of_ble_eq_true rfl⟩ ⟨Nat.le_refl 0, Nat.le_refl 0⟩ (nx_0 n_a) k_a (by decide) rfl hl.1 (Nat.le_of_ble_eq_true rfl) rfl dX1_readTie_8 (fun H locs hG hS => ?_)
  refine lv_if_ne (tgt := 16) hx hb dX1_readTie_11 (by decide) (fun q2 => ?_) (fun q2 => ?_)
  · have h := ite_n h q2
    refine lv_aload_n hx hb dX1_readTie_16 rfl (lv_at hl 0 rfl) ?_
    refine gf_X1_5 X hG (nx_0 n_a) k_a fl_X1_35 dX1_readTie_17 ?_
    refine lv_topi (fun x3 ex3 => ?_)
    have h := nm_y h x3 ex3
    refine lv_istore_n (lv' := [(2, .int x3), (0, .ref (gad z a)), (1, .ref (gad z b1))]) hx hb dX1_readTie_20 rfl hl (by decide) rfl (fun ls hl => ?_)
    refine lv_aload_n hx hb dX1_readTie_21 rfl (lv_at hl 1 rfl) ?_
    refine gf_X1_2 X hG (nx_0 n_a) k_a fl_X1_44 dX1_readTie_22 ?_
    refine lv_iconst (v := 2) hx hb dX1_readTie_25 (by decide) ?_
    refine lv_icmp_ne (tgt := 37) hx hb dX1_readTie_26 (by decide) (fun q4 => ?_) (fun q4 => ?_)
    · have h := ite_n h q4
      refine lv_aload_n hx hb dX1_readTie_37 rfl (lv_at hl 1 rfl) ?_
      refine lv_iconst (v := 0) hx hb dX1_readTie_38 (by decide) ?_
      refine lv_aload_n hx hb dX1_readTie_39 rfl (lv_at hl 2 rfl) ?_
      refine gf_X4_7 X hG (nx_0 n_b1) k_b1 fl_X1_83 dX1_readTie_40 ?_
      refine lv_iconst (v := 1) hx hb dX1_readTie_43 (by decide) ?_
      refine lv_isub hx hb dX1_readTie_44 ?_
      obtain ⟨r5, hcr5, h⟩ := bd_y h
      refine g_cVI (a := a) (ci := 1) (T := TX1) (N := 6) (av := [.int 0, .int ((r1.2.1 b1 7) - 1)]) (rest := []) X hG hS (ct_X1_passNumber l z k_a n_a hcr5) mt_X1_passNumber ml_X1_31 rfl ⟨rfl, rfl, Nat.le_of_ble_eq_true rfl, Nat.le_of_ble_eq_true rfl⟩ ⟨Nat.le_refl 0, Nat.le_refl 0⟩ (nx_0 n_a) k_a (by decide) rfl hl.1 (Nat.le_of_ble_eq_true rfl) rfl dX1_readTie_45 (fun H locs hG hS => ?_)
      refine lv_if_ne (tgt := 53) hx hb dX1_readTie_48 (by decide) (fun q6 => ?_) (fun q6 => ?_)
      · have h := ite_n h q6
        refine lv_aload_n hx hb dX1_readTie_53 rfl (lv_at hl 1 rfl) ?_
        refine gf_X1_5 X hG (nx_0 n_a) k_a fl_X1_35 dX1_readTie_54 ?_
        refine lv_topi (fun x7 ex7 => ?_)
        have h := nm_y h x7 ex7
        refine lv_istore_n (lv' := [(3, .int x7), (2, .int x3), (0, .ref (gad z a)), (1, .ref (gad z b1))]) hx hb dX1_readTie_57 rfl hl (by decide) rfl (fun ls hl => ?_)
        refine lv_iconst (v := 0) hx hb dX1_readTie_58 (by decide) ?_
        refine lv_istore (lv' := [(4, .int 0), (3, .int x7), (2, .int x3), (0, .ref (gad z a)), (1, .ref (gad z b1))]) hx hb dX1_readTie_59 hl (by decide) rfl (fun ls hl => ?_)
        refine lv_aload_n hx hb dX1_readTie_61 rfl (lv_at hl 3 rfl) ?_
        refine g_ldcS X (k := 6) (tx := "price") (by decide) dX1_readTie_62 ?_
        obtain ⟨r8, hcr8, h⟩ := bd_y h
        refine g_cVI (a := a) (ci := 1) (T := TX1) (N := 6) (av := [.ref (gsk z 6)]) (rest := []) X hG hS (ct_X1_passWord l z k_a n_a (by decide : 6 < 22) hcr8) mt_X1_passWord ml_X1_27 rfl ⟨rfl, rfl, Nat.le_of_ble_eq_true rfl, Nat.le_of_ble_eq_true rfl⟩ ⟨Nat.le_refl 0, Nat.le_refl 0⟩ (nx_0 n_a) k_a (by decide) rfl hl.1 (Nat.le_of_ble_eq_true rfl) rfl dX1_readTie_64 (fun H locs hG hS => ?_)
        refine lv_if_eq (tgt := 88) hx hb dX1_readTie_67 (by decide) (fun q9 => ?_) (fun q9 => ?_)
        · have h := ite_y h q9
          refine lv_aload_n hx hb dX1_readTie_88 rfl (lv_at hl 4 rfl) ?_
          refine lv_iload_n hx hb dX1_readTie_89 rfl (lv_at hl 2 rfl) ?_
          refine lv_iload_n hx hb dX1_readTie_90 rfl (lv_at hl 1 rfl) ?_
          refine lv_iload hx hb dX1_readTie_91 (lv_at hl 0 rfl) ?_
          obtain ⟨r10, hcr10, h⟩ := bd_y h
          refine g_cVV (a := b1) (ci := 4) (T := TX4) (N := 10) (av := [.int x3, .int x7, .int 0]) (rest := []) X hG hS (ct_X4_join l z k_b1 n_b1 hcr10) mt_X4_join ml_X1_114 rfl ⟨rfl, rfl, Nat.le_of_ble_eq_true rfl, Nat.le_of_ble_eq_true rfl⟩ ⟨Nat.le_refl 0, Nat.le_refl 0⟩ (nx_0 n_b1) k_b1 (by decide) rfl hl.1 (Nat.le_of_ble_eq_true rfl) rfl dX1_readTie_93 (fun H locs hG hS => ?_)
          refine lv_iconst (v := 1) hx hb dX1_readTie_96 (by decide) ?_
          obtain rfl := Option.some.inj h
          exact g_zret (zn (Or.inr rfl)) X hr hlk hG hS dX1_readTie_97
        · have h := ite_n h q9
          refine lv_aload_n hx hb dX1_readTie_70 rfl (lv_at hl 3 rfl) ?_
          refine lv_iconst (v := 0) hx hb dX1_readTie_71 (by decide) ?_
          refine lv_bipush (v := 9) hx hb dX1_readTie_72 (by decide) ?_
          obtain ⟨r11, hcr11, h⟩ := bd_y h
          refine g_cVI (a := a) (ci := 1) (T := TX1) (N := 6) (av := [.int 0, .int 9]) (rest := []) X hG hS (ct_X1_passNumber l z k_a n_a hcr11) mt_X1_passNumber ml_X1_31 rfl ⟨rfl, rfl, Nat.le_of_ble_eq_true rfl, Nat.le_of_ble_eq_true rfl⟩ ⟨Nat.le_refl 0, Nat.le_refl 0⟩ (nx_0 n_a) k_a (by decide) rfl hl.1 (Nat.le_of_ble_eq_true rfl) rfl dX1_readTie_74 (fun H locs hG hS => ?_)
          refine lv_if_ne (tgt := 82) hx hb dX1_readTie_77 (by decide) (fun q12 => ?_) (fun q12 => ?_)
          · have h := ite_n h q12
            refine lv_aload_n hx hb dX1_readTie_82 rfl (lv_at hl 3 rfl) ?_
            refine gf_X1_5 X hG (nx_0 n_a) k_a fl_X1_35 dX1_readTie_83 ?_
            refine lv_topi (fun x13 ex13 => ?_)
            have h := nm_y h x13 ex13
            refine lv_istore (lv' := [(4, .int x13), (3, .int x7), (2, .int x3), (0, .ref (gad z a)), (1, .ref (gad z b1))]) hx hb dX1_readTie_86 hl (by decide) rfl (fun ls hl => ?_)
            refine lv_aload_n hx hb dX1_readTie_88 rfl (lv_at hl 4 rfl) ?_
            refine lv_iload_n hx hb dX1_readTie_89 rfl (lv_at hl 2 rfl) ?_
            refine lv_iload_n hx hb dX1_readTie_90 rfl (lv_at hl 1 rfl) ?_
            refine lv_iload hx hb dX1_readTie_91 (lv_at hl 0 rfl) ?_
            obtain ⟨r14, hcr14, h⟩ := bd_y h
            refine g_cVV (a := b1) (ci := 4) (T := TX4) (N := 10) (av := [.int x3, .int x7, .int x13]) (rest := []) X hG hS (ct_X4_join l z k_b1 n_b1 hcr14) mt_X4_join ml_X1_114 rfl ⟨rfl, rfl, Nat.le_of_ble_eq_true rfl, Nat.le_of_ble_eq_true rfl⟩ ⟨Nat.le_refl 0, Nat.le_refl 0⟩ (nx_0 n_b1) k_b1 (by decide) rfl hl.1 (Nat.le_of_ble_eq_true rfl) rfl dX1_readTie_93 (fun H locs hG hS => ?_)
            refine lv_iconst (v := 1) hx hb dX1_readTie_96 (by decide) ?_
            obtain rfl := Option.some.inj h
            exact g_zret (zn (Or.inr rfl)) X hr hlk hG hS dX1_readTie_97
          · have h := ite_y h q12
            refine lv_iconst (v := 0) hx hb dX1_readTie_80 (by decide) ?_
            obtain rfl := Option.some.inj h
            exact g_zret (zn (Or.inl rfl)) X hr hlk hG hS dX1_readTie_81
      · have h := ite_y h q6
        refine lv_iconst (v := 0) hx hb dX1_readTie_51 (by decide) ?_
        obtain rfl := Option.some.inj h
        exact g_zret (zn (Or.inl rfl)) X hr hlk hG hS dX1_readTie_52
    · have h := ite_y h q4
      refine lv_aload_n hx hb dX1_readTie_29 rfl (lv_at hl 1 rfl) ?_
      obtain ⟨r15, hcr15, h⟩ := bd_y h
      refine g_cVI (a := a) (ci := 1) (T := TX1) (N := 6) (av := []) (rest := []) X hG hS (ct_X1_numberAtHand l z k_a n_a hcr15) mt_X1_numberAtHand ml_X1_108 rfl ⟨rfl, rfl, Nat.le_of_ble_eq_true rfl, Nat.le_of_ble_eq_true rfl⟩ ⟨Nat.le_refl 0, Nat.le_refl 0⟩ (nx_0 n_a) k_a (by decide) rfl hl.1 (Nat.le_of_ble_eq_true rfl) rfl dX1_readTie_30 (fun H locs hG hS => ?_)
      refine lv_iload_n hx hb dX1_readTie_33 rfl (lv_at hl 0 rfl) ?_
      refine lv_icmp_eq (tgt := 51) hx hb dX1_readTie_34 (by decide) (fun q16 => ?_) (fun q16 => ?_)
      · have h := ite_y h q16
        refine lv_iconst (v := 0) hx hb dX1_readTie_51 (by decide) ?_
        obtain rfl := Option.some.inj h
        exact g_zret (zn (Or.inl rfl)) X hr hlk hG hS dX1_readTie_52
      · have h := ite_n h q16
        refine lv_aload_n hx hb dX1_readTie_37 rfl (lv_at hl 1 rfl) ?_
        refine lv_iconst (v := 0) hx hb dX1_readTie_38 (by decide) ?_
        refine lv_aload_n hx hb dX1_readTie_39 rfl (lv_at hl 2 rfl) ?_
        refine gf_X4_7 X hG (nx_0 n_b1) k_b1 fl_X1_83 dX1_readTie_40 ?_
        refine lv_iconst (v := 1) hx hb dX1_readTie_43 (by decide) ?_
        refine lv_isub hx hb dX1_readTie_44 ?_
        obtain ⟨r17, hcr17, h⟩ := bd_y h
        refine g_cVI (a := a) (ci := 1) (T := TX1) (N := 6) (av := [.int 0, .int ((r1.2.1 b1 7) - 1)]) (rest := []) X hG hS (ct_X1_passNumber l z k_a n_a hcr17) mt_X1_passNumber ml_X1_31 rfl ⟨rfl, rfl, Nat.le_of_ble_eq_true rfl, Nat.le_of_ble_eq_true rfl⟩ ⟨Nat.le_refl 0, Nat.le_refl 0⟩ (nx_0 n_a) k_a (by decide) rfl hl.1 (Nat.le_of_ble_eq_true rfl) rfl dX1_readTie_45 (fun H locs hG hS => ?_)
        refine lv_if_ne (tgt := 53) hx hb dX1_readTie_48 (by decide) (fun q18 => ?_) (fun q18 => ?_)
        · have h := ite_n h q18
          refine lv_aload_n hx hb dX1_readTie_53 rfl (lv_at hl 1 rfl) ?_
          refine gf_X1_5 X hG (nx_0 n_a) k_a fl_X1_35 dX1_readTie_54 ?_
          refine lv_topi (fun x19 ex19 => ?_)
          have h := nm_y h x19 ex19
          refine lv_istore_n (lv' := [(3, .int x19), (2, .int x3), (0, .ref (gad z a)), (1, .ref (gad z b1))]) hx hb dX1_readTie_57 rfl hl (by decide) rfl (fun ls hl => ?_)
          refine lv_iconst (v := 0) hx hb dX1_readTie_58 (by decide) ?_
          refine lv_istore (lv' := [(4, .int 0), (3, .int x19), (2, .int x3), (0, .ref (gad z a)), (1, .ref (gad z b1))]) hx hb dX1_readTie_59 hl (by decide) rfl (fun ls hl => ?_)
          refine lv_aload_n hx hb dX1_readTie_61 rfl (lv_at hl 3 rfl) ?_
          refine g_ldcS X (k := 6) (tx := "price") (by decide) dX1_readTie_62 ?_
          obtain ⟨r20, hcr20, h⟩ := bd_y h
          refine g_cVI (a := a) (ci := 1) (T := TX1) (N := 6) (av := [.ref (gsk z 6)]) (rest := []) X hG hS (ct_X1_passWord l z k_a n_a (by decide : 6 < 22) hcr20) mt_X1_passWord ml_X1_27 rfl ⟨rfl, rfl, Nat.le_of_ble_eq_true rfl, Nat.le_of_ble_eq_true rfl⟩ ⟨Nat.le_refl 0, Nat.le_refl 0⟩ (nx_0 n_a) k_a (by decide) rfl hl.1 (Nat.le_of_ble_eq_true rfl) rfl dX1_readTie_64 (fun H locs hG hS => ?_)
          refine lv_if_eq (tgt := 88) hx hb dX1_readTie_67 (by decide) (fun q21 => ?_) (fun q21 => ?_)
          · have h := ite_y h q21
            refine lv_aload_n hx hb dX1_readTie_88 rfl (lv_at hl 4 rfl) ?_
            refine lv_iload_n hx hb dX1_readTie_89 rfl (lv_at hl 2 rfl) ?_
            refine lv_iload_n hx hb dX1_readTie_90 rfl (lv_at hl 1 rfl) ?_
            refine lv_iload hx hb dX1_readTie_91 (lv_at hl 0 rfl) ?_
            obtain ⟨r22, hcr22, h⟩ := bd_y h
            refine g_cVV (a := b1) (ci := 4) (T := TX4) (N := 10) (av := [.int x3, .int x19, .int 0]) (rest := []) X hG hS (ct_X4_join l z k_b1 n_b1 hcr22) mt_X4_join ml_X1_114 rfl ⟨rfl, rfl, Nat.le_of_ble_eq_true rfl, Nat.le_of_ble_eq_true rfl⟩ ⟨Nat.le_refl 0, Nat.le_refl 0⟩ (nx_0 n_b1) k_b1 (by decide) rfl hl.1 (Nat.le_of_ble_eq_true rfl) rfl dX1_readTie_93 (fun H locs hG hS => ?_)
            refine lv_iconst (v := 1) hx hb dX1_readTie_96 (by decide) ?_
            obtain rfl := Option.some.inj h
            exact g_zret (zn (Or.inr rfl)) X hr hlk hG hS dX1_readTie_97
          · have h := ite_n h q21
            refine lv_aload_n hx hb dX1_readTie_70 rfl (lv_at hl 3 rfl) ?_
            refine lv_iconst (v := 0) hx hb dX1_readTie_71 (by decide) ?_
            refine lv_bipush (v := 9) hx hb dX1_readTie_72 (by decide) ?_
            obtain ⟨r23, hcr23, h⟩ := bd_y h
            refine g_cVI (a := a) (ci := 1) (T := TX1) (N := 6) (av := [.int 0, .int 9]) (rest := []) X hG hS (ct_X1_passNumber l z k_a n_a hcr23) mt_X1_passNumber ml_X1_31 rfl ⟨rfl, rfl, Nat.le_of_ble_eq_true rfl, Nat.le_of_ble_eq_true rfl⟩ ⟨Nat.le_refl 0, Nat.le_refl 0⟩ (nx_0 n_a) k_a (by decide) rfl hl.1 (Nat.le_of_ble_eq_true rfl) rfl dX1_readTie_74 (fun H locs hG hS => ?_)
            refine lv_if_ne (tgt := 82) hx hb dX1_readTie_77 (by decide) (fun q24 => ?_) (fun q24 => ?_)
            · have h := ite_n h q24
              refine lv_aload_n hx hb dX1_readTie_82 rfl (lv_at hl 3 rfl) ?_
              refine gf_X1_5 X hG (nx_0 n_a) k_a fl_X1_35 dX1_readTie_83 ?_
              refine lv_topi (fun x25 ex25 => ?_)
              have h := nm_y h x25 ex25
              refine lv_istore (lv' := [(4, .int x25), (3, .int x19), (2, .int x3), (0, .ref (gad z a)), (1, .ref (gad z b1))]) hx hb dX1_readTie_86 hl (by decide) rfl (fun ls hl => ?_)
              refine lv_aload_n hx hb dX1_readTie_88 rfl (lv_at hl 4 rfl) ?_
              refine lv_iload_n hx hb dX1_readTie_89 rfl (lv_at hl 2 rfl) ?_
              refine lv_iload_n hx hb dX1_readTie_90 rfl (lv_at hl 1 rfl) ?_
              refine lv_iload hx hb dX1_readTie_91 (lv_at hl 0 rfl) ?_
              obtain ⟨r26, hcr26, h⟩ := bd_y h
              refine g_cVV (a := b1) (ci := 4) (T := TX4) (N := 10) (av := [.int x3, .int x19, .int x25]) (rest := []) X hG hS (ct_X4_join l z k_b1 n_b1 hcr26) mt_X4_join ml_X1_114 rfl ⟨rfl, rfl, Nat.le_of_ble_eq_true rfl, Nat.le_of_ble_eq_true rfl⟩ ⟨Nat.le_refl 0, Nat.le_refl 0⟩ (nx_0 n_b1) k_b1 (by decide) rfl hl.1 (Nat.le_of_ble_eq_true rfl) rfl dX1_readTie_93 (fun H locs hG hS => ?_)
              refine lv_iconst (v := 1) hx hb dX1_readTie_96 (by decide) ?_
              obtain rfl := Option.some.inj h
              exact g_zret (zn (Or.inr rfl)) X hr hlk hG hS dX1_readTie_97
            · have h := ite_y h q24
              refine lv_iconst (v := 0) hx hb dX1_readTie_80 (by decide) ?_
              obtain rfl := Option.some.inj h
              exact g_zret (zn (Or.inl rfl)) X hr hlk hG hS dX1_readTie_81
        · have h := ite_y h q18
          refine lv_iconst (v := 0) hx hb dX1_readTie_51 (by decide) ?_
          obtain rfl := Option.some.inj h
          exact g_zret (zn (Or.inl rfl)) X hr hlk hG hS dX1_readTie_52
  · have h := ite_y h q2
    refine lv_iconst (v := 0) hx hb dX1_readTie_14 (by decide) ?_
    obtain rfl := Option.some.inj h
    exact g_zret (zn (Or.inl rfl)) X hr hlk hG hS dX1_readTie_15
set_option maxRecDepth 100000 in
set_option maxHeartbeats 4000000 in
theorem ct_X1_readMust (l : Launch) (z : gZ) {N : Nat} {M : Mem} {a : Nat} {b1 : Nat} {o : Int32 × Mem} (k_a : kd a = 1) (n_a : a + 2 ≤ gn z) (k_b1 : kd b1 = 4) (n_b1 : b1 + 8 ≤ gn z) (h : fX1_readMust N M a b1 = some o) : CtI l z yX1_readMust cX1_readMust 2 (some .boolean) { frames := 3, cells := 0, slots := 0, locals := 63 } [.ref (gad z a), .ref (gad z b1)] M o.1 o.2 := by
  refine Ct_of rfl (Nat.le_of_ble_eq_true rfl) ?_
  intro p e s m below meth c ls X hr hlk hG hS hl
  have X : gX p m c _ _ s _ RX1 z := X
  have hl : lv_has ls 2 [(0, .ref (gad z a)), (1, .ref (gad z b1))] := hl
  have hx := X.1
  have hb := X.2.1
  unfold fX1_readMust at h
  refine lv_aload_n hx hb dX1_readMust_0 rfl (lv_at hl 0 rfl) ?_
  refine lv_iconst (v := 0) hx hb dX1_readMust_1 (by decide) ?_
  refine lv_aload_n hx hb dX1_readMust_2 rfl (lv_at hl 1 rfl) ?_
  refine gf_X4_7 X hG (nx_0 n_b1) k_b1 fl_X1_83 dX1_readMust_3 ?_
  refine lv_iconst (v := 1) hx hb dX1_readMust_6 (by decide) ?_
  refine lv_isub hx hb dX1_readMust_7 ?_
  obtain ⟨r1, hcr1, h⟩ := bd_y h
  refine g_cVI (a := a) (ci := 1) (T := TX1) (N := 6) (av := [.int 0, .int ((M.1 b1 7) - 1)]) (rest := []) X hG hS (ct_X1_passNumber l z k_a n_a hcr1) mt_X1_passNumber ml_X1_31 rfl ⟨rfl, rfl, Nat.le_of_ble_eq_true rfl, Nat.le_of_ble_eq_true rfl⟩ ⟨Nat.le_refl 0, Nat.le_refl 0⟩ (nx_0 n_a) k_a (by decide) rfl hl.1 (Nat.le_of_ble_eq_true rfl) rfl dX1_readMust_8 (fun H locs hG hS => ?_)
  refine lv_if_ne (tgt := 16) hx hb dX1_readMust_11 (by decide) (fun q2 => ?_) (fun q2 => ?_)
  · have h := ite_n h q2
    refine lv_aload_n hx hb dX1_readMust_16 rfl (lv_at hl 1 rfl) ?_
    refine lv_aload_n hx hb dX1_readMust_17 rfl (lv_at hl 0 rfl) ?_
    refine gf_X1_5 X hG (nx_0 n_a) k_a fl_X1_35 dX1_readMust_18 ?_
    refine lv_iconst (v := 1) hx hb dX1_readMust_21 (by decide) ?_
    obtain ⟨r3, hcr3, h⟩ := bd_y h
    refine g_cVV (a := b1) (ci := 4) (T := TX4) (N := 10) (av := [.int (r1.2.1 a 5), .int 1]) (rest := []) X hG hS (ct_X4_setMust l z k_b1 n_b1 hcr3) mt_X4_setMust ml_X1_117 rfl ⟨rfl, rfl, Nat.le_of_ble_eq_true rfl, Nat.le_of_ble_eq_true rfl⟩ ⟨Nat.le_refl 0, Nat.le_refl 0⟩ (nx_0 n_b1) k_b1 (by decide) rfl hl.1 (Nat.le_of_ble_eq_true rfl) rfl dX1_readMust_22 (fun H locs hG hS => ?_)
    refine lv_iconst (v := 1) hx hb dX1_readMust_25 (by decide) ?_
    obtain rfl := Option.some.inj h
    exact g_zret (zn (Or.inr rfl)) X hr hlk hG hS dX1_readMust_26
  · have h := ite_y h q2
    refine lv_iconst (v := 0) hx hb dX1_readMust_14 (by decide) ?_
    obtain rfl := Option.some.inj h
    exact g_zret (zn (Or.inl rfl)) X hr hlk hG hS dX1_readMust_15
set_option maxRecDepth 100000 in
set_option maxHeartbeats 4000000 in
theorem ct_X1_readStatement (l : Launch) (z : gZ) {N : Nat} {M : Mem} {a : Nat} {b1 : Nat} {o : Int32 × Mem} (k_a : kd a = 1) (n_a : a + 2 ≤ gn z) (k_b1 : kd b1 = 4) (n_b1 : b1 + 8 ≤ gn z) (h : fX1_readStatement N M a b1 = some o) : CtI l z yX1_readStatement cX1_readStatement 2 (some .boolean) { frames := 7, cells := 0, slots := 0, locals := 152 } [.ref (gad z a), .ref (gad z b1)] M o.1 o.2 := by
  refine Ct_of rfl (Nat.le_of_ble_eq_true rfl) ?_
  intro p e s m below meth c ls X hr hlk hG hS hl
  have X : gX p m c _ _ s _ RX1 z := X
  have hl : lv_has ls 2 [(0, .ref (gad z a)), (1, .ref (gad z b1))] := hl
  have hx := X.1
  have hb := X.2.1
  unfold fX1_readStatement at h
  refine lv_aload_n hx hb dX1_readStatement_0 rfl (lv_at hl 0 rfl) ?_
  refine g_ldcS X (k := 1) (tx := "cost") (by decide) dX1_readStatement_1 ?_
  obtain ⟨r1, hcr1, h⟩ := bd_y h
  refine g_cVI (a := a) (ci := 1) (T := TX1) (N := 6) (av := [.ref (gsk z 1)]) (rest := []) X hG hS (ct_X1_passWord l z k_a n_a (by decide : 1 < 22) hcr1) mt_X1_passWord ml_X1_27 rfl ⟨rfl, rfl, Nat.le_of_ble_eq_true rfl, Nat.le_of_ble_eq_true rfl⟩ ⟨Nat.le_refl 0, Nat.le_refl 0⟩ (nx_0 n_a) k_a (by decide) rfl hl.1 (Nat.le_of_ble_eq_true rfl) rfl dX1_readStatement_3 (fun H locs hG hS => ?_)
  refine lv_if_eq (tgt := 18) hx hb dX1_readStatement_6 (by decide) (fun q2 => ?_) (fun q2 => ?_)
  · have h := ite_y h q2
    refine lv_aload_n hx hb dX1_readStatement_18 rfl (lv_at hl 0 rfl) ?_
    refine g_ldcS X (k := 2) (tx := "worth") (by decide) dX1_readStatement_19 ?_
    obtain ⟨r3, hcr3, h⟩ := bd_y h
    refine g_cVI (a := a) (ci := 1) (T := TX1) (N := 6) (av := [.ref (gsk z 2)]) (rest := []) X hG hS (ct_X1_passWord l z k_a n_a (by decide : 2 < 22) hcr3) mt_X1_passWord ml_X1_27 rfl ⟨rfl, rfl, Nat.le_of_ble_eq_true rfl, Nat.le_of_ble_eq_true rfl⟩ ⟨Nat.le_refl 0, Nat.le_refl 0⟩ (nx_0 n_a) k_a (by decide) rfl hl.1 (Nat.le_of_ble_eq_true rfl) rfl dX1_readStatement_21 (fun H locs hG hS => ?_)
    refine lv_if_eq (tgt := 36) hx hb dX1_readStatement_24 (by decide) (fun q4 => ?_) (fun q4 => ?_)
    · have h := ite_y h q4
      refine lv_aload_n hx hb dX1_readStatement_36 rfl (lv_at hl 0 rfl) ?_
      refine g_ldcS X (k := 3) (tx := "more") (by decide) dX1_readStatement_37 ?_
      obtain ⟨r5, hcr5, h⟩ := bd_y h
      refine g_cVI (a := a) (ci := 1) (T := TX1) (N := 6) (av := [.ref (gsk z 3)]) (rest := []) X hG hS (ct_X1_passWord l z k_a n_a (by decide : 3 < 22) hcr5) mt_X1_passWord ml_X1_27 rfl ⟨rfl, rfl, Nat.le_of_ble_eq_true rfl, Nat.le_of_ble_eq_true rfl⟩ ⟨Nat.le_refl 0, Nat.le_refl 0⟩ (nx_0 n_a) k_a (by decide) rfl hl.1 (Nat.le_of_ble_eq_true rfl) rfl dX1_readStatement_39 (fun H locs hG hS => ?_)
      refine lv_if_eq (tgt := 51) hx hb dX1_readStatement_42 (by decide) (fun q6 => ?_) (fun q6 => ?_)
      · have h := ite_y h q6
        refine lv_aload_n hx hb dX1_readStatement_51 rfl (lv_at hl 0 rfl) ?_
        refine g_ldcS X (k := 4) (tx := "one") (by decide) dX1_readStatement_52 ?_
        obtain ⟨r7, hcr7, h⟩ := bd_y h
        refine g_cVI (a := a) (ci := 1) (T := TX1) (N := 6) (av := [.ref (gsk z 4)]) (rest := []) X hG hS (ct_X1_passWord l z k_a n_a (by decide : 4 < 22) hcr7) mt_X1_passWord ml_X1_27 rfl ⟨rfl, rfl, Nat.le_of_ble_eq_true rfl, Nat.le_of_ble_eq_true rfl⟩ ⟨Nat.le_refl 0, Nat.le_refl 0⟩ (nx_0 n_a) k_a (by decide) rfl hl.1 (Nat.le_of_ble_eq_true rfl) rfl dX1_readStatement_54 (fun H locs hG hS => ?_)
        refine lv_if_eq (tgt := 66) hx hb dX1_readStatement_57 (by decide) (fun q8 => ?_) (fun q8 => ?_)
        · have h := ite_y h q8
          refine lv_aload_n hx hb dX1_readStatement_66 rfl (lv_at hl 0 rfl) ?_
          refine g_ldcS X (k := 5) (tx := "tie") (by decide) dX1_readStatement_67 ?_
          obtain ⟨r9, hcr9, h⟩ := bd_y h
          refine g_cVI (a := a) (ci := 1) (T := TX1) (N := 6) (av := [.ref (gsk z 5)]) (rest := []) X hG hS (ct_X1_passWord l z k_a n_a (by decide : 5 < 22) hcr9) mt_X1_passWord ml_X1_27 rfl ⟨rfl, rfl, Nat.le_of_ble_eq_true rfl, Nat.le_of_ble_eq_true rfl⟩ ⟨Nat.le_refl 0, Nat.le_refl 0⟩ (nx_0 n_a) k_a (by decide) rfl hl.1 (Nat.le_of_ble_eq_true rfl) rfl dX1_readStatement_69 (fun H locs hG hS => ?_)
          refine lv_if_eq (tgt := 81) hx hb dX1_readStatement_72 (by decide) (fun q10 => ?_) (fun q10 => ?_)
          · have h := ite_y h q10
            refine lv_aload_n hx hb dX1_readStatement_81 rfl (lv_at hl 0 rfl) ?_
            refine g_ldcS X (k := 7) (tx := "must") (by decide) dX1_readStatement_82 ?_
            obtain ⟨r11, hcr11, h⟩ := bd_y h
            refine g_cVI (a := a) (ci := 1) (T := TX1) (N := 6) (av := [.ref (gsk z 7)]) (rest := []) X hG hS (ct_X1_passWord l z k_a n_a (by decide : 7 < 22) hcr11) mt_X1_passWord ml_X1_27 rfl ⟨rfl, rfl, Nat.le_of_ble_eq_true rfl, Nat.le_of_ble_eq_true rfl⟩ ⟨Nat.le_refl 0, Nat.le_refl 0⟩ (nx_0 n_a) k_a (by decide) rfl hl.1 (Nat.le_of_ble_eq_true rfl) rfl dX1_readStatement_84 (fun H locs hG hS => ?_)
            refine lv_if_eq (tgt := 96) hx hb dX1_readStatement_87 (by decide) (fun q12 => ?_) (fun q12 => ?_)
            · have h := ite_y h q12
              refine lv_aload_n hx hb dX1_readStatement_96 rfl (lv_at hl 1 rfl) ?_
              refine gf_X4_7 X hG (nx_0 n_b1) k_b1 fl_X1_83 dX1_readStatement_97 ?_
              refine lv_iconst (v := 3) hx hb dX1_readStatement_100 (by decide) ?_
              refine lv_icmp_lt (tgt := 119) hx hb dX1_readStatement_101 (by decide) (fun q13 => ?_) (fun q13 => ?_)
              · have h := ite_y h q13
                refine lv_aload_n hx hb dX1_readStatement_119 rfl (lv_at hl 0 rfl) ?_
                refine g_ldcS X (k := 9) (tx := "all") (by decide) dX1_readStatement_120 ?_
                obtain ⟨r14, hcr14, h⟩ := bd_y h
                refine g_cVI (a := a) (ci := 1) (T := TX1) (N := 6) (av := [.ref (gsk z 9)]) (rest := []) X hG hS (ct_X1_passWord l z k_a n_a (by decide : 9 < 22) hcr14) mt_X1_passWord ml_X1_27 rfl ⟨rfl, rfl, Nat.le_of_ble_eq_true rfl, Nat.le_of_ble_eq_true rfl⟩ ⟨Nat.le_refl 0, Nat.le_refl 0⟩ (nx_0 n_a) k_a (by decide) rfl hl.1 (Nat.le_of_ble_eq_true rfl) rfl dX1_readStatement_122 (fun H locs hG hS => ?_)
                refine lv_if_eq (tgt := 134) hx hb dX1_readStatement_125 (by decide) (fun q15 => ?_) (fun q15 => ?_)
                · have h := ite_y h q15
                  refine lv_iconst (v := 0) hx hb dX1_readStatement_134 (by decide) ?_
                  obtain rfl := Option.some.inj h
                  exact g_zret (zn (Or.inl rfl)) X hr hlk hG hS dX1_readStatement_135
                · have h := ite_n h q15
                  refine lv_aload_n hx hb dX1_readStatement_128 rfl (lv_at hl 1 rfl) ?_
                  obtain ⟨r16, hcr16, h⟩ := bd_y h
                  refine g_cVV (a := b1) (ci := 4) (T := TX4) (N := 10) (av := []) (rest := []) X hG hS (ct_X4_joinAll l z k_b1 n_b1 hcr16) mt_X4_joinAll ml_X1_93 rfl ⟨rfl, rfl, Nat.le_of_ble_eq_true rfl, Nat.le_of_ble_eq_true rfl⟩ ⟨Nat.le_refl 0, Nat.le_refl 0⟩ (nx_0 n_b1) k_b1 (by decide) rfl hl.1 (Nat.le_of_ble_eq_true rfl) rfl dX1_readStatement_129 (fun H locs hG hS => ?_)
                  refine lv_iconst (v := 1) hx hb dX1_readStatement_132 (by decide) ?_
                  obtain rfl := Option.some.inj h
                  exact g_zret (zn (Or.inr rfl)) X hr hlk hG hS dX1_readStatement_133
              · have h := ite_n h q13
                refine lv_aload_n hx hb dX1_readStatement_104 rfl (lv_at hl 0 rfl) ?_
                refine g_ldcS X (k := 8) (tx := "ring") (by decide) dX1_readStatement_105 ?_
                obtain ⟨r17, hcr17, h⟩ := bd_y h
                refine g_cVI (a := a) (ci := 1) (T := TX1) (N := 6) (av := [.ref (gsk z 8)]) (rest := []) X hG hS (ct_X1_passWord l z k_a n_a (by decide : 8 < 22) hcr17) mt_X1_passWord ml_X1_27 rfl ⟨rfl, rfl, Nat.le_of_ble_eq_true rfl, Nat.le_of_ble_eq_true rfl⟩ ⟨Nat.le_refl 0, Nat.le_refl 0⟩ (nx_0 n_a) k_a (by decide) rfl hl.1 (Nat.le_of_ble_eq_true rfl) rfl dX1_readStatement_107 (fun H locs hG hS => ?_)
                refine lv_if_eq (tgt := 119) hx hb dX1_readStatement_110 (by decide) (fun q18 => ?_) (fun q18 => ?_)
                · have h := ite_y h q18
                  refine lv_aload_n hx hb dX1_readStatement_119 rfl (lv_at hl 0 rfl) ?_
                  refine g_ldcS X (k := 9) (tx := "all") (by decide) dX1_readStatement_120 ?_
                  obtain ⟨r19, hcr19, h⟩ := bd_y h
                  refine g_cVI (a := a) (ci := 1) (T := TX1) (N := 6) (av := [.ref (gsk z 9)]) (rest := []) X hG hS (ct_X1_passWord l z k_a n_a (by decide : 9 < 22) hcr19) mt_X1_passWord ml_X1_27 rfl ⟨rfl, rfl, Nat.le_of_ble_eq_true rfl, Nat.le_of_ble_eq_true rfl⟩ ⟨Nat.le_refl 0, Nat.le_refl 0⟩ (nx_0 n_a) k_a (by decide) rfl hl.1 (Nat.le_of_ble_eq_true rfl) rfl dX1_readStatement_122 (fun H locs hG hS => ?_)
                  refine lv_if_eq (tgt := 134) hx hb dX1_readStatement_125 (by decide) (fun q20 => ?_) (fun q20 => ?_)
                  · have h := ite_y h q20
                    refine lv_iconst (v := 0) hx hb dX1_readStatement_134 (by decide) ?_
                    obtain rfl := Option.some.inj h
                    exact g_zret (zn (Or.inl rfl)) X hr hlk hG hS dX1_readStatement_135
                  · have h := ite_n h q20
                    refine lv_aload_n hx hb dX1_readStatement_128 rfl (lv_at hl 1 rfl) ?_
                    obtain ⟨r21, hcr21, h⟩ := bd_y h
                    refine g_cVV (a := b1) (ci := 4) (T := TX4) (N := 10) (av := []) (rest := []) X hG hS (ct_X4_joinAll l z k_b1 n_b1 hcr21) mt_X4_joinAll ml_X1_93 rfl ⟨rfl, rfl, Nat.le_of_ble_eq_true rfl, Nat.le_of_ble_eq_true rfl⟩ ⟨Nat.le_refl 0, Nat.le_refl 0⟩ (nx_0 n_b1) k_b1 (by decide) rfl hl.1 (Nat.le_of_ble_eq_true rfl) rfl dX1_readStatement_129 (fun H locs hG hS => ?_)
                    refine lv_iconst (v := 1) hx hb dX1_readStatement_132 (by decide) ?_
                    obtain rfl := Option.some.inj h
                    exact g_zret (zn (Or.inr rfl)) X hr hlk hG hS dX1_readStatement_133
                · have h := ite_n h q18
                  refine lv_aload_n hx hb dX1_readStatement_113 rfl (lv_at hl 1 rfl) ?_
                  obtain ⟨r22, hcr22, h⟩ := bd_y h
                  refine g_cVV (a := b1) (ci := 4) (T := TX4) (N := 10) (av := []) (rest := []) X hG hS (ct_X4_joinNeighbours l z k_b1 n_b1 hcr22) mt_X4_joinNeighbours ml_X1_88 rfl ⟨rfl, rfl, Nat.le_of_ble_eq_true rfl, Nat.le_of_ble_eq_true rfl⟩ ⟨Nat.le_refl 0, Nat.le_refl 0⟩ (nx_0 n_b1) k_b1 (by decide) rfl hl.1 (Nat.le_of_ble_eq_true rfl) rfl dX1_readStatement_114 (fun H locs hG hS => ?_)
                  refine lv_iconst (v := 1) hx hb dX1_readStatement_117 (by decide) ?_
                  obtain rfl := Option.some.inj h
                  exact g_zret (zn (Or.inr rfl)) X hr hlk hG hS dX1_readStatement_118
            · have h := ite_n h q12
              refine lv_aload_n hx hb dX1_readStatement_90 rfl (lv_at hl 0 rfl) ?_
              refine lv_aload_n hx hb dX1_readStatement_91 rfl (lv_at hl 1 rfl) ?_
              obtain ⟨r23, hcr23, h⟩ := bd_y h
              refine g_cVI (a := a) (ci := 1) (T := TX1) (N := 6) (av := [.ref (gad z b1)]) (rest := []) X hG hS (ct_X1_readMust l z k_a n_a k_b1 n_b1 hcr23) mt_X1_readMust ml_X1_80 rfl ⟨rfl, rfl, Nat.le_of_ble_eq_true rfl, Nat.le_of_ble_eq_true rfl⟩ ⟨Nat.le_refl 0, Nat.le_refl 0⟩ (nx_0 n_a) k_a (by decide) rfl hl.1 (Nat.le_of_ble_eq_true rfl) rfl dX1_readStatement_92 (fun H locs hG hS => ?_)
              obtain ⟨q24, h⟩ := gc_y h
              obtain rfl := Option.some.inj h
              exact g_zret (zn q24) X hr hlk hG hS dX1_readStatement_95
          · have h := ite_n h q10
            refine lv_aload_n hx hb dX1_readStatement_75 rfl (lv_at hl 0 rfl) ?_
            refine lv_aload_n hx hb dX1_readStatement_76 rfl (lv_at hl 1 rfl) ?_
            obtain ⟨r25, hcr25, h⟩ := bd_y h
            refine g_cVI (a := a) (ci := 1) (T := TX1) (N := 6) (av := [.ref (gad z b1)]) (rest := []) X hG hS (ct_X1_readTie l z k_a n_a k_b1 n_b1 hcr25) mt_X1_readTie ml_X1_75 rfl ⟨rfl, rfl, Nat.le_of_ble_eq_true rfl, Nat.le_of_ble_eq_true rfl⟩ ⟨Nat.le_refl 0, Nat.le_refl 0⟩ (nx_0 n_a) k_a (by decide) rfl hl.1 (Nat.le_of_ble_eq_true rfl) rfl dX1_readStatement_77 (fun H locs hG hS => ?_)
            obtain ⟨q26, h⟩ := gc_y h
            obtain rfl := Option.some.inj h
            exact g_zret (zn q26) X hr hlk hG hS dX1_readStatement_80
        · have h := ite_n h q8
          refine lv_aload_n hx hb dX1_readStatement_60 rfl (lv_at hl 0 rfl) ?_
          refine lv_aload_n hx hb dX1_readStatement_61 rfl (lv_at hl 1 rfl) ?_
          obtain ⟨r27, hcr27, h⟩ := bd_y h
          refine g_cVI (a := a) (ci := 1) (T := TX1) (N := 6) (av := [.ref (gad z b1)]) (rest := []) X hG hS (ct_X1_readOne l z k_a n_a k_b1 n_b1 hcr27) mt_X1_readOne ml_X1_70 rfl ⟨rfl, rfl, Nat.le_of_ble_eq_true rfl, Nat.le_of_ble_eq_true rfl⟩ ⟨Nat.le_refl 0, Nat.le_refl 0⟩ (nx_0 n_a) k_a (by decide) rfl hl.1 (Nat.le_of_ble_eq_true rfl) rfl dX1_readStatement_62 (fun H locs hG hS => ?_)
          obtain ⟨q28, h⟩ := gc_y h
          obtain rfl := Option.some.inj h
          exact g_zret (zn q28) X hr hlk hG hS dX1_readStatement_65
      · have h := ite_n h q6
        refine lv_aload_n hx hb dX1_readStatement_45 rfl (lv_at hl 0 rfl) ?_
        refine lv_aload_n hx hb dX1_readStatement_46 rfl (lv_at hl 1 rfl) ?_
        obtain ⟨r29, hcr29, h⟩ := bd_y h
        refine g_cVI (a := a) (ci := 1) (T := TX1) (N := 6) (av := [.ref (gad z b1)]) (rest := []) X hG hS (ct_X1_readMore l z k_a n_a k_b1 n_b1 hcr29) mt_X1_readMore ml_X1_65 rfl ⟨rfl, rfl, Nat.le_of_ble_eq_true rfl, Nat.le_of_ble_eq_true rfl⟩ ⟨Nat.le_refl 0, Nat.le_refl 0⟩ (nx_0 n_a) k_a (by decide) rfl hl.1 (Nat.le_of_ble_eq_true rfl) rfl dX1_readStatement_47 (fun H locs hG hS => ?_)
        obtain ⟨q30, h⟩ := gc_y h
        obtain rfl := Option.some.inj h
        exact g_zret (zn q30) X hr hlk hG hS dX1_readStatement_50
    · have h := ite_n h q4
      refine lv_aload_n hx hb dX1_readStatement_27 rfl (lv_at hl 0 rfl) ?_
      refine lv_aload_n hx hb dX1_readStatement_28 rfl (lv_at hl 1 rfl) ?_
      refine gf_X4_1 X hG (nx_0 n_b1) k_b1 fl_X1_61 dX1_readStatement_29 ?_
      obtain ⟨r31, hcr31, h⟩ := bd_y h
      refine g_cVI (a := a) (ci := 1) (T := TX1) (N := 6) (av := [.ref (gad z (b1 + 2))]) (rest := []) X hG hS (ct_X1_readForAll l z k_a n_a (kx_4_2 k_b1) (nx_a (a := b1) (k := 2) (n := 8) n_b1 (Nat.le_of_ble_eq_true rfl)) hcr31) mt_X1_readForAll ml_X1_55 rfl ⟨rfl, rfl, Nat.le_of_ble_eq_true rfl, Nat.le_of_ble_eq_true rfl⟩ ⟨Nat.le_refl 0, Nat.le_refl 0⟩ (nx_0 n_a) k_a (by decide) rfl hl.1 (Nat.le_of_ble_eq_true rfl) rfl dX1_readStatement_32 (fun H locs hG hS => ?_)
      obtain ⟨q32, h⟩ := gc_y h
      obtain rfl := Option.some.inj h
      exact g_zret (zn q32) X hr hlk hG hS dX1_readStatement_35
  · have h := ite_n h q2
    refine lv_aload_n hx hb dX1_readStatement_9 rfl (lv_at hl 0 rfl) ?_
    refine lv_aload_n hx hb dX1_readStatement_10 rfl (lv_at hl 1 rfl) ?_
    refine gf_X4_0 X hG (nx_0 n_b1) k_b1 fl_X1_53 dX1_readStatement_11 ?_
    obtain ⟨r33, hcr33, h⟩ := bd_y h
    refine g_cVI (a := a) (ci := 1) (T := TX1) (N := 6) (av := [.ref (gad z (b1 + 1))]) (rest := []) X hG hS (ct_X1_readForAll l z k_a n_a (kx_4_1 k_b1) (nx_a (a := b1) (k := 1) (n := 8) n_b1 (Nat.le_of_ble_eq_true rfl)) hcr33) mt_X1_readForAll ml_X1_55 rfl ⟨rfl, rfl, Nat.le_of_ble_eq_true rfl, Nat.le_of_ble_eq_true rfl⟩ ⟨Nat.le_refl 0, Nat.le_refl 0⟩ (nx_0 n_a) k_a (by decide) rfl hl.1 (Nat.le_of_ble_eq_true rfl) rfl dX1_readStatement_14 (fun H locs hG hS => ?_)
    obtain ⟨q34, h⟩ := gc_y h
    obtain rfl := Option.some.inj h
    exact g_zret (zn q34) X hr hlk hG hS dX1_readStatement_17
set_option maxRecDepth 100000 in
set_option maxHeartbeats 4000000 in
theorem wX1_readStreet_40 {N : Nat} {p : Program} {l : Launch} {e : Env} {s : State} {m : MethodId} {args : Array Value} {below : List Frame} {meth : Method} {c : Code} {z : gZ} {a : Nat} {b1 : Nat} {o : Int32 × Mem} (X : gX p m c cX1_readStreet 3 s args RX1 z) (hr : meth.sig.returnType = (some .boolean)) (hlk : meth.locks = false) (k_a : kd a = 1) (n_a : a + 2 ≤ gn z) (k_b1 : kd b1 = 4) (n_b1 : b1 + 8 ≤ gn z)  : ∀ (n : Nat) (Mw : Mem) (w2 : Int32) (H : Heap) (locs : List Loc) (ls : Array Slot), fX1_readStreet_40 N a b1  n Mw w2 = some o → gW z Mw H → va_S (gA z) s.heap H locs → lv_has ls 3 [(0, .ref (gad z a)), (1, .ref (gad z b1)), (2, .int w2)] → W p l e { frames := 8, cells := 0, slots := 0, locals := 173 } s m args below meth c H locs 0 0 (MQ below (va_Qi (fun r' (_ : Unit) => r' = o.1) (fun _ t => gW z o.2 t.heap) (gA z)) args s 0 0 (gA z)) (F0 m 40 ls []) := by
  have hx := X.1
  have hb := X.2.1
  intro n
  induction n with
  | zero => intro Mw w2 H locs ls h; cases h
  | succ n ih =>
    intro Mw w2 H locs ls h hG hS hl
    rw [fX1_readStreet_40] at h
    refine lv_iload_n hx hb dX1_readStreet_40 rfl (lv_at hl 2 rfl) ?_
    refine lv_sipush (v := 160) hx hb dX1_readStreet_41 (by decide) ?_
    refine lv_icmp_ge (tgt := 75) hx hb dX1_readStreet_44 (by decide) (fun q1 => ?_) (fun q1 => ?_)
    · have h := ite_y h q1
      refine lv_aload_n hx hb dX1_readStreet_75 rfl (lv_at hl 0 rfl) ?_
      refine gf_X1_2 X hG (nx_0 n_a) k_a fl_X1_44 dX1_readStreet_76 ?_
      refine lv_if_ne (tgt := 86) hx hb dX1_readStreet_79 (by decide) (fun q2 => ?_) (fun q2 => ?_)
      · have h := ite_n h q2
        refine lv_iconst (v := 0) hx hb dX1_readStreet_86 (by decide) ?_
        obtain rfl := Option.some.inj h
        exact g_zret (zn (Or.inl rfl)) X hr hlk hG hS dX1_readStreet_87
      · have h := ite_y h q2
        refine lv_iconst (v := 1) hx hb dX1_readStreet_82 (by decide) ?_
        refine lv_goto (tgt := 87) hx hb dX1_readStreet_83 (by decide) ?_
        obtain rfl := Option.some.inj h
        exact g_zret (zn (Or.inr rfl)) X hr hlk hG hS dX1_readStreet_87
    · have h := ite_n h q1
      refine lv_aload_n hx hb dX1_readStreet_47 rfl (lv_at hl 0 rfl) ?_
      refine gf_X1_2 X hG (nx_0 n_a) k_a fl_X1_44 dX1_readStreet_48 ?_
      refine lv_iconst (v := 3) hx hb dX1_readStreet_51 (by decide) ?_
      refine lv_icmp_ne (tgt := 75) hx hb dX1_readStreet_52 (by decide) (fun q3 => ?_) (fun q3 => ?_)
      · have h := ite_n h q3
        refine lv_aload_n hx hb dX1_readStreet_75 rfl (lv_at hl 0 rfl) ?_
        refine gf_X1_2 X hG (nx_0 n_a) k_a fl_X1_44 dX1_readStreet_76 ?_
        refine lv_if_ne (tgt := 86) hx hb dX1_readStreet_79 (by decide) (fun q4 => ?_) (fun q4 => ?_)
        · have h := ite_n h q4
          refine lv_iconst (v := 0) hx hb dX1_readStreet_86 (by decide) ?_
          obtain rfl := Option.some.inj h
          exact g_zret (zn (Or.inl rfl)) X hr hlk hG hS dX1_readStreet_87
        · have h := ite_y h q4
          refine lv_iconst (v := 1) hx hb dX1_readStreet_82 (by decide) ?_
          refine lv_goto (tgt := 87) hx hb dX1_readStreet_83 (by decide) ?_
          obtain rfl := Option.some.inj h
          exact g_zret (zn (Or.inr rfl)) X hr hlk hG hS dX1_readStreet_87
      · have h := ite_y h q3
        refine lv_aload_n hx hb dX1_readStreet_55 rfl (lv_at hl 0 rfl) ?_
        obtain ⟨r5, hcr5, h⟩ := bd_y h
        refine g_cVV (a := a) (ci := 1) (T := TX1) (N := 6) (av := []) (rest := []) X hG hS (ct_X1_advance l z k_a n_a hcr5) mt_X1_advance ml_X1_22 rfl ⟨rfl, rfl, Nat.le_of_ble_eq_true rfl, Nat.le_of_ble_eq_true rfl⟩ ⟨Nat.le_refl 0, Nat.le_refl 0⟩ (nx_0 n_a) k_a (by decide) rfl hl.1 (Nat.le_of_ble_eq_true rfl) rfl dX1_readStreet_56 (fun H locs hG hS => ?_)
        refine lv_aload_n hx hb dX1_readStreet_59 rfl (lv_at hl 0 rfl) ?_
        refine lv_aload_n hx hb dX1_readStreet_60 rfl (lv_at hl 1 rfl) ?_
        obtain ⟨r6, hcr6, h⟩ := bd_y h
        refine g_cVI (a := a) (ci := 1) (T := TX1) (N := 6) (av := [.ref (gad z b1)]) (rest := []) X hG hS (ct_X1_readStatement l z k_a n_a k_b1 n_b1 hcr6) mt_X1_readStatement ml_X1_47 rfl ⟨rfl, rfl, Nat.le_of_ble_eq_true rfl, Nat.le_of_ble_eq_true rfl⟩ ⟨Nat.le_refl 0, Nat.le_refl 0⟩ (nx_0 n_a) k_a (by decide) rfl hl.1 (Nat.le_of_ble_eq_true rfl) rfl dX1_readStreet_61 (fun H locs hG hS => ?_)
        refine lv_if_ne (tgt := 69) hx hb dX1_readStreet_64 (by decide) (fun q7 => ?_) (fun q7 => ?_)
        · have h := ite_n h q7
          refine lv_iinc (v := (w2 + 1)) (lv' := [(2, .int (w2 + 1)), (0, .ref (gad z a)), (1, .ref (gad z b1))]) hx hb dX1_readStreet_69 hl (k := 2) rfl rfl (by decide) rfl (fun ls hl => ?_)
          refine lv_goto (tgt := 40) hx hb dX1_readStreet_72 (by decide) ?_
          exact ih r6.2 (w2 + 1) _ _ _ h hG hS (lv_sub hl [1, 2, 0] rfl)
        · have h := ite_y h q7
          refine lv_iconst (v := 0) hx hb dX1_readStreet_67 (by decide) ?_
          obtain rfl := Option.some.inj h
          exact g_zret (zn (Or.inl rfl)) X hr hlk hG hS dX1_readStreet_68
set_option maxRecDepth 100000 in
set_option maxHeartbeats 4000000 in
theorem ct_X1_readStreet (l : Launch) (z : gZ) {N : Nat} {M : Mem} {a : Nat} {b1 : Nat} {o : Int32 × Mem} (k_a : kd a = 1) (n_a : a + 2 ≤ gn z) (k_b1 : kd b1 = 4) (n_b1 : b1 + 8 ≤ gn z) (h : fX1_readStreet N M a b1 = some o) : CtI l z yX1_readStreet cX1_readStreet 3 (some .boolean) { frames := 8, cells := 0, slots := 0, locals := 173 } [.ref (gad z a), .ref (gad z b1)] M o.1 o.2 := by
  refine Ct_of rfl (Nat.le_of_ble_eq_true rfl) ?_
  intro p e s m below meth c ls X hr hlk hG hS hl
  have X : gX p m c _ _ s _ RX1 z := X
  have hl : lv_has ls 3 [(0, .ref (gad z a)), (1, .ref (gad z b1))] := hl
  have hx := X.1
  have hb := X.2.1
  unfold fX1_readStreet at h
  refine lv_aload_n hx hb dX1_readStreet_0 rfl (lv_at hl 0 rfl) ?_
  refine lv_iconst (v := 0) hx hb dX1_readStreet_1 (by decide) ?_
  refine pf_X1_4 X hG hS (nx_0 n_a) k_a fl_X1_19 dX1_readStreet_2 (fun H locs hG hS => ?_)
  obtain ⟨M1, eM1⟩ : ∃ y, y = sI M a 4 0 := ⟨_, rfl⟩
  rw [← eM1] at hG
  have h := nm_y h M1 eM1
  refine lv_aload_n hx hb dX1_readStreet_5 rfl (lv_at hl 0 rfl) ?_
  obtain ⟨r2, hcr2, h⟩ := bd_y h
  refine g_cVV (a := a) (ci := 1) (T := TX1) (N := 6) (av := []) (rest := []) X hG hS (ct_X1_advance l z k_a n_a hcr2) mt_X1_advance ml_X1_22 rfl ⟨rfl, rfl, Nat.le_of_ble_eq_true rfl, Nat.le_of_ble_eq_true rfl⟩ ⟨Nat.le_refl 0, Nat.le_refl 0⟩ (nx_0 n_a) k_a (by decide) rfl hl.1 (Nat.le_of_ble_eq_true rfl) rfl dX1_readStreet_6 (fun H locs hG hS => ?_)
  refine lv_aload_n hx hb dX1_readStreet_9 rfl (lv_at hl 0 rfl) ?_
  refine g_ldcS X (k := 0) (tx := "people") (by decide) dX1_readStreet_10 ?_
  obtain ⟨r3, hcr3, h⟩ := bd_y h
  refine g_cVI (a := a) (ci := 1) (T := TX1) (N := 6) (av := [.ref (gsk z 0)]) (rest := []) X hG hS (ct_X1_passWord l z k_a n_a (by decide : 0 < 22) hcr3) mt_X1_passWord ml_X1_27 rfl ⟨rfl, rfl, Nat.le_of_ble_eq_true rfl, Nat.le_of_ble_eq_true rfl⟩ ⟨Nat.le_refl 0, Nat.le_refl 0⟩ (nx_0 n_a) k_a (by decide) rfl hl.1 (Nat.le_of_ble_eq_true rfl) rfl dX1_readStreet_12 (fun H locs hG hS => ?_)
  refine lv_if_eq (tgt := 28) hx hb dX1_readStreet_15 (by decide) (fun q4 => ?_) (fun q4 => ?_)
  · have h := ite_y h q4
    refine lv_iconst (v := 0) hx hb dX1_readStreet_28 (by decide) ?_
    obtain rfl := Option.some.inj h
    exact g_zret (zn (Or.inl rfl)) X hr hlk hG hS dX1_readStreet_29
  · have h := ite_n h q4
    refine lv_aload_n hx hb dX1_readStreet_18 rfl (lv_at hl 0 rfl) ?_
    refine lv_iconst (v := 1) hx hb dX1_readStreet_19 (by decide) ?_
    refine lv_bipush (v := 12) hx hb dX1_readStreet_20 (by decide) ?_
    obtain ⟨r5, hcr5, h⟩ := bd_y h
    refine g_cVI (a := a) (ci := 1) (T := TX1) (N := 6) (av := [.int 1, .int 12]) (rest := []) X hG hS (ct_X1_passNumber l z k_a n_a hcr5) mt_X1_passNumber ml_X1_31 rfl ⟨rfl, rfl, Nat.le_of_ble_eq_true rfl, Nat.le_of_ble_eq_true rfl⟩ ⟨Nat.le_refl 0, Nat.le_refl 0⟩ (nx_0 n_a) k_a (by decide) rfl hl.1 (Nat.le_of_ble_eq_true rfl) rfl dX1_readStreet_22 (fun H locs hG hS => ?_)
    refine lv_if_ne (tgt := 30) hx hb dX1_readStreet_25 (by decide) (fun q6 => ?_) (fun q6 => ?_)
    · have h := ite_n h q6
      refine lv_aload_n hx hb dX1_readStreet_30 rfl (lv_at hl 1 rfl) ?_
      refine lv_aload_n hx hb dX1_readStreet_31 rfl (lv_at hl 0 rfl) ?_
      refine gf_X1_5 X hG (nx_0 n_a) k_a fl_X1_35 dX1_readStreet_32 ?_
      obtain ⟨r7, hcr7, h⟩ := bd_y h
      refine g_cVV (a := b1) (ci := 4) (T := TX4) (N := 10) (av := [.int (r5.2.1 a 5)]) (rest := []) X hG hS (ct_X4_clear l z k_b1 n_b1 hcr7) mt_X4_clear ml_X1_38 rfl ⟨rfl, rfl, Nat.le_of_ble_eq_true rfl, Nat.le_of_ble_eq_true rfl⟩ ⟨Nat.le_refl 0, Nat.le_refl 0⟩ (nx_0 n_b1) k_b1 (by decide) rfl hl.1 (Nat.le_of_ble_eq_true rfl) rfl dX1_readStreet_35 (fun H locs hG hS => ?_)
      refine lv_iconst (v := 0) hx hb dX1_readStreet_38 (by decide) ?_
      refine lv_istore_n (lv' := [(2, .int 0), (0, .ref (gad z a)), (1, .ref (gad z b1))]) hx hb dX1_readStreet_39 rfl hl (by decide) rfl (fun ls hl => ?_)
      refine wX1_readStreet_40 X hr hlk k_a n_a k_b1 n_b1 _ _ _ _ _ _ h hG hS (lv_sub hl [1, 2, 0] rfl)
    · have h := ite_y h q6
      refine lv_iconst (v := 0) hx hb dX1_readStreet_28 (by decide) ?_
      obtain rfl := Option.some.inj h
      exact g_zret (zn (Or.inl rfl)) X hr hlk hG hS dX1_readStreet_29
set_option maxRecDepth 100000 in
set_option maxHeartbeats 4000000 in
theorem ct_X1_empty (l : Launch) (z : gZ) {N : Nat} {M : Mem} {a : Nat} {o : Mem} (k_a : kd a = 1) (n_a : a + 2 ≤ gn z) (h : fX1_empty N M a = some o) : CtV l z yX1_empty cX1_empty 1 none { frames := 0, cells := 0, slots := 0, locals := 0 } [.ref (gad z a)] M o := by
  refine Ct_of rfl (Nat.le_of_ble_eq_true rfl) ?_
  intro p e s m below meth c ls X hr hlk hG hS hl
  have X : gX p m c _ _ s _ RX1 z := X
  have hl : lv_has ls 1 [(0, .ref (gad z a))] := hl
  have hx := X.1
  have hb := X.2.1
  unfold fX1_empty at h
  refine lv_aload_n hx hb dX1_empty_0 rfl (lv_at hl 0 rfl) ?_
  refine lv_iconst (v := 0) hx hb dX1_empty_1 (by decide) ?_
  refine pf_X1_1 X hG hS (nx_0 n_a) k_a fl_X1_15 dX1_empty_2 (fun H locs hG hS => ?_)
  obtain ⟨M1, eM1⟩ : ∃ y, y = sI M a 1 0 := ⟨_, rfl⟩
  rw [← eM1] at hG
  have h := nm_y h M1 eM1
  obtain rfl := Option.some.inj h
  exact g_vret X hr hlk hG hS dX1_empty_5
