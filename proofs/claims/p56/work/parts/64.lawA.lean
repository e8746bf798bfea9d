/-! ===== the law's own methods ===== -/
theorem k_0 : kd 0 = 6 := by decide +kernel
theorem inc_nI (k : Nat) : nI k + Int32.ofInt 1 = nI (k + 1) := by
  rw [show Int32.ofInt 1 = (1 : Int32) from by decide +kernel, nI_1]
def CtEI (l : Launch) (z : gZ) (y : MethodName) (cc : ByteArray) (nL : Nat) (ret : Option FieldType) (rm : Room) (av : List Value) (M : Mem) (R : Int32 → Mem → Prop) : Prop :=
  Met l y (.code y cc nL ret :: gT) rm (gPc z M av) (va_Qi (fun r' (M' : Mem) => R r' M') (fun M' t => gW z M' t.heap) (gA z)) 0 0 (gA z)
def CtEV (l : Launch) (z : gZ) (y : MethodName) (cc : ByteArray) (nL : Nat) (ret : Option FieldType) (rm : Room) (av : List Value) (M : Mem) (R : Mem → Prop) : Prop :=
  Met l y (.code y cc nL ret :: gT) rm (gPc z M av) (va_Qv (fun (M' : Mem) => R M') (fun M' t => gW z M' t.heap) (gA z)) 0 0 (gA z)
section EROWS
variable {p : Program} {l : Launch} {e : Env} {R : Room} {s : State} {m : MethodId} {args : Array Value} {below : List Frame} {meth : Method} {c : Code} {H : Heap} {locs : List Loc} {cells slots : Nat} {Q : State → Prop}
variable {cc : ByteArray} {nL pc : Nat} {ls : Array Slot} {rest : List Value} {own : String} {z : gZ} {M : Mem}
theorem g_eSI {y : MethodName} {bytes : ByteArray} {maxL n index : Nat} {ret : Option FieldType} {rm : Room} {av st : List Value} {P : Int32 → Mem → Prop} (X : gX p m c cc nL s args own z) (hG : gW z M H) (hS : va_S (gA z) s.heap H locs) (hM : CtEI l z y bytes maxL ret rm (av) M P) (hm : gMS y bytes maxL ret n) (hlk : gML own index y) (hn : av.length = n) (hrm : rm.cells = 0 ∧ rm.slots = 0 ∧ rm.frames + 1 ≤ R.frames ∧ 8 + (maxL + 11) + rm.locals ≤ R.locals) (hcs : cells ≤ R.cells ∧ slots ≤ R.slots) (hl : ls.size = nL) (hro : (rest.map fun v => v.category).sum ≤ 8) (hst : st = av.reverse ++ rest) (hdg : decode cc pc = .ok (.invokestatic index, 3)) (kk : ∀ (r : Int32) (M' : Mem) (H1 : Heap) (locs1 : List Loc), P r M' → gW z M' H1 → va_S (gA z) s.heap H1 locs1 → W p l e R s m args below meth c H1 locs1 cells slots Q (F0 m (pc + 3) ls (.int r :: rest))) : W p l e R s m args below meth c H locs cells slots Q (F0 m pc ls st) :=
  va_calli (g_runS X hG hS hM hm hlk hn hrm hcs hl hro hst hdg) hS (fun q _ h => h) (fun q h => h) (fun r' u t H1 locs1 ht _ hp hB _ _ hS1 => kk r' u H1 locs1 hp (by rw [← ht]; exact hB) hS1)
theorem g_eSV {y : MethodName} {bytes : ByteArray} {maxL n index : Nat} {ret : Option FieldType} {rm : Room} {av st : List Value} {P : Mem → Prop} (X : gX p m c cc nL s args own z) (hG : gW z M H) (hS : va_S (gA z) s.heap H locs) (hM : CtEV l z y bytes maxL ret rm (av) M P) (hm : gMS y bytes maxL ret n) (hlk : gML own index y) (hn : av.length = n) (hrm : rm.cells = 0 ∧ rm.slots = 0 ∧ rm.frames + 1 ≤ R.frames ∧ 8 + (maxL + 11) + rm.locals ≤ R.locals) (hcs : cells ≤ R.cells ∧ slots ≤ R.slots) (hl : ls.size = nL) (hro : (rest.map fun v => v.category).sum ≤ 8) (hst : st = av.reverse ++ rest) (hdg : decode cc pc = .ok (.invokestatic index, 3)) (kk : ∀ (M' : Mem) (H1 : Heap) (locs1 : List Loc), P M' → gW z M' H1 → va_S (gA z) s.heap H1 locs1 → W p l e R s m args below meth c H1 locs1 cells slots Q (F0 m (pc + 3) ls rest)) : W p l e R s m args below meth c H locs cells slots Q (F0 m pc ls st) :=
  va_callv (g_runS X hG hS hM hm hlk hn hrm hcs hl hro hst hdg) hS (fun q _ h => h) (fun q h => h) (fun u t H1 locs1 ht _ hp hB _ _ hS1 => kk u H1 locs1 hp (by rw [← ht]; exact hB) hS1)
theorem g_eiret {v : Int32} {P : Int32 → Mem → Prop} (hP : P v M) (X : gX p m c cc nL s args own z) (hr : meth.sig.returnType = some .int) (hlk : meth.locks = false) (hG : gW z M H) (hS : va_S (gA z) s.heap H locs) (hdg : decode cc pc = .ok (.ireturn, 1)) : W p l e R s m args below meth c H locs cells slots (MQ below (va_Qi (fun r' (M' : Mem) => P r' M') (fun M' t => gW z M' t.heap) (gA z)) args s cells slots (gA z)) (F0 m pc ls [.int v]) :=
  W.iret X.1 X.2.1 hr (fun t ht _ => ⟨⟨v, M, rfl, hP, show gW z M t.heap by rw [ht]; exact hG⟩, hS.F ht⟩) hS.2.2 hdg hlk
theorem g_ezret {v : Int32} {P : Int32 → Mem → Prop} (hv : v = 0 ∨ v = 1) (hP : P v M) (X : gX p m c cc nL s args own z) (hr : meth.sig.returnType = some .boolean) (hlk : meth.locks = false) (hG : gW z M H) (hS : va_S (gA z) s.heap H locs) (hdg : decode cc pc = .ok (.ireturn, 1)) : W p l e R s m args below meth c H locs cells slots (MQ below (va_Qi (fun r' (M' : Mem) => P r' M') (fun M' t => gW z M' t.heap) (gA z)) args s cells slots (gA z)) (F0 m pc ls [.int v]) :=
  W.zret X.1 X.2.1 hr (zn hv) (fun t ht _ => ⟨⟨v, M, rfl, hP, show gW z M t.heap by rw [ht]; exact hG⟩, hS.F ht⟩) hS.2.2 hdg hlk
theorem g_evret {P : Mem → Prop} (hP : P M) (X : gX p m c cc nL s args own z) (hr : meth.sig.returnType = none) (hlk : meth.locks = false) (hG : gW z M H) (hS : va_S (gA z) s.heap H locs) (hdg : decode cc pc = .ok (.return_, 1)) : W p l e R s m args below meth c H locs cells slots (MQ below (va_Qv (fun (M' : Mem) => P M') (fun M' t => gW z M' t.heap) (gA z)) args s cells slots (gA z)) (F0 m pc ls []) :=
  W.vret X.1 X.2.1 hr (fun t ht _ => ⟨⟨M, rfl, hP, show gW z M t.heap by rw [ht]; exact hG⟩, hS.F ht⟩) hS.2.2 hdg hlk
end EROWS
theorem len_t (N : Nat) (M : Mem) {w : Nat} (h : w < 22) : fJ0_length_8abf5 N M w = some (nI (lenS.getD w 0)) := by
  unfold fJ0_length_8abf5 fJ0_coder_7d493
  revert h; revert w
  decide +kernel
theorem len_31 {w : Nat} (h : w < 22) : lenS.getD w 0 < 2 ^ 31 := by
  have a : ∀ w, w < 22 → lenS.getD w 0 < 100 := by decide +kernel
  have := a w h
  omega
theorem char_t (N : Nat) (M : Mem) {w : Nat} (h : w < 22) {i : Nat} (hi : i < lenS.getD w 0) : fJ0_charAt_5068e N M w (nI i) = some (nI (((bytS.getD w []).getD i 0).toNatClampNeg)) := by
  unfold fJ0_charAt_5068e fJ1_charAt_3b067 fJ0_isLatin1_aae02 fJ0_checkIndex_df160 fJ3_checkIndex_8e157
  revert hi; revert i; revert h; revert w
  decide +kernel
def fL_bits_4 (N : Nat) (M : Mem) (u0 : Int32) : Nat → Int32 → Int32 → Option Int32
  | 0, _, _ => none
  | n + 1, w1, w2 => if 12 ≤ w2 then some w1 else nm (w1 + ((u0 >>> (w2 &&& 31)) &&& 1)) (fun x2 => fL_bits_4 N M u0  n x2 (w2 + 1))
def fL_bits (N : Nat) (M : Mem) (v0 : Int32) : Option Int32 :=
  fL_bits_4 N M v0 N 0 0
def fL_refusals_5 (N : Nat) (M : Mem) (b0 : Nat) : Nat → Int32 → Int32 → Option Int32
  | 0, _, _ => none
  | n + 1, w1, w2 => if 16 < w2 then some w1 else bd (fX6_status N M b0 w2) (fun r2 => nm (w1 + r2) (fun x3 => fL_refusals_5 N M b0  n x3 (w2 + 1)))
def fL_refusals (N : Nat) (M : Mem) (b0 : Nat) : Option Int32 :=
  fL_refusals_5 N M b0 N 0 12
set_option maxRecDepth 100000 in
set_option maxHeartbeats 4000000 in
theorem wL_bits_4 {N : Nat} {p : Program} {l : Launch} {e : Env} {s : State} {m : MethodId} {args : Array Value} {below : List Frame} {meth : Method} {c : Code} {z : gZ} {M : Mem} {u0 : Int32} {o : Int32} (X : gX p m c cL_bits 3 s args RL z) (hr : meth.sig.returnType = (some .int)) (hlk : meth.locks = false)   : ∀ (n : Nat) (w1 : Int32) (w2 : Int32) (H : Heap) (locs : List Loc) (ls : Array Slot), fL_bits_4 N M u0  n w1 w2 = some o → gW z M H → va_S (gA z) s.heap H locs → lv_has ls 3 [(0, .int u0), (1, .int w1), (2, .int w2)] → W p l e { frames := 0, cells := 0, slots := 0, locals := 0 } s m args below meth c H locs 0 0 (MQ below (va_Qi (fun r' (_ : Unit) => r' = o) (fun _ t => gW z M t.heap) (gA z)) args s 0 0 (gA z)) (F0 m 4 ls []) := by
  have hx := X.1
  have hb := X.2.1
  intro n
  induction n with
  | zero => intro w1 w2 H locs ls h; cases h
  | succ n ih =>
    intro w1 w2 H locs ls h hG hS hl
    rw [fL_bits_4] at h
    refine lv_iload_n hx hb dL_bits_4 rfl (lv_at hl 2 rfl) ?_
    refine lv_bipush (v := 12) hx hb dL_bits_5 (by decide) ?_
    refine lv_icmp_ge (tgt := 24) hx hb dL_bits_7 (by decide) (fun q1 => ?_) (fun q1 => ?_)
    · have h := ite_y h q1
      refine lv_iload_n hx hb dL_bits_24 rfl (lv_at hl 1 rfl) ?_
      obtain rfl := Option.some.inj h
      exact g_iret X hr hlk hG hS dL_bits_25
    · have h := ite_n h q1
      refine lv_iload_n hx hb dL_bits_10 rfl (lv_at hl 1 rfl) ?_
      refine lv_iload_n hx hb dL_bits_11 rfl (lv_at hl 0 rfl) ?_
      refine lv_iload_n hx hb dL_bits_12 rfl (lv_at hl 2 rfl) ?_
      refine lv_ishr hx hb dL_bits_13 ?_
      refine lv_iconst (v := 1) hx hb dL_bits_14 (by decide) ?_
      refine lv_iand hx hb dL_bits_15 ?_
      refine lv_iadd hx hb dL_bits_16 ?_
      refine lv_topi (fun x2 ex2 => ?_)
      have h := nm_y h x2 ex2
      refine lv_istore_n (lv' := [(1, .int x2), (0, .int u0), (2, .int w2)]) hx hb dL_bits_17 rfl hl (by decide) rfl (fun ls hl => ?_)
      refine lv_iinc (v := (w2 + 1)) (lv' := [(2, .int (w2 + 1)), (1, .int x2), (0, .int u0)]) hx hb dL_bits_18 hl (k := 2) rfl rfl (by decide) rfl (fun ls hl => ?_)
      refine lv_goto (tgt := 4) hx hb dL_bits_21 (by decide) ?_
      exact ih x2 (w2 + 1) _ _ _ h hG hS (lv_sub hl [2, 1, 0] rfl)
set_option maxRecDepth 100000 in
set_option maxHeartbeats 4000000 in
theorem ct_L_bits (l : Launch) (z : gZ) {N : Nat} {M : Mem} {v0 : Int32} {o : Int32}  (h : fL_bits N M v0 = some o) : CtI l z yL_bits cL_bits 3 (some .int) { frames := 0, cells := 0, slots := 0, locals := 0 } [.int v0] M o M := by
  refine Ct_of rfl (Nat.le_of_ble_eq_true rfl) ?_
  intro p e s m below meth c ls X hr hlk hG hS hl
  have X : gX p m c _ _ s _ RL z := X
  have hl : lv_has ls 3 [(0, .int v0)] := hl
  have hx := X.1
  have hb := X.2.1
  unfold fL_bits at h
  refine lv_iconst (v := 0) hx hb dL_bits_0 (by decide) ?_
  refine lv_istore_n (lv' := [(1, .int 0), (0, .int v0)]) hx hb dL_bits_1 rfl hl (by decide) rfl (fun ls hl => ?_)
  refine lv_iconst (v := 0) hx hb dL_bits_2 (by decide) ?_
  refine lv_istore_n (lv' := [(2, .int 0), (1, .int 0), (0, .int v0)]) hx hb dL_bits_3 rfl hl (by decide) rfl (fun ls hl => ?_)
  refine wL_bits_4 X hr hlk  _ _ _ _ _ _ h hG hS (lv_sub hl [2, 1, 0] rfl)
set_option maxRecDepth 100000 in
set_option maxHeartbeats 4000000 in
theorem wL_refusals_5 {N : Nat} {p : Program} {l : Launch} {e : Env} {s : State} {m : MethodId} {args : Array Value} {below : List Frame} {meth : Method} {c : Code} {z : gZ} {M : Mem} {b0 : Nat} {o : Int32} (X : gX p m c cL_refusals 3 s args RL z) (hr : meth.sig.returnType = (some .int)) (hlk : meth.locks = false) (k_b0 : kd b0 = 6) (n_b0 : b0 + 119 ≤ gn z)  : ∀ (n : Nat) (w1 : Int32) (w2 : Int32) (H : Heap) (locs : List Loc) (ls : Array Slot), fL_refusals_5 N M b0  n w1 w2 = some o → gW z M H → va_S (gA z) s.heap H locs → lv_has ls 3 [(0, .ref (gad z b0)), (1, .int w1), (2, .int w2)] → W p l e { frames := 2, cells := 0, slots := 0, locals := 43 } s m args below meth c H locs 0 0 (MQ below (va_Qi (fun r' (_ : Unit) => r' = o) (fun _ t => gW z M t.heap) (gA z)) args s 0 0 (gA z)) (F0 m 5 ls []) := by
  have hx := X.1
  have hb := X.2.1
  intro n
  induction n with
  | zero => intro w1 w2 H locs ls h; cases h
  | succ n ih =>
    intro w1 w2 H locs ls h hG hS hl
    rw [fL_refusals_5] at h
    refine lv_iload_n hx hb dL_refusals_5 rfl (lv_at hl 2 rfl) ?_
    refine lv_bipush (v := 16) hx hb dL_refusals_6 (by decide) ?_
    refine lv_icmp_gt (tgt := 25) hx hb dL_refusals_8 (by decide) (fun q1 => ?_) (fun q1 => ?_)
    · have h := ite_y h q1
      refine lv_iload_n hx hb dL_refusals_25 rfl (lv_at hl 1 rfl) ?_
      obtain rfl := Option.some.inj h
      exact g_iret X hr hlk hG hS dL_refusals_26
    · have h := ite_n h q1
      refine lv_iload_n hx hb dL_refusals_11 rfl (lv_at hl 1 rfl) ?_
      refine lv_aload_n hx hb dL_refusals_12 rfl (lv_at hl 0 rfl) ?_
      refine lv_iload_n hx hb dL_refusals_13 rfl (lv_at hl 2 rfl) ?_
      obtain ⟨r2, hcr2, h⟩ := bd_y h
      refine g_cVI (a := b0) (ci := 6) (T := TX6) (N := 8) (av := [.int w2]) (rest := [.int w1]) X hG hS (ct_X6_status l z k_b0 n_b0 hcr2) mt_X6_status ml_L_67 rfl ⟨rfl, rfl, Nat.le_of_ble_eq_true rfl, Nat.le_of_ble_eq_true rfl⟩ ⟨Nat.le_refl 0, Nat.le_refl 0⟩ (nx_0 n_b0) k_b0 (by decide) rfl hl.1 (Nat.le_of_ble_eq_true rfl) rfl dL_refusals_14 (fun H locs hG hS => ?_)
      refine lv_iadd hx hb dL_refusals_17 ?_
      refine lv_topi (fun x3 ex3 => ?_)
      have h := nm_y h x3 ex3
      refine lv_istore_n (lv' := [(1, .int x3), (0, .ref (gad z b0)), (2, .int w2)]) hx hb dL_refusals_18 rfl hl (by decide) rfl (fun ls hl => ?_)
      refine lv_iinc (v := (w2 + 1)) (lv' := [(2, .int (w2 + 1)), (1, .int x3), (0, .ref (gad z b0))]) hx hb dL_refusals_19 hl (k := 2) rfl rfl (by decide) rfl (fun ls hl => ?_)
      refine lv_goto (tgt := 5) hx hb dL_refusals_22 (by decide) ?_
      exact ih x3 (w2 + 1) _ _ _ h hG hS (lv_sub hl [2, 1, 0] rfl)
set_option maxRecDepth 100000 in
set_option maxHeartbeats 4000000 in
theorem ct_L_refusals (l : Launch) (z : gZ) {N : Nat} {M : Mem} {b0 : Nat} {o : Int32} (k_b0 : kd b0 = 6) (n_b0 : b0 + 119 ≤ gn z) (h : fL_refusals N M b0 = some o) : CtI l z yL_refusals cL_refusals 3 (some .int) { frames := 2, cells := 0, slots := 0, locals := 43 } [.ref (gad z b0)] M o M := by
  refine Ct_of rfl (Nat.le_of_ble_eq_true rfl) ?_
  intro p e s m below meth c ls X hr hlk hG hS hl
  have X : gX p m c _ _ s _ RL z := X
  have hl : lv_has ls 3 [(0, .ref (gad z b0))] := hl
  have hx := X.1
  have hb := X.2.1
  unfold fL_refusals at h
  refine lv_iconst (v := 0) hx hb dL_refusals_0 (by decide) ?_
  refine lv_istore_n (lv' := [(1, .int 0), (0, .ref (gad z b0))]) hx hb dL_refusals_1 rfl hl (by decide) rfl (fun ls hl => ?_)
  refine lv_bipush (v := 12) hx hb dL_refusals_2 (by decide) ?_
  refine lv_istore_n (lv' := [(2, .int 12), (1, .int 0), (0, .ref (gad z b0))]) hx hb dL_refusals_4 rfl hl (by decide) rfl (fun ls hl => ?_)
  refine wL_refusals_5 X hr hlk k_b0 n_b0 _ _ _ _ _ _ h hG hS (lv_sub hl [2, 1, 0] rfl)
theorem bits_v (N : Nat) (M : Mem) (d : Int32) (hN : 4097 < N) : fL_bits N M d = some (nI (fb_ct (bt d) 12)) := by
  unfold fL_bits
  obtain ⟨k, hk⟩ := lp (fun k (s : Int32 × Int32) => fL_bits_4 N M d k s.1 s.2) (fun p => (nI (fb_ct (bt d) p), nI p)) 12 (fun k p hp => by
    show fL_bits_4 N M d (k + 1) (nI (fb_ct (bt d) p)) (nI p) = fL_bits_4 N M d k (nI (fb_ct (bt d) (p + 1))) (nI (p + 1))
    rw [fL_bits_4, if_neg (show ¬ (12 : Int32) ≤ nI p from nI_ge (b := 12) hp (by decide)), shr1 d (by omega), nm_eq, nI_1, fb_ct_succ]
    cases bt d p
    · rw [if_neg (by decide)]
      show fL_bits_4 N M d k (nI (fb_ct (bt d) p) + 0) _ = _
      rw [Int32.add_zero]; rfl
    · rw [if_pos rfl]
      show fL_bits_4 N M d k (nI (fb_ct (bt d) p) + 1) _ = _
      rw [nI_1]) (N := N) (by omega)
  refine hk.trans ?_
  show fL_bits_4 N M d (k + 1) _ (nI 12) = _
  rw [fL_bits_4, if_pos (by decide)]
def refS (M : Mem) (p : Nat) : Int32 := isum (fun j => M.1 (0 + 102) j) p
theorem refs_v (N : Nat) (M : Mem) (hN : 4097 < N) : fL_refusals N M 0 = some (refS M 5) := by
  unfold fL_refusals
  obtain ⟨k, hk⟩ := lp (fun k (s : Int32 × Int32) => fL_refusals_5 N M 0 k s.1 s.2) (fun p => (refS M p, nI (12 + p))) 5 (fun k p hp => by
    show fL_refusals_5 N M 0 (k + 1) (refS M p) (nI (12 + p)) = fL_refusals_5 N M 0 k (refS M p + M.1 (0 + 102) p) (nI (12 + p + 1))
    rw [fL_refusals_5, if_neg (show ¬ (16 : Int32) < nI (12 + p) from nI_nlt (a := 16) (by omega) (by omega)), q_ref hp, bd_some, nm_eq, nI_1]) (N := N) (by omega)
  refine hk.trans ?_
  show fL_refusals_5 N M 0 (k + 1) _ (nI 17) = _
  rw [fL_refusals_5, if_pos (by decide)]
theorem refs_2 (M : Mem) : refS (rC 0 (rM 119 (rC 0 M 2) 2) 2) 5 = refS M 5 + 2 := by
  have e0 : (rC 0 (rM 119 (rC 0 M 2) 2) 2).1 (0 + 102) 0 = M.1 (0 + 102) 0 + 1 + 1 := by
    show (sI (rM 119 (rC 0 M 2) 2) (0 + 102) 0 ((rM 119 (rC 0 M 2) 2).1 (0 + 102) 0 + 1)).1 (0 + 102) 0 = _
    rw [sI_s, rM_o (by decide)]
    show (sI M (0 + 102) 0 (M.1 (0 + 102) 0 + 1)).1 (0 + 102) 0 + 1 = _
    rw [sI_s]
  have ej : ∀ j, 0 < j → (rC 0 (rM 119 (rC 0 M 2) 2) 2).1 (0 + 102) j = M.1 (0 + 102) j := fun j hj => by
    show (sI (rM 119 (rC 0 M 2) 2) (0 + 102) 0 _).1 (0 + 102) j = _
    rw [sI_o (by omega), rM_o (by decide)]
    show (sI M (0 + 102) 0 _).1 (0 + 102) j = _
    rw [sI_o (by omega)]
  unfold refS
  rw [isum_S, isum_S, isum_S, isum_S, isum_S, isum_S, isum_S, isum_S, isum_S, isum_S, e0, ej 1 (by decide), ej 2 (by decide), ej 3 (by decide), ej 4 (by decide)]
  show 0 + (M.1 (0 + 102) 0 + 1 + 1) + _ + _ + _ + _ = 0 + _ + _ + _ + _ + _ + 2
  grind
def tenp : Nat → Int32
  | 0 => 0
  | 1 => 1
  | 2 => 10
  | _ => 100
theorem tenp_s {j : Nat} (h : j < 3) : ¬ tenp (j + 1) ≤ 0 ∧ ¬ tenp (j + 1) = 0 ∧ tenp (j + 1) / 10 = tenp j := by
  have hj : j = 0 ∨ j = 1 ∨ j = 2 := by omega
  rcases hj with rfl | rfl | rfl <;> exact ⟨by decide, by decide, by decide⟩
theorem cell_in {L : Nat} (hL : L ≤ 260) (h : ¬ nI L = 0) (i : Int32) : vp_in ((i &&& 65535) - (i &&& 65535) / nI L * nI L) L := by
  obtain ⟨j, hj, ej⟩ := pk_andE i (m := 65535) 16 (by decide)
  have h0 : 0 < L := by
    rcases Nat.eq_zero_or_pos L with q | q
    · rw [q] at h; exact absurd rfl h
    · exact q
  rw [ej, pk_rem (by omega) h0 (by omega)]
  exact nI_in (Nat.mod_lt _ h0) (by omega)
theorem nn_5 (r : Int32) : ∃ j, 1 ≤ j ∧ j ≤ 5 ∧ 1 + ((r &&& 255) - (r &&& 255) / 5 * 5) = nI j := by
  obtain ⟨j, hj, ej⟩ := pk_andE r (m := 255) 8 (by decide)
  have h5 := Nat.mod_lt j (show 0 < 5 by decide)
  refine ⟨1 + j % 5, by omega, by omega, ?_⟩
  rw [ej, show (5 : Int32) = nI 5 from rfl, pk_rem (by omega) (by decide) (by decide), show (1 : Int32) = nI 1 from rfl, nI_add]
theorem nn_0 {j : Nat} (h1 : 1 ≤ j) (h : j ≤ 5) : ¬ nI j = 0 := nI_ne0 (by omega) (by omega)
theorem nn_1 {j : Nat} (h : j ≤ 5) (q : ¬ nI j ≤ 1) : ¬ nI j - 1 = 0 := by
  have h2 : 2 ≤ j := by
    rcases Nat.lt_or_ge j 2 with w | w
    · exact absurd (show nI j ≤ (1 : Int32) from nI_le (b := 1) (by omega) (by decide)) q
    · exact w
  rw [show (1 : Int32) = nI 1 from rfl, pk_sub (by omega)]
  exact nI_ne0 (by omega) (by omega)
theorem pick_set {n : Nat} (hn : n ≤ 12) (v : Int32) : ∃ s, s < 2 ^ n ∧ v &&& (1 <<< (nI n &&& 31) - 1) = nI s := by
  have h31 := pow31 hn
  have h0 := Nat.two_pow_pos n
  refine of_bits (by omega) (fun i hi => ?_)
  rw [sh1 (by omega), show (1 : Int32) = nI 1 from rfl, pk_sub (by omega), b_and, Bool.and_eq_true] at hi
  rcases Nat.lt_or_ge i 32 with q | q
  · rw [all_bits hn q] at hi
    exact of_decide_eq_true hi.2
  · rw [b_big q] at hi
    exact absurd hi.1 (by decide)
theorem IS_100 {x i : Nat} (h : IS 0 119 x i) : x ≠ 100 := by unfold IS at h; omega
theorem run_LI {M M1 : Mem} {C : Nat → Nat → Int32} {n : Nat} {d : Int32} {e j : Nat} (h : LI M) (r : RunC M M1 (0 + 100) C n d e j) : LI M1 ∧ ∀ x i, x < 0 + 100 → M1.1 x i = M.1 x i := by
  obtain ⟨⟨kp, hI⟩, ht⟩ := h
  refine ⟨⟨⟨kp, Inv_fr hI (fun x i _ hi => r.2.2.2.1 x i (by have := IS_100 hi; omega)) (fun i => r.2.2.2.1 _ i (by omega)) (fun x i hx => r.2.2.2.2 x i (by unfold JS at hx; omega)) (fun i hi => ?_)⟩, ?_⟩, fun x i hx => r.2.2.2.1 x i (by omega)⟩
  · rw [r.2.2.2.1 _ i (by omega), r.2.2.2.1 _ (i + 2) (by omega)]
    exact hI.2.2.2.1 i hi
  · rw [r.2.2.2.1 119 8 (by omega)]; exact ht
theorem refuse_LI {M : Mem} (h : LI M) : LI (rM 119 (rC 0 M 5) 5) ∧ DnE (rC 0 M 5) (rM 119 (rC 0 M 5) 5) ∧ ∀ x i, x < 0 + 100 → (rM 119 (rC 0 M 5) 5).1 x i = M.1 x i := by
  obtain ⟨⟨kp, hI⟩, ht⟩ := h
  refine ⟨⟨⟨kp, Inv_ref hI (by decide) (by decide)⟩, ?_⟩, fun x hx => ⟨funext fun i => rM_o (by omega), rfl⟩, fun x i hx => by rw [rM_o (by omega), rC_o (by omega)]⟩
  rw [rM_o (by decide), rC_o (by decide)]
  exact ht
theorem q_runE {N k t n s : Nat} {M : Mem} {C : Nat → Nat → Int32} (h : SV M 0 k t n C) (hs : s < 2 ^ n) {e j : Nat} (he : e < 4096) (hj : j ≤ e) (h2 : xs C n (nI s ||| C 0 9) j = xs C n (nI s ||| C 0 9) (e + 1)) (hno : ∀ i k, i < k → k ≤ e → xs C n (nI s ||| C 0 9) i ≠ xs C n (nI s ||| C 0 9) k) (hN : 4097 < N) : ∃ M1, fX0_run N M (0 + 100) (0 + 4 + 1 + 11 + 8 * t) (nI s ||| C 0 9) = some M1 ∧ RunC M M1 (0 + 100) C n (nI s ||| C 0 9) e j := by
  obtain ⟨hk, ht, e1, hC, hW, hV⟩ := h
  exact run_c (N := N) (c := 0 + 100) hV hC (by omega) (or_lt hC hs) he hj h2 hno hN
theorem xor_0 (x : Int32) : x ^^^ x = 0 := by
  apply b_ext
  intro i _
  rw [b_xor, b_0]
  cases bt x i <;> rfl
/-- from a rest: no round changes anything -/
theorem rest_go {k t n r : Nat} {M : Mem} {C : Nat → Nat → Int32} (hI : LI M) (h : SV M 0 k t n C) (hr : r < 2 ^ n) (rr : rst C n (nI r) = true) : ∃ M1, fX6_go 4098 M 0 (nI t) (nI r) = some (nI r, M1) ∧ fX6_turns 4098 M 0 (nI t) (nI r) = some (0, M1) ∧ LI M1 ∧ SV M1 0 k t n C := by
  obtain ⟨o1, x1⟩ := rest_xs h.2.2.2.1 rr
  have h2 : xs C n (nI r ||| C 0 9) 0 = xs C n (nI r ||| C 0 9) (0 + 1) := by
    rw [o1]; exact x1.symm
  obtain ⟨M1, r1, r2⟩ := q_runE (N := 4098) h hr (e := 0) (j := 0) (by decide) (Nat.le_refl 0) h2 (fun i k a b => absurd a (by omega)) hN0
  obtain ⟨l1, l2⟩ := run_LI hI r2
  refine ⟨M1, ?_, ?_, l1, SV_fr h l2⟩
  · rw [q_go rfl h hr r1 r2, o1, x1]
  · rw [q_turns rfl h hr r1 r2]
    have e : isum (chg C n (nI r ||| C 0 9)) (0 + 1) = 0 := by
      rw [isum_S]
      show 0 + chg C n (nI r ||| C 0 9) 0 = 0
      unfold chg
      rw [← h2]
      have z : xs C n (nI r ||| C 0 9) 0 ^^^ xs C n (nI r ||| C 0 9) 0 = 0 := xor_0 _
      rw [z, cnt_zero.mpr rfl]; rfl
    rw [e]
set_option maxRecDepth 100000 in
set_option maxHeartbeats 4000000 in
theorem ct_L_tell (l : Launch) (z : gZ) {M : Mem} {a k : Nat} (n1 : 0 + 119 ≤ gn z) (hz : gn z ≤ 119) (k_a : a < 22) (hI : LFd k M) : CtEV l z yL_tell cL_tell 3 none { frames := 4, cells := 0, slots := 0, locals := 85 } [.ref (gad z 0), .ref (gsk z a)] M (LFd k) := by
  refine Ct_of rfl (Nat.le_of_ble_eq_true rfl) ?_
  intro p e s m below meth c ls X hr hlk hG hS hl
  have X : gX p m c _ _ s _ RL z := X
  have hx := X.1
  have hb := X.2.1
  have hl : lv_has ls 3 [(0, .ref (gad z 0)), (1, .ref (gsk z a))] := hl
  have hlen := len_31 k_a
  have loop : ∀ (d j : Nat) (M : Mem) (H : Heap) (locs : List Loc) (ls : Array Slot), j + d = lenS.getD a 0 → LFd k M → gW z M H → va_S (gA z) s.heap H locs → lv_has ls 3 [(2, .int (nI j)), (1, .ref (gsk z a)), (0, .ref (gad z 0))] → W p l e { frames := 4, cells := 0, slots := 0, locals := 85 } s m ([.ref (gad z 0), .ref (gsk z a)] : List Value).toArray below meth c H locs 0 0 (MQ below (va_Qv (fun (M' : Mem) => (LFd k) M') (fun M' t => gW z M' t.heap) (gA z)) ([.ref (gad z 0), .ref (gsk z a)] : List Value).toArray s 0 0 (gA z)) (F0 m 2 ls []) := by
    intro d
    induction d with
    | zero =>
      intro j M H locs ls ej hI hG hS hl
      refine lv_iload_n hx hb dL_tell_2 rfl (lv_at hl 0 rfl) ?_
      refine lv_aload_n hx hb dL_tell_3 rfl (lv_at hl 1 rfl) ?_
      refine g_cTI (k := a) (av := []) (rest := [.int (nI j)]) X hG hS (ct_J0_length_8abf5 l z k_a (len_t 4098 M k_a)) mt_J0_length_8abf5 ml_L_7 rfl ⟨rfl, rfl, Nat.le_of_ble_eq_true rfl, Nat.le_of_ble_eq_true rfl⟩ ⟨Nat.le_refl 0, Nat.le_refl 0⟩ k_a rfl hl.1 (Nat.le_of_ble_eq_true rfl) rfl dL_tell_4 (fun H locs hG hS => ?_)
      refine lv_icmp_ge (tgt := 27) hx hb dL_tell_7 (by decide) (fun q => ?_) (fun q => absurd q (fun w => w (nI_le (by omega) (by omega))))
      exact g_evret hI X hr hlk hG hS dL_tell_27
    | succ d ih =>
      intro j M H locs ls ej hI hG hS hl
      have hj : j < lenS.getD a 0 := by omega
      refine lv_iload_n hx hb dL_tell_2 rfl (lv_at hl 0 rfl) ?_
      refine lv_aload_n hx hb dL_tell_3 rfl (lv_at hl 1 rfl) ?_
      refine g_cTI (k := a) (av := []) (rest := [.int (nI j)]) X hG hS (ct_J0_length_8abf5 l z k_a (len_t 4098 M k_a)) mt_J0_length_8abf5 ml_L_7 rfl ⟨rfl, rfl, Nat.le_of_ble_eq_true rfl, Nat.le_of_ble_eq_true rfl⟩ ⟨Nat.le_refl 0, Nat.le_refl 0⟩ k_a rfl hl.1 (Nat.le_of_ble_eq_true rfl) rfl dL_tell_4 (fun H locs hG hS => ?_)
      refine lv_icmp_ge (tgt := 27) hx hb dL_tell_7 (by decide) (fun q => absurd q (nI_ge hj hlen)) (fun q => ?_)
      refine lv_aload_n hx hb dL_tell_10 rfl (lv_at hl 2 rfl) ?_
      refine lv_aload_n hx hb dL_tell_11 rfl (lv_at hl 1 rfl) ?_
      refine lv_iload_n hx hb dL_tell_12 rfl (lv_at hl 0 rfl) ?_
      refine g_cTI (k := a) (av := [.int (nI j)]) (rest := [.ref (gad z 0)]) X hG hS (ct_J0_charAt_5068e l z k_a (char_t 4098 M k_a hj)) mt_J0_charAt_5068e ml_L_13 rfl ⟨rfl, rfl, Nat.le_of_ble_eq_true rfl, Nat.le_of_ble_eq_true rfl⟩ ⟨Nat.le_refl 0, Nat.le_refl 0⟩ k_a rfl hl.1 (Nat.le_of_ble_eq_true rfl) rfl dL_tell_13 (fun H locs hG hS => ?_)
      refine lv_iconst (v := 1) hx hb dL_tell_16 (by decide) ?_
      obtain ⟨rc_1, Ac_1, Bc_1, hc_1, dc_1, hI⟩ := lm_feed hI (nI ((bytS.getD a []).getD j 0).toNatClampNeg) 1
      refine g_cVI (a := 0) (ci := 6) (T := TX6) (N := 8) (av := [.int (nI ((bytS.getD a []).getD j 0).toNatClampNeg), .int 1]) (rest := []) X hG hS (ct_X6_feed l z k_0 n1 hc_1) mt_X6_feed ml_L_17 rfl ⟨rfl, rfl, Nat.le_of_ble_eq_true rfl, Nat.le_of_ble_eq_true rfl⟩ ⟨Nat.le_refl 0, Nat.le_refl 0⟩ (nx_0 n1) k_0 (by decide) rfl hl.1 (Nat.le_of_ble_eq_true rfl) rfl dL_tell_17 (fun H locs hG hS => ?_)
      have hG : gW z Bc_1 H := gW_sw (fun x hx => dc_1 x (Nat.lt_of_lt_of_le hx hz)) hG
      refine lv_pop hx hb dL_tell_20 rfl ?_
      refine lv_iinc (v := (nI (j + 1))) (lv' := [(2, .int (nI (j + 1))), (1, .ref (gsk z a)), (0, .ref (gad z 0))]) hx hb dL_tell_21 hl (k := 0) rfl (inc_nI _) (by decide) rfl (fun ls hl => ?_)
      refine lv_goto (tgt := 2) hx hb dL_tell_24 (by decide) ?_
      exact ih (j + 1) Bc_1 H locs ls (by omega) hI hG hS (lv_sub hl [0, 1, 2] rfl)
  refine lv_iconst (v := 0) hx hb dL_tell_0 (by decide) ?_
  refine lv_istore_n (lv' := [(2, .int 0), (0, .ref (gad z 0)), (1, .ref (gsk z a))]) hx hb dL_tell_1 rfl hl (by decide) rfl (fun ls hl => ?_)
  exact loop _ 0 M _ _ ls (Nat.zero_add _) hI hG hS (lv_sub hl [0, 2, 1] rfl)
set_option maxRecDepth 100000 in
set_option maxHeartbeats 4000000 in
theorem ct_L_number (l : Launch) (z : gZ) {M : Mem} {v1 : Int32} {k : Nat} (n1 : 0 + 119 ≤ gn z) (hz : gn z ≤ 119) (hI : LFd k M) : CtEV l z yL_number cL_number 3 none { frames := 2, cells := 0, slots := 0, locals := 45 } [.ref (gad z 0), .int v1] M (LFd k) := by
  refine Ct_of rfl (Nat.le_of_ble_eq_true rfl) ?_
  intro p e s m below meth c ls X hr hlk hG hS hl
  have X : gX p m c _ _ s _ RL z := X
  have hx := X.1
  have hb := X.2.1
  have hl : lv_has ls 3 [(0, .ref (gad z 0)), (1, .int v1)] := hl
  have loop : ∀ (j : Nat) (M : Mem) (H : Heap) (locs : List Loc) (ls : Array Slot), j ≤ 3 → LFd k M → gW z M H → va_S (gA z) s.heap H locs → lv_has ls 3 [(2, .int (tenp j)), (1, .int v1), (0, .ref (gad z 0))] → W p l e { frames := 2, cells := 0, slots := 0, locals := 45 } s m ([.ref (gad z 0), .int v1] : List Value).toArray below meth c H locs 0 0 (MQ below (va_Qv (fun (M' : Mem) => (LFd k) M') (fun M' t => gW z M' t.heap) (gA z)) ([.ref (gad z 0), .int v1] : List Value).toArray s 0 0 (gA z)) (F0 m 3 ls []) := by
    intro j
    induction j with
    | zero =>
      intro M H locs ls ej hI hG hS hl
      refine lv_iload_n hx hb dL_number_3 rfl (lv_at hl 0 rfl) ?_
      refine lv_if_le (tgt := 40) hx hb dL_number_4 (by decide) (fun q => ?_) (fun q => absurd q (fun w => w (by decide)))
      exact g_evret hI X hr hlk hG hS dL_number_40
    | succ j ih =>
      intro M H locs ls ej hI hG hS hl
      obtain ⟨t1, t2, t3⟩ := tenp_s (j := j) (by omega)
      have t32 : ∀ (M : Mem) (H : Heap) (locs : List Loc), LFd k M → gW z M H → va_S (gA z) s.heap H locs → W p l e { frames := 2, cells := 0, slots := 0, locals := 45 } s m ([.ref (gad z 0), .int v1] : List Value).toArray below meth c H locs 0 0 (MQ below (va_Qv (fun (M' : Mem) => (LFd k) M') (fun M' t => gW z M' t.heap) (gA z)) ([.ref (gad z 0), .int v1] : List Value).toArray s 0 0 (gA z)) (F0 m 32 ls []) := by
        intro M H locs hI hG hS
        refine lv_iload_n hx hb dL_number_32 rfl (lv_at hl 0 rfl) ?_
        refine lv_bipush (v := 10) hx hb dL_number_33 (by decide) ?_
        refine lv_idiv hx hb dL_number_35 (by decide) ?_
        rw [t3]
        refine lv_topi (fun x32 ex32 => ?_)
        refine lv_istore_n (lv' := [(2, .int x32), (1, .int v1), (0, .ref (gad z 0))]) hx hb dL_number_36 rfl hl (by decide) rfl (fun ls hl => ?_)
        refine lv_goto (tgt := 3) hx hb dL_number_37 (by decide) ?_
        subst ex32
        exact ih M H locs ls (by omega) hI hG hS (lv_sub hl [0, 1, 2] rfl)
      have t17 : ∀ (M : Mem) (H : Heap) (locs : List Loc), LFd k M → gW z M H → va_S (gA z) s.heap H locs → W p l e { frames := 2, cells := 0, slots := 0, locals := 45 } s m ([.ref (gad z 0), .int v1] : List Value).toArray below meth c H locs 0 0 (MQ below (va_Qv (fun (M' : Mem) => (LFd k) M') (fun M' t => gW z M' t.heap) (gA z)) ([.ref (gad z 0), .int v1] : List Value).toArray s 0 0 (gA z)) (F0 m 17 ls []) := by
        intro M H locs hI hG hS
        refine lv_aload_n hx hb dL_number_17 rfl (lv_at hl 2 rfl) ?_
        refine lv_bipush (v := 48) hx hb dL_number_18 (by decide) ?_
        refine lv_iload_n hx hb dL_number_20 rfl (lv_at hl 1 rfl) ?_
        refine lv_iload_n hx hb dL_number_21 rfl (lv_at hl 0 rfl) ?_
        refine lv_idiv hx hb dL_number_22 t2 ?_
        refine lv_bipush (v := 10) hx hb dL_number_23 (by decide) ?_
        refine lv_irem hx hb dL_number_25 (by decide) ?_
        refine lv_iadd hx hb dL_number_26 ?_
        refine lv_iconst (v := 1) hx hb dL_number_27 (by decide) ?_
        obtain ⟨rc_1, Ac_1, Bc_1, hc_1, dc_1, hI⟩ := lm_feed hI (48 + ((v1 / (tenp (j + 1))) - (v1 / (tenp (j + 1))) / 10 * 10)) 1
        refine g_cVI (a := 0) (ci := 6) (T := TX6) (N := 8) (av := [.int (48 + ((v1 / (tenp (j + 1))) - (v1 / (tenp (j + 1))) / 10 * 10)), .int 1]) (rest := []) X hG hS (ct_X6_feed l z k_0 n1 hc_1) mt_X6_feed ml_L_17 rfl ⟨rfl, rfl, Nat.le_of_ble_eq_true rfl, Nat.le_of_ble_eq_true rfl⟩ ⟨Nat.le_refl 0, Nat.le_refl 0⟩ (nx_0 n1) k_0 (by decide) rfl hl.1 (Nat.le_of_ble_eq_true rfl) rfl dL_number_28 (fun H locs hG hS => ?_)
        have hG : gW z Bc_1 H := gW_sw (fun x hx => dc_1 x (Nat.lt_of_lt_of_le hx hz)) hG
        refine lv_pop hx hb dL_number_31 rfl ?_
        exact t32 Bc_1 H locs hI hG hS
      refine lv_iload_n hx hb dL_number_3 rfl (lv_at hl 0 rfl) ?_
      refine lv_if_le (tgt := 40) hx hb dL_number_4 (by decide) (fun q => absurd q t1) (fun q => ?_)
      refine lv_iload_n hx hb dL_number_7 rfl (lv_at hl 1 rfl) ?_
      refine lv_iload_n hx hb dL_number_8 rfl (lv_at hl 0 rfl) ?_
      refine lv_icmp_ge (tgt := 17) hx hb dL_number_9 (by decide) (fun q9 => ?_) (fun q9 => ?_)
      · skip
        exact t17 M H locs hI hG hS
      · skip
        refine lv_iload_n hx hb dL_number_12 rfl (lv_at hl 0 rfl) ?_
        refine lv_iconst (v := 1) hx hb dL_number_13 (by decide) ?_
        refine lv_icmp_ne (tgt := 32) hx hb dL_number_14 (by decide) (fun q14 => ?_) (fun q14 => ?_)
        · skip
          exact t32 M H locs hI hG hS
        · skip
          exact t17 M H locs hI hG hS
  refine lv_bipush (v := 100) hx hb dL_number_0 (by decide) ?_
  refine lv_istore_n (lv' := [(2, .int 100), (0, .ref (gad z 0)), (1, .int v1)]) hx hb dL_number_2 rfl hl (by decide) rfl (fun ls hl => ?_)
  exact loop 3 M _ _ ls (Nat.le_refl 3) hI hG hS (lv_sub hl [0, 2, 1] rfl)
set_option maxRecDepth 100000 in
set_option maxHeartbeats 4000000 in
theorem ct_L_cell (l : Launch) (z : gZ) {M : Mem} {v1 : Int32} (hL : gsl z ≤ 260) : CtEI l z yL_cell cL_cell 2 (some .int) { frames := 0, cells := 0, slots := 0, locals := 0 } [.ref (gsb z), .int v1] M (fun (_ : Int32) (M' : Mem) => M = M') := by
  refine Ct_of rfl (Nat.le_of_ble_eq_true rfl) ?_
  intro p e s m below meth c ls X hr hlk hG hS hl
  have X : gX p m c _ _ s _ RL z := X
  have hx := X.1
  have hb := X.2.1
  have hl : lv_has ls 2 [(0, .ref (gsb z)), (1, .int v1)] := hl
  refine lv_aload_n hx hb dL_cell_0 rfl (lv_at hl 0 rfl) ?_
  refine g_slen X hS dL_cell_1 ?_
  refine lv_if_ne (tgt := 12) hx hb dL_cell_2 (by decide) (fun q0 => ?_) (fun q0 => ?_)
  · skip
    refine lv_aload_n hx hb dL_cell_12 rfl (lv_at hl 0 rfl) ?_
    refine lv_iload_n hx hb dL_cell_13 rfl (lv_at hl 1 rfl) ?_
    refine lv_ldc (v := 65535) hx hb X.2.2.2.1 (X.2.2.2.2.1 _ cn_L_23) dL_cell_14 ?_
    refine lv_iand hx hb dL_cell_16 ?_
    refine lv_aload_n hx hb dL_cell_17 rfl (lv_at hl 0 rfl) ?_
    refine g_slen X hS dL_cell_18 ?_
    refine lv_irem hx hb dL_cell_19 q0 ?_
    refine g_sld X hS (cell_in hL q0 v1) dL_cell_20 ?_
    exact g_eiret (P := fun (_ : Int32) (M' : Mem) => M = M') rfl X hr hlk hG hS dL_cell_21
  · skip
    refine lv_bipush (v := 13) hx hb dL_cell_5 (by decide) ?_
    refine lv_iload_n hx hb dL_cell_7 rfl (lv_at hl 1 rfl) ?_
    refine lv_imul hx hb dL_cell_8 ?_
    refine lv_goto (tgt := 21) hx hb dL_cell_9 (by decide) ?_
    exact g_eiret (P := fun (_ : Int32) (M' : Mem) => M = M') rfl X hr hlk hG hS dL_cell_21
set_option maxRecDepth 100000 in
set_option maxHeartbeats 4000000 in
theorem ct_L_build (l : Launch) (z : gZ) {M : Mem} {v2 : Int32} {k : Nat} (n1 : 0 + 119 ≤ gn z) (hz : gn z ≤ 119) (hL : gsl z ≤ 260) (hk : k < 4) (hI : LFd k M) : CtEI l z yL_build cL_build 8 (some .int) { frames := 10, cells := 0, slots := 0, locals := 218 } [.ref (gad z 0), .ref (gsb z), .int v2, .int 5] M (fun (_ : Int32) (M' : Mem) => LI M') := by
  refine Ct_of rfl (Nat.le_of_ble_eq_true rfl) ?_
  intro p e s m below meth c ls X hr hlk hG hS hl
  have X : gX p m c _ _ s _ RL z := X
  have hx := X.1
  have hb := X.2.1
  have hl : lv_has ls 8 [(0, .ref (gad z 0)), (1, .ref (gsb z)), (2, .int v2), (3, .int 5)] := hl
  refine lv_iconst (v := 1) hx hb dL_build_0 (by decide) ?_
  refine lv_aload_n hx hb dL_build_1 rfl (lv_at hl 1 rfl) ?_
  refine lv_iload_n hx hb dL_build_2 rfl (lv_at hl 2 rfl) ?_
  refine g_eSI (av := [.ref (gsb z), .int v2]) (rest := [.int 1]) X hG hS (ct_L_cell l z (M := M) (v1 := v2) hL) mt_L_cell ml_L_24 rfl ⟨rfl, rfl, Nat.le_of_ble_eq_true rfl, Nat.le_of_ble_eq_true rfl⟩ ⟨Nat.le_refl 0, Nat.le_refl 0⟩ hl.1 (Nat.le_of_ble_eq_true rfl) rfl dL_build_3 (fun rc_1 Ac_1 H locs pc_1 hG hS => ?_)
  have hG : gW z M H := (show M = Ac_1 from pc_1) ▸ hG
  refine lv_sipush (v := 255) hx hb dL_build_6 (by decide) ?_
  refine lv_iand hx hb dL_build_9 ?_
  refine lv_iload_n hx hb dL_build_10 rfl (lv_at hl 3 rfl) ?_
  refine lv_irem hx hb dL_build_11 (by decide) ?_
  refine lv_iadd hx hb dL_build_12 ?_
  obtain ⟨jn, hj1, hj5, ejn⟩ := nn_5 rc_1
  rw [ejn]
  have hn0 : ¬ nI jn = 0 := nn_0 hj1 hj5
  refine lv_istore (lv' := [(4, .int (nI jn)), (0, .ref (gad z 0)), (1, .ref (gsb z)), (2, .int v2), (3, .int 5)]) hx hb dL_build_13 hl (by decide) rfl (fun ls hl => ?_)
  have t362 : ∀ (M : Mem) (H : Heap) (locs : List Loc) (ls : Array Slot), LFd k M → gW z M H → va_S (gA z) s.heap H locs → lv_has ls 8 [(4, .int (nI jn)), (0, .ref (gad z 0)), (1, .ref (gsb z)), (2, .int v2), (3, .int 5)] → W p l e { frames := 10, cells := 0, slots := 0, locals := 218 } s m ([.ref (gad z 0), .ref (gsb z), .int v2, .int 5] : List Value).toArray below meth c H locs 0 0 (MQ below (va_Qi (fun r' (M' : Mem) => ((fun (_ : Int32) (M' : Mem) => LI M')) r' M') (fun M' t => gW z M' t.heap) (gA z)) ([.ref (gad z 0), .ref (gsb z), .int v2, .int 5] : List Value).toArray s 0 0 (gA z)) (F0 m 362 ls []) := by
    intro M H locs ls hI hG hS hl
    refine lv_aload_n hx hb dL_build_362 rfl (lv_at hl 1 rfl) ?_
    obtain ⟨rc_2, Ac_2, Bc_2, hc_2, dc_2, hI⟩ := lm_street hI hk 
    refine g_cVI (a := 0) (ci := 6) (T := TX6) (N := 8) (av := []) (rest := []) X hG hS (ct_X6_street l z k_0 n1 hc_2) mt_X6_street ml_L_64 rfl ⟨rfl, rfl, Nat.le_of_ble_eq_true rfl, Nat.le_of_ble_eq_true rfl⟩ ⟨Nat.le_refl 0, Nat.le_refl 0⟩ (nx_0 n1) k_0 (by decide) rfl hl.1 (Nat.le_of_ble_eq_true rfl) rfl dL_build_363 (fun H locs hG hS => ?_)
    have hG : gW z Bc_2 H := gW_sw (fun x hx => dc_2 x (Nat.lt_of_lt_of_le hx hz)) hG
    exact g_eiret (P := fun (_ : Int32) (M' : Mem) => LI M') hI X hr hlk hG hS dL_build_366
  have loop : ∀ (d j : Nat) (M : Mem) (H : Heap) (locs : List Loc) (ls : Array Slot), j + d = 3 → LFd k M → gW z M H → va_S (gA z) s.heap H locs → lv_has ls 8 [(5, .int (nI j)), (4, .int (nI jn)), (0, .ref (gad z 0)), (1, .ref (gsb z)), (2, .int v2), (3, .int 5)] → W p l e { frames := 10, cells := 0, slots := 0, locals := 218 } s m ([.ref (gad z 0), .ref (gsb z), .int v2, .int 5] : List Value).toArray below meth c H locs 0 0 (MQ below (va_Qi (fun r' (M' : Mem) => ((fun (_ : Int32) (M' : Mem) => LI M')) r' M') (fun M' t => gW z M' t.heap) (gA z)) ([.ref (gad z 0), .ref (gsb z), .int v2, .int 5] : List Value).toArray s 0 0 (gA z)) (F0 m 249 ls []) := by
    intro d
    induction d with
    | zero =>
      intro j M H locs ls ej hI hG hS hl
      refine lv_iload hx hb dL_build_249 (lv_at hl 0 rfl) ?_
      refine lv_iconst (v := 3) hx hb dL_build_251 (by decide) ?_
      refine lv_icmp_ge (tgt := 362) hx hb dL_build_252 (by decide) (fun q => ?_) (fun q => absurd q (fun w => w (show (3 : Int32) ≤ nI j from nI_le (a := 3) (by omega) (by omega))))
      exact t362 M H locs ls hI hG hS (lv_sub hl [1, 2, 3, 4, 5] rfl)
    | succ d ih =>
      intro j M H locs ls ej hI hG hS hl
      refine lv_iload hx hb dL_build_249 (lv_at hl 0 rfl) ?_
      refine lv_iconst (v := 3) hx hb dL_build_251 (by decide) ?_
      refine lv_icmp_ge (tgt := 362) hx hb dL_build_252 (by decide) (fun q => absurd q (show ¬ (3 : Int32) ≤ nI j from nI_ge (b := 3) (by omega) (by decide))) (fun q => ?_)
      refine lv_iload hx hb dL_build_255 (lv_at hl 1 rfl) ?_
      refine lv_iconst (v := 1) hx hb dL_build_257 (by decide) ?_
      refine lv_icmp_le (tgt := 362) hx hb dL_build_258 (by decide) (fun q258 => ?_) (fun q258 => ?_)
      · skip
        exact t362 M H locs ls hI hG hS (lv_sub hl [1, 2, 3, 4, 5] rfl)
      · skip
        have hn1 : ¬ nI jn - 1 = 0 := nn_1 hj5 q258
        refine lv_aload_n hx hb dL_build_261 rfl (lv_at hl 3 rfl) ?_
        refine lv_iload_n hx hb dL_build_262 rfl (lv_at hl 4 rfl) ?_
        refine lv_iconst (v := 2) hx hb dL_build_263 (by decide) ?_
        refine lv_iadd hx hb dL_build_264 ?_
        refine lv_iload hx hb dL_build_265 (lv_at hl 0 rfl) ?_
        refine lv_iadd hx hb dL_build_267 ?_
        refine g_eSI (av := [.ref (gsb z), .int ((v2 + 2) + (nI j))]) (rest := []) X hG hS (ct_L_cell l z (M := M) (v1 := ((v2 + 2) + (nI j))) hL) mt_L_cell ml_L_24 rfl ⟨rfl, rfl, Nat.le_of_ble_eq_true rfl, Nat.le_of_ble_eq_true rfl⟩ ⟨Nat.le_refl 0, Nat.le_refl 0⟩ hl.1 (Nat.le_of_ble_eq_true rfl) rfl dL_build_268 (fun rc_3 Ac_3 H locs pc_3 hG hS => ?_)
        have hG : gW z M H := (show M = Ac_3 from pc_3) ▸ hG
        refine lv_istore (lv' := [(6, .int rc_3), (5, .int (nI j)), (4, .int (nI jn)), (0, .ref (gad z 0)), (1, .ref (gsb z)), (2, .int v2), (3, .int 5)]) hx hb dL_build_271 hl (by decide) rfl (fun ls hl => ?_)
        refine lv_iload hx hb dL_build_273 (lv_at hl 0 rfl) ?_
        refine lv_sipush (v := 255) hx hb dL_build_275 (by decide) ?_
        refine lv_iand hx hb dL_build_278 ?_
        refine lv_iload hx hb dL_build_279 (lv_at hl 2 rfl) ?_
        refine lv_irem hx hb dL_build_281 hn0 ?_
        refine lv_topi (fun x_4 ex_4 => ?_)
        refine lv_istore (lv' := [(7, .int x_4), (6, .int rc_3), (5, .int (nI j)), (4, .int (nI jn)), (0, .ref (gad z 0)), (1, .ref (gsb z)), (2, .int v2), (3, .int 5)]) hx hb dL_build_282 hl (by decide) rfl (fun ls hl => ?_)
        have t356 : ∀ (M : Mem) (H : Heap) (locs : List Loc), LFd k M → gW z M H → va_S (gA z) s.heap H locs → W p l e { frames := 10, cells := 0, slots := 0, locals := 218 } s m ([.ref (gad z 0), .ref (gsb z), .int v2, .int 5] : List Value).toArray below meth c H locs 0 0 (MQ below (va_Qi (fun r' (M' : Mem) => ((fun (_ : Int32) (M' : Mem) => LI M')) r' M') (fun M' t => gW z M' t.heap) (gA z)) ([.ref (gad z 0), .ref (gsb z), .int v2, .int 5] : List Value).toArray s 0 0 (gA z)) (F0 m 356 ls []) := by
          intro M H locs hI hG hS
          refine lv_iinc (v := (nI (j + 1))) (lv' := [(5, .int (nI (j + 1))), (7, .int x_4), (6, .int rc_3), (4, .int (nI jn)), (0, .ref (gad z 0)), (1, .ref (gsb z)), (2, .int v2), (3, .int 5)]) hx hb dL_build_356 hl (k := 2) rfl (inc_nI _) (by decide) rfl (fun ls hl => ?_)
          refine lv_goto (tgt := 249) hx hb dL_build_359 (by decide) ?_
          exact ih (j + 1) M H locs ls (by omega) hI hG hS (lv_sub hl [0, 3, 4, 5, 6, 7] rfl)
        refine lv_aload_n hx hb dL_build_284 rfl (lv_at hl 4 rfl) ?_
        refine g_ldcS X (k := 20) (tx := ";tie ") (by decide) dL_build_285 ?_
        refine g_eSV (av := [.ref (gad z 0), .ref (gsk z 20)]) (rest := []) X hG hS (ct_L_tell l z (M := M) (a := 20) (k := k) n1 hz (by decide) hI) mt_L_tell ml_L_32 rfl ⟨rfl, rfl, Nat.le_of_ble_eq_true rfl, Nat.le_of_ble_eq_true rfl⟩ ⟨Nat.le_refl 0, Nat.le_refl 0⟩ hl.1 (Nat.le_of_ble_eq_true rfl) rfl dL_build_287 (fun Bc_5 H locs hI hG hS => ?_)
        refine lv_aload_n hx hb dL_build_290 rfl (lv_at hl 4 rfl) ?_
        refine lv_iload hx hb dL_build_291 (lv_at hl 0 rfl) ?_
        refine g_eSV (av := [.ref (gad z 0), .int x_4]) (rest := []) X hG hS (ct_L_number l z (M := Bc_5) (v1 := x_4) (k := k) n1 hz hI) mt_L_number ml_L_36 rfl ⟨rfl, rfl, Nat.le_of_ble_eq_true rfl, Nat.le_of_ble_eq_true rfl⟩ ⟨Nat.le_refl 0, Nat.le_refl 0⟩ hl.1 (Nat.le_of_ble_eq_true rfl) rfl dL_build_293 (fun Bc_6 H locs hI hG hS => ?_)
        refine lv_aload_n hx hb dL_build_296 rfl (lv_at hl 4 rfl) ?_
        refine g_ldcS X (k := 21) (tx := " ") (by decide) dL_build_297 ?_
        refine g_eSV (av := [.ref (gad z 0), .ref (gsk z 21)]) (rest := []) X hG hS (ct_L_tell l z (M := Bc_6) (a := 21) (k := k) n1 hz (by decide) hI) mt_L_tell ml_L_32 rfl ⟨rfl, rfl, Nat.le_of_ble_eq_true rfl, Nat.le_of_ble_eq_true rfl⟩ ⟨Nat.le_refl 0, Nat.le_refl 0⟩ hl.1 (Nat.le_of_ble_eq_true rfl) rfl dL_build_299 (fun Bc_7 H locs hI hG hS => ?_)
        refine lv_aload_n hx hb dL_build_302 rfl (lv_at hl 4 rfl) ?_
        refine lv_iload hx hb dL_build_303 (lv_at hl 0 rfl) ?_
        refine lv_iconst (v := 1) hx hb dL_build_305 (by decide) ?_
        refine lv_iadd hx hb dL_build_306 ?_
        refine lv_iload hx hb dL_build_307 (lv_at hl 1 rfl) ?_
        refine lv_bipush (v := 8) hx hb dL_build_309 (by decide) ?_
        refine lv_ishr hx hb dL_build_311 ?_
        refine lv_sipush (v := 255) hx hb dL_build_312 (by decide) ?_
        refine lv_iand hx hb dL_build_315 ?_
        refine lv_iload hx hb dL_build_316 (lv_at hl 3 rfl) ?_
        refine lv_iconst (v := 1) hx hb dL_build_318 (by decide) ?_
        refine lv_isub hx hb dL_build_319 ?_
        refine lv_irem hx hb dL_build_320 hn1 ?_
        refine lv_iadd hx hb dL_build_321 ?_
        refine lv_iload hx hb dL_build_322 (lv_at hl 3 rfl) ?_
        refine lv_irem hx hb dL_build_324 hn0 ?_
        refine g_eSV (av := [.ref (gad z 0), .int (((x_4 + 1) + (((rc_3 >>> ((8 : Int32) &&& 31)) &&& 255) - ((rc_3 >>> ((8 : Int32) &&& 31)) &&& 255) / ((nI jn) - 1) * ((nI jn) - 1))) - ((x_4 + 1) + (((rc_3 >>> ((8 : Int32) &&& 31)) &&& 255) - ((rc_3 >>> ((8 : Int32) &&& 31)) &&& 255) / ((nI jn) - 1) * ((nI jn) - 1))) / (nI jn) * (nI jn))]) (rest := []) X hG hS (ct_L_number l z (M := Bc_7) (v1 := (((x_4 + 1) + (((rc_3 >>> ((8 : Int32) &&& 31)) &&& 255) - ((rc_3 >>> ((8 : Int32) &&& 31)) &&& 255) / ((nI jn) - 1) * ((nI jn) - 1))) - ((x_4 + 1) + (((rc_3 >>> ((8 : Int32) &&& 31)) &&& 255) - ((rc_3 >>> ((8 : Int32) &&& 31)) &&& 255) / ((nI jn) - 1) * ((nI jn) - 1))) / (nI jn) * (nI jn))) (k := k) n1 hz hI) mt_L_number ml_L_36 rfl ⟨rfl, rfl, Nat.le_of_ble_eq_true rfl, Nat.le_of_ble_eq_true rfl⟩ ⟨Nat.le_refl 0, Nat.le_refl 0⟩ hl.1 (Nat.le_of_ble_eq_true rfl) rfl dL_build_325 (fun Bc_8 H locs hI hG hS => ?_)
        refine lv_iload hx hb dL_build_328 (lv_at hl 1 rfl) ?_
        refine lv_bipush (v := 16) hx hb dL_build_330 (by decide) ?_
        refine lv_ishr hx hb dL_build_332 ?_
        refine lv_iconst (v := 1) hx hb dL_build_333 (by decide) ?_
        refine lv_iand hx hb dL_build_334 ?_
        refine lv_if_eq (tgt := 356) hx hb dL_build_335 (by decide) (fun q335 => ?_) (fun q335 => ?_)
        · skip
          exact t356 Bc_8 H locs hI hG hS
        · skip
          refine lv_aload_n hx hb dL_build_338 rfl (lv_at hl 4 rfl) ?_
          refine g_ldcS X (k := 6) (tx := "price") (by decide) dL_build_339 ?_
          refine g_eSV (av := [.ref (gad z 0), .ref (gsk z 6)]) (rest := []) X hG hS (ct_L_tell l z (M := Bc_8) (a := 6) (k := k) n1 hz (by decide) hI) mt_L_tell ml_L_32 rfl ⟨rfl, rfl, Nat.le_of_ble_eq_true rfl, Nat.le_of_ble_eq_true rfl⟩ ⟨Nat.le_refl 0, Nat.le_refl 0⟩ hl.1 (Nat.le_of_ble_eq_true rfl) rfl dL_build_341 (fun Bc_9 H locs hI hG hS => ?_)
          refine lv_aload_n hx hb dL_build_344 rfl (lv_at hl 4 rfl) ?_
          refine lv_iload hx hb dL_build_345 (lv_at hl 1 rfl) ?_
          refine lv_bipush (v := 17) hx hb dL_build_347 (by decide) ?_
          refine lv_ishr hx hb dL_build_349 ?_
          refine lv_bipush (v := 7) hx hb dL_build_350 (by decide) ?_
          refine lv_iand hx hb dL_build_352 ?_
          refine g_eSV (av := [.ref (gad z 0), .int ((rc_3 >>> ((17 : Int32) &&& 31)) &&& 7)]) (rest := []) X hG hS (ct_L_number l z (M := Bc_9) (v1 := ((rc_3 >>> ((17 : Int32) &&& 31)) &&& 7)) (k := k) n1 hz hI) mt_L_number ml_L_36 rfl ⟨rfl, rfl, Nat.le_of_ble_eq_true rfl, Nat.le_of_ble_eq_true rfl⟩ ⟨Nat.le_refl 0, Nat.le_refl 0⟩ hl.1 (Nat.le_of_ble_eq_true rfl) rfl dL_build_353 (fun Bc_10 H locs hI hG hS => ?_)
          exact t356 Bc_10 H locs hI hG hS
  have t173 : ∀ (M : Mem) (H : Heap) (locs : List Loc), LFd k M → gW z M H → va_S (gA z) s.heap H locs → W p l e { frames := 10, cells := 0, slots := 0, locals := 218 } s m ([.ref (gad z 0), .ref (gsb z), .int v2, .int 5] : List Value).toArray below meth c H locs 0 0 (MQ below (va_Qi (fun r' (M' : Mem) => ((fun (_ : Int32) (M' : Mem) => LI M')) r' M') (fun M' t => gW z M' t.heap) (gA z)) ([.ref (gad z 0), .ref (gsb z), .int v2, .int 5] : List Value).toArray s 0 0 (gA z)) (F0 m 173 ls []) := by
    intro M H locs hI hG hS
    refine lv_aload_n hx hb dL_build_173 rfl (lv_at hl 1 rfl) ?_
    refine g_ldcS X (k := 17) (tx := ";one ") (by decide) dL_build_174 ?_
    refine g_eSV (av := [.ref (gad z 0), .ref (gsk z 17)]) (rest := []) X hG hS (ct_L_tell l z (M := M) (a := 17) (k := k) n1 hz (by decide) hI) mt_L_tell ml_L_32 rfl ⟨rfl, rfl, Nat.le_of_ble_eq_true rfl, Nat.le_of_ble_eq_true rfl⟩ ⟨Nat.le_refl 0, Nat.le_refl 0⟩ hl.1 (Nat.le_of_ble_eq_true rfl) rfl dL_build_176 (fun Bc_11 H locs hI hG hS => ?_)
    refine lv_aload_n hx hb dL_build_179 rfl (lv_at hl 1 rfl) ?_
    refine lv_aload_n hx hb dL_build_180 rfl (lv_at hl 2 rfl) ?_
    refine lv_iload_n hx hb dL_build_181 rfl (lv_at hl 3 rfl) ?_
    refine lv_iconst (v := 1) hx hb dL_build_182 (by decide) ?_
    refine lv_iadd hx hb dL_build_183 ?_
    refine g_eSI (av := [.ref (gsb z), .int (v2 + 1)]) (rest := [.ref (gad z 0)]) X hG hS (ct_L_cell l z (M := Bc_11) (v1 := (v2 + 1)) hL) mt_L_cell ml_L_24 rfl ⟨rfl, rfl, Nat.le_of_ble_eq_true rfl, Nat.le_of_ble_eq_true rfl⟩ ⟨Nat.le_refl 0, Nat.le_refl 0⟩ hl.1 (Nat.le_of_ble_eq_true rfl) rfl dL_build_184 (fun rc_12 Ac_12 H locs pc_12 hG hS => ?_)
    have hG : gW z Bc_11 H := (show Bc_11 = Ac_12 from pc_12) ▸ hG
    refine lv_bipush (v := 8) hx hb dL_build_187 (by decide) ?_
    refine lv_ishr hx hb dL_build_189 ?_
    refine lv_sipush (v := 255) hx hb dL_build_190 (by decide) ?_
    refine lv_iand hx hb dL_build_193 ?_
    refine lv_iload hx hb dL_build_194 (lv_at hl 0 rfl) ?_
    refine lv_irem hx hb dL_build_196 hn0 ?_
    refine g_eSV (av := [.ref (gad z 0), .int (((rc_12 >>> ((8 : Int32) &&& 31)) &&& 255) - ((rc_12 >>> ((8 : Int32) &&& 31)) &&& 255) / (nI jn) * (nI jn))]) (rest := []) X hG hS (ct_L_number l z (M := Bc_11) (v1 := (((rc_12 >>> ((8 : Int32) &&& 31)) &&& 255) - ((rc_12 >>> ((8 : Int32) &&& 31)) &&& 255) / (nI jn) * (nI jn))) (k := k) n1 hz hI) mt_L_number ml_L_36 rfl ⟨rfl, rfl, Nat.le_of_ble_eq_true rfl, Nat.le_of_ble_eq_true rfl⟩ ⟨Nat.le_refl 0, Nat.le_refl 0⟩ hl.1 (Nat.le_of_ble_eq_true rfl) rfl dL_build_197 (fun Bc_13 H locs hI hG hS => ?_)
    refine lv_aload_n hx hb dL_build_200 rfl (lv_at hl 1 rfl) ?_
    refine g_ldcS X (k := 18) (tx := " cost ") (by decide) dL_build_201 ?_
    refine g_eSV (av := [.ref (gad z 0), .ref (gsk z 18)]) (rest := []) X hG hS (ct_L_tell l z (M := Bc_13) (a := 18) (k := k) n1 hz (by decide) hI) mt_L_tell ml_L_32 rfl ⟨rfl, rfl, Nat.le_of_ble_eq_true rfl, Nat.le_of_ble_eq_true rfl⟩ ⟨Nat.le_refl 0, Nat.le_refl 0⟩ hl.1 (Nat.le_of_ble_eq_true rfl) rfl dL_build_203 (fun Bc_14 H locs hI hG hS => ?_)
    refine lv_aload_n hx hb dL_build_206 rfl (lv_at hl 1 rfl) ?_
    refine lv_aload_n hx hb dL_build_207 rfl (lv_at hl 2 rfl) ?_
    refine lv_iload_n hx hb dL_build_208 rfl (lv_at hl 3 rfl) ?_
    refine lv_iconst (v := 1) hx hb dL_build_209 (by decide) ?_
    refine lv_iadd hx hb dL_build_210 ?_
    refine g_eSI (av := [.ref (gsb z), .int (v2 + 1)]) (rest := [.ref (gad z 0)]) X hG hS (ct_L_cell l z (M := Bc_14) (v1 := (v2 + 1)) hL) mt_L_cell ml_L_24 rfl ⟨rfl, rfl, Nat.le_of_ble_eq_true rfl, Nat.le_of_ble_eq_true rfl⟩ ⟨Nat.le_refl 0, Nat.le_refl 0⟩ hl.1 (Nat.le_of_ble_eq_true rfl) rfl dL_build_211 (fun rc_15 Ac_15 H locs pc_15 hG hS => ?_)
    have hG : gW z Bc_14 H := (show Bc_14 = Ac_15 from pc_15) ▸ hG
    refine lv_bipush (v := 16) hx hb dL_build_214 (by decide) ?_
    refine lv_ishr hx hb dL_build_216 ?_
    refine lv_bipush (v := 31) hx hb dL_build_217 (by decide) ?_
    refine lv_iand hx hb dL_build_219 ?_
    refine g_eSV (av := [.ref (gad z 0), .int ((rc_15 >>> ((16 : Int32) &&& 31)) &&& 31)]) (rest := []) X hG hS (ct_L_number l z (M := Bc_14) (v1 := ((rc_15 >>> ((16 : Int32) &&& 31)) &&& 31)) (k := k) n1 hz hI) mt_L_number ml_L_36 rfl ⟨rfl, rfl, Nat.le_of_ble_eq_true rfl, Nat.le_of_ble_eq_true rfl⟩ ⟨Nat.le_refl 0, Nat.le_refl 0⟩ hl.1 (Nat.le_of_ble_eq_true rfl) rfl dL_build_220 (fun Bc_16 H locs hI hG hS => ?_)
    refine lv_aload_n hx hb dL_build_223 rfl (lv_at hl 1 rfl) ?_
    refine g_ldcS X (k := 19) (tx := " worth ") (by decide) dL_build_224 ?_
    refine g_eSV (av := [.ref (gad z 0), .ref (gsk z 19)]) (rest := []) X hG hS (ct_L_tell l z (M := Bc_16) (a := 19) (k := k) n1 hz (by decide) hI) mt_L_tell ml_L_32 rfl ⟨rfl, rfl, Nat.le_of_ble_eq_true rfl, Nat.le_of_ble_eq_true rfl⟩ ⟨Nat.le_refl 0, Nat.le_refl 0⟩ hl.1 (Nat.le_of_ble_eq_true rfl) rfl dL_build_226 (fun Bc_17 H locs hI hG hS => ?_)
    refine lv_aload_n hx hb dL_build_229 rfl (lv_at hl 1 rfl) ?_
    refine lv_aload_n hx hb dL_build_230 rfl (lv_at hl 2 rfl) ?_
    refine lv_iload_n hx hb dL_build_231 rfl (lv_at hl 3 rfl) ?_
    refine lv_iconst (v := 1) hx hb dL_build_232 (by decide) ?_
    refine lv_iadd hx hb dL_build_233 ?_
    refine g_eSI (av := [.ref (gsb z), .int (v2 + 1)]) (rest := [.ref (gad z 0)]) X hG hS (ct_L_cell l z (M := Bc_17) (v1 := (v2 + 1)) hL) mt_L_cell ml_L_24 rfl ⟨rfl, rfl, Nat.le_of_ble_eq_true rfl, Nat.le_of_ble_eq_true rfl⟩ ⟨Nat.le_refl 0, Nat.le_refl 0⟩ hl.1 (Nat.le_of_ble_eq_true rfl) rfl dL_build_234 (fun rc_18 Ac_18 H locs pc_18 hG hS => ?_)
    have hG : gW z Bc_17 H := (show Bc_17 = Ac_18 from pc_18) ▸ hG
    refine lv_bipush (v := 21) hx hb dL_build_237 (by decide) ?_
    refine lv_ishr hx hb dL_build_239 ?_
    refine lv_bipush (v := 31) hx hb dL_build_240 (by decide) ?_
    refine lv_iand hx hb dL_build_242 ?_
    refine g_eSV (av := [.ref (gad z 0), .int ((rc_18 >>> ((21 : Int32) &&& 31)) &&& 31)]) (rest := []) X hG hS (ct_L_number l z (M := Bc_17) (v1 := ((rc_18 >>> ((21 : Int32) &&& 31)) &&& 31)) (k := k) n1 hz hI) mt_L_number ml_L_36 rfl ⟨rfl, rfl, Nat.le_of_ble_eq_true rfl, Nat.le_of_ble_eq_true rfl⟩ ⟨Nat.le_refl 0, Nat.le_refl 0⟩ hl.1 (Nat.le_of_ble_eq_true rfl) rfl dL_build_243 (fun Bc_19 H locs hI hG hS => ?_)
    refine lv_iconst (v := 0) hx hb dL_build_246 (by decide) ?_
    refine lv_istore (lv' := [(5, .int 0), (4, .int (nI jn)), (0, .ref (gad z 0)), (1, .ref (gsb z)), (2, .int v2), (3, .int 5)]) hx hb dL_build_247 hl (by decide) rfl (fun ls hl => ?_)
    exact loop 3 0 Bc_19 H locs ls rfl hI hG hS (lv_sub hl [0, 1, 2, 3, 4, 5] rfl)
  have t135 : ∀ (M : Mem) (H : Heap) (locs : List Loc), LFd k M → gW z M H → va_S (gA z) s.heap H locs → W p l e { frames := 10, cells := 0, slots := 0, locals := 218 } s m ([.ref (gad z 0), .ref (gsb z), .int v2, .int 5] : List Value).toArray below meth c H locs 0 0 (MQ below (va_Qi (fun r' (M' : Mem) => ((fun (_ : Int32) (M' : Mem) => LI M')) r' M') (fun M' t => gW z M' t.heap) (gA z)) ([.ref (gad z 0), .ref (gsb z), .int v2, .int 5] : List Value).toArray s 0 0 (gA z)) (F0 m 135 ls []) := by
    intro M H locs hI hG hS
    refine lv_aload_n hx hb dL_build_135 rfl (lv_at hl 2 rfl) ?_
    refine lv_iload_n hx hb dL_build_136 rfl (lv_at hl 3 rfl) ?_
    refine g_eSI (av := [.ref (gsb z), .int v2]) (rest := []) X hG hS (ct_L_cell l z (M := M) (v1 := v2) hL) mt_L_cell ml_L_24 rfl ⟨rfl, rfl, Nat.le_of_ble_eq_true rfl, Nat.le_of_ble_eq_true rfl⟩ ⟨Nat.le_refl 0, Nat.le_refl 0⟩ hl.1 (Nat.le_of_ble_eq_true rfl) rfl dL_build_137 (fun rc_20 Ac_20 H locs pc_20 hG hS => ?_)
    have hG : gW z M H := (show M = Ac_20 from pc_20) ▸ hG
    refine lv_bipush (v := 24) hx hb dL_build_140 (by decide) ?_
    refine lv_ishr hx hb dL_build_142 ?_
    refine lv_iconst (v := 3) hx hb dL_build_143 (by decide) ?_
    refine lv_iand hx hb dL_build_144 ?_
    refine lv_iconst (v := 3) hx hb dL_build_145 (by decide) ?_
    refine lv_icmp_ne (tgt := 173) hx hb dL_build_146 (by decide) (fun q146 => ?_) (fun q146 => ?_)
    · skip
      exact t173 M H locs hI hG hS
    · skip
      refine lv_aload_n hx hb dL_build_149 rfl (lv_at hl 1 rfl) ?_
      refine g_ldcS X (k := 16) (tx := ";must ") (by decide) dL_build_150 ?_
      refine g_eSV (av := [.ref (gad z 0), .ref (gsk z 16)]) (rest := []) X hG hS (ct_L_tell l z (M := M) (a := 16) (k := k) n1 hz (by decide) hI) mt_L_tell ml_L_32 rfl ⟨rfl, rfl, Nat.le_of_ble_eq_true rfl, Nat.le_of_ble_eq_true rfl⟩ ⟨Nat.le_refl 0, Nat.le_refl 0⟩ hl.1 (Nat.le_of_ble_eq_true rfl) rfl dL_build_152 (fun Bc_21 H locs hI hG hS => ?_)
      refine lv_aload_n hx hb dL_build_155 rfl (lv_at hl 1 rfl) ?_
      refine lv_aload_n hx hb dL_build_156 rfl (lv_at hl 2 rfl) ?_
      refine lv_iload_n hx hb dL_build_157 rfl (lv_at hl 3 rfl) ?_
      refine lv_iconst (v := 1) hx hb dL_build_158 (by decide) ?_
      refine lv_iadd hx hb dL_build_159 ?_
      refine g_eSI (av := [.ref (gsb z), .int (v2 + 1)]) (rest := [.ref (gad z 0)]) X hG hS (ct_L_cell l z (M := Bc_21) (v1 := (v2 + 1)) hL) mt_L_cell ml_L_24 rfl ⟨rfl, rfl, Nat.le_of_ble_eq_true rfl, Nat.le_of_ble_eq_true rfl⟩ ⟨Nat.le_refl 0, Nat.le_refl 0⟩ hl.1 (Nat.le_of_ble_eq_true rfl) rfl dL_build_160 (fun rc_22 Ac_22 H locs pc_22 hG hS => ?_)
      have hG : gW z Bc_21 H := (show Bc_21 = Ac_22 from pc_22) ▸ hG
      refine lv_sipush (v := 255) hx hb dL_build_163 (by decide) ?_
      refine lv_iand hx hb dL_build_166 ?_
      refine lv_iload hx hb dL_build_167 (lv_at hl 0 rfl) ?_
      refine lv_irem hx hb dL_build_169 hn0 ?_
      refine g_eSV (av := [.ref (gad z 0), .int ((rc_22 &&& 255) - (rc_22 &&& 255) / (nI jn) * (nI jn))]) (rest := []) X hG hS (ct_L_number l z (M := Bc_21) (v1 := ((rc_22 &&& 255) - (rc_22 &&& 255) / (nI jn) * (nI jn))) (k := k) n1 hz hI) mt_L_number ml_L_36 rfl ⟨rfl, rfl, Nat.le_of_ble_eq_true rfl, Nat.le_of_ble_eq_true rfl⟩ ⟨Nat.le_refl 0, Nat.le_refl 0⟩ hl.1 (Nat.le_of_ble_eq_true rfl) rfl dL_build_170 (fun Bc_23 H locs hI hG hS => ?_)
      exact t173 Bc_23 H locs hI hG hS
  have t115 : ∀ (M : Mem) (H : Heap) (locs : List Loc), LFd k M → gW z M H → va_S (gA z) s.heap H locs → W p l e { frames := 10, cells := 0, slots := 0, locals := 218 } s m ([.ref (gad z 0), .ref (gsb z), .int v2, .int 5] : List Value).toArray below meth c H locs 0 0 (MQ below (va_Qi (fun r' (M' : Mem) => ((fun (_ : Int32) (M' : Mem) => LI M')) r' M') (fun M' t => gW z M' t.heap) (gA z)) ([.ref (gad z 0), .ref (gsb z), .int v2, .int 5] : List Value).toArray s 0 0 (gA z)) (F0 m 115 ls []) := by
    intro M H locs hI hG hS
    refine lv_aload_n hx hb dL_build_115 rfl (lv_at hl 2 rfl) ?_
    refine lv_iload_n hx hb dL_build_116 rfl (lv_at hl 3 rfl) ?_
    refine g_eSI (av := [.ref (gsb z), .int v2]) (rest := []) X hG hS (ct_L_cell l z (M := M) (v1 := v2) hL) mt_L_cell ml_L_24 rfl ⟨rfl, rfl, Nat.le_of_ble_eq_true rfl, Nat.le_of_ble_eq_true rfl⟩ ⟨Nat.le_refl 0, Nat.le_refl 0⟩ hl.1 (Nat.le_of_ble_eq_true rfl) rfl dL_build_117 (fun rc_24 Ac_24 H locs pc_24 hG hS => ?_)
    have hG : gW z M H := (show M = Ac_24 from pc_24) ▸ hG
    refine lv_bipush (v := 22) hx hb dL_build_120 (by decide) ?_
    refine lv_ishr hx hb dL_build_122 ?_
    refine lv_iconst (v := 3) hx hb dL_build_123 (by decide) ?_
    refine lv_iand hx hb dL_build_124 ?_
    refine lv_iconst (v := 3) hx hb dL_build_125 (by decide) ?_
    refine lv_icmp_ne (tgt := 135) hx hb dL_build_126 (by decide) (fun q126 => ?_) (fun q126 => ?_)
    · skip
      exact t135 M H locs hI hG hS
    · skip
      refine lv_aload_n hx hb dL_build_129 rfl (lv_at hl 1 rfl) ?_
      refine g_ldcS X (k := 15) (tx := ";all") (by decide) dL_build_130 ?_
      refine g_eSV (av := [.ref (gad z 0), .ref (gsk z 15)]) (rest := []) X hG hS (ct_L_tell l z (M := M) (a := 15) (k := k) n1 hz (by decide) hI) mt_L_tell ml_L_32 rfl ⟨rfl, rfl, Nat.le_of_ble_eq_true rfl, Nat.le_of_ble_eq_true rfl⟩ ⟨Nat.le_refl 0, Nat.le_refl 0⟩ hl.1 (Nat.le_of_ble_eq_true rfl) rfl dL_build_132 (fun Bc_25 H locs hI hG hS => ?_)
      exact t135 Bc_25 H locs hI hG hS
  refine lv_aload_n hx hb dL_build_15 rfl (lv_at hl 1 rfl) ?_
  refine g_ldcS X (k := 10) (tx := "people ") (by decide) dL_build_16 ?_
  refine g_eSV (av := [.ref (gad z 0), .ref (gsk z 10)]) (rest := []) X hG hS (ct_L_tell l z (M := M) (a := 10) (k := k) n1 hz (by decide) hI) mt_L_tell ml_L_32 rfl ⟨rfl, rfl, Nat.le_of_ble_eq_true rfl, Nat.le_of_ble_eq_true rfl⟩ ⟨Nat.le_refl 0, Nat.le_refl 0⟩ hl.1 (Nat.le_of_ble_eq_true rfl) rfl dL_build_18 (fun Bc_26 H locs hI hG hS => ?_)
  refine lv_aload_n hx hb dL_build_21 rfl (lv_at hl 1 rfl) ?_
  refine lv_iload hx hb dL_build_22 (lv_at hl 0 rfl) ?_
  refine g_eSV (av := [.ref (gad z 0), .int (nI jn)]) (rest := []) X hG hS (ct_L_number l z (M := Bc_26) (v1 := (nI jn)) (k := k) n1 hz hI) mt_L_number ml_L_36 rfl ⟨rfl, rfl, Nat.le_of_ble_eq_true rfl, Nat.le_of_ble_eq_true rfl⟩ ⟨Nat.le_refl 0, Nat.le_refl 0⟩ hl.1 (Nat.le_of_ble_eq_true rfl) rfl dL_build_24 (fun Bc_27 H locs hI hG hS => ?_)
  refine lv_aload_n hx hb dL_build_27 rfl (lv_at hl 1 rfl) ?_
  refine g_ldcS X (k := 11) (tx := ";cost ") (by decide) dL_build_28 ?_
  refine g_eSV (av := [.ref (gad z 0), .ref (gsk z 11)]) (rest := []) X hG hS (ct_L_tell l z (M := Bc_27) (a := 11) (k := k) n1 hz (by decide) hI) mt_L_tell ml_L_32 rfl ⟨rfl, rfl, Nat.le_of_ble_eq_true rfl, Nat.le_of_ble_eq_true rfl⟩ ⟨Nat.le_refl 0, Nat.le_refl 0⟩ hl.1 (Nat.le_of_ble_eq_true rfl) rfl dL_build_30 (fun Bc_28 H locs hI hG hS => ?_)
  refine lv_aload_n hx hb dL_build_33 rfl (lv_at hl 1 rfl) ?_
  refine lv_aload_n hx hb dL_build_34 rfl (lv_at hl 2 rfl) ?_
  refine lv_iload_n hx hb dL_build_35 rfl (lv_at hl 3 rfl) ?_
  refine g_eSI (av := [.ref (gsb z), .int v2]) (rest := [.ref (gad z 0)]) X hG hS (ct_L_cell l z (M := Bc_28) (v1 := v2) hL) mt_L_cell ml_L_24 rfl ⟨rfl, rfl, Nat.le_of_ble_eq_true rfl, Nat.le_of_ble_eq_true rfl⟩ ⟨Nat.le_refl 0, Nat.le_refl 0⟩ hl.1 (Nat.le_of_ble_eq_true rfl) rfl dL_build_36 (fun rc_29 Ac_29 H locs pc_29 hG hS => ?_)
  have hG : gW z Bc_28 H := (show Bc_28 = Ac_29 from pc_29) ▸ hG
  refine lv_bipush (v := 8) hx hb dL_build_39 (by decide) ?_
  refine lv_ishr hx hb dL_build_41 ?_
  refine lv_bipush (v := 31) hx hb dL_build_42 (by decide) ?_
  refine lv_iand hx hb dL_build_44 ?_
  refine g_eSV (av := [.ref (gad z 0), .int ((rc_29 >>> ((8 : Int32) &&& 31)) &&& 31)]) (rest := []) X hG hS (ct_L_number l z (M := Bc_28) (v1 := ((rc_29 >>> ((8 : Int32) &&& 31)) &&& 31)) (k := k) n1 hz hI) mt_L_number ml_L_36 rfl ⟨rfl, rfl, Nat.le_of_ble_eq_true rfl, Nat.le_of_ble_eq_true rfl⟩ ⟨Nat.le_refl 0, Nat.le_refl 0⟩ hl.1 (Nat.le_of_ble_eq_true rfl) rfl dL_build_45 (fun Bc_30 H locs hI hG hS => ?_)
  refine lv_aload_n hx hb dL_build_48 rfl (lv_at hl 1 rfl) ?_
  refine g_ldcS X (k := 12) (tx := ";worth ") (by decide) dL_build_49 ?_
  refine g_eSV (av := [.ref (gad z 0), .ref (gsk z 12)]) (rest := []) X hG hS (ct_L_tell l z (M := Bc_30) (a := 12) (k := k) n1 hz (by decide) hI) mt_L_tell ml_L_32 rfl ⟨rfl, rfl, Nat.le_of_ble_eq_true rfl, Nat.le_of_ble_eq_true rfl⟩ ⟨Nat.le_refl 0, Nat.le_refl 0⟩ hl.1 (Nat.le_of_ble_eq_true rfl) rfl dL_build_51 (fun Bc_31 H locs hI hG hS => ?_)
  refine lv_aload_n hx hb dL_build_54 rfl (lv_at hl 1 rfl) ?_
  refine lv_aload_n hx hb dL_build_55 rfl (lv_at hl 2 rfl) ?_
  refine lv_iload_n hx hb dL_build_56 rfl (lv_at hl 3 rfl) ?_
  refine g_eSI (av := [.ref (gsb z), .int v2]) (rest := [.ref (gad z 0)]) X hG hS (ct_L_cell l z (M := Bc_31) (v1 := v2) hL) mt_L_cell ml_L_24 rfl ⟨rfl, rfl, Nat.le_of_ble_eq_true rfl, Nat.le_of_ble_eq_true rfl⟩ ⟨Nat.le_refl 0, Nat.le_refl 0⟩ hl.1 (Nat.le_of_ble_eq_true rfl) rfl dL_build_57 (fun rc_32 Ac_32 H locs pc_32 hG hS => ?_)
  have hG : gW z Bc_31 H := (show Bc_31 = Ac_32 from pc_32) ▸ hG
  refine lv_bipush (v := 13) hx hb dL_build_60 (by decide) ?_
  refine lv_ishr hx hb dL_build_62 ?_
  refine lv_bipush (v := 31) hx hb dL_build_63 (by decide) ?_
  refine lv_iand hx hb dL_build_65 ?_
  refine g_eSV (av := [.ref (gad z 0), .int ((rc_32 >>> ((13 : Int32) &&& 31)) &&& 31)]) (rest := []) X hG hS (ct_L_number l z (M := Bc_31) (v1 := ((rc_32 >>> ((13 : Int32) &&& 31)) &&& 31)) (k := k) n1 hz hI) mt_L_number ml_L_36 rfl ⟨rfl, rfl, Nat.le_of_ble_eq_true rfl, Nat.le_of_ble_eq_true rfl⟩ ⟨Nat.le_refl 0, Nat.le_refl 0⟩ hl.1 (Nat.le_of_ble_eq_true rfl) rfl dL_build_66 (fun Bc_33 H locs hI hG hS => ?_)
  refine lv_aload_n hx hb dL_build_69 rfl (lv_at hl 1 rfl) ?_
  refine g_ldcS X (k := 13) (tx := ";more ") (by decide) dL_build_70 ?_
  refine g_eSV (av := [.ref (gad z 0), .ref (gsk z 13)]) (rest := []) X hG hS (ct_L_tell l z (M := Bc_33) (a := 13) (k := k) n1 hz (by decide) hI) mt_L_tell ml_L_32 rfl ⟨rfl, rfl, Nat.le_of_ble_eq_true rfl, Nat.le_of_ble_eq_true rfl⟩ ⟨Nat.le_refl 0, Nat.le_refl 0⟩ hl.1 (Nat.le_of_ble_eq_true rfl) rfl dL_build_72 (fun Bc_34 H locs hI hG hS => ?_)
  refine lv_aload_n hx hb dL_build_75 rfl (lv_at hl 1 rfl) ?_
  refine lv_aload_n hx hb dL_build_76 rfl (lv_at hl 2 rfl) ?_
  refine lv_iload_n hx hb dL_build_77 rfl (lv_at hl 3 rfl) ?_
  refine g_eSI (av := [.ref (gsb z), .int v2]) (rest := [.ref (gad z 0)]) X hG hS (ct_L_cell l z (M := Bc_34) (v1 := v2) hL) mt_L_cell ml_L_24 rfl ⟨rfl, rfl, Nat.le_of_ble_eq_true rfl, Nat.le_of_ble_eq_true rfl⟩ ⟨Nat.le_refl 0, Nat.le_refl 0⟩ hl.1 (Nat.le_of_ble_eq_true rfl) rfl dL_build_78 (fun rc_35 Ac_35 H locs pc_35 hG hS => ?_)
  have hG : gW z Bc_34 H := (show Bc_34 = Ac_35 from pc_35) ▸ hG
  refine lv_bipush (v := 18) hx hb dL_build_81 (by decide) ?_
  refine lv_ishr hx hb dL_build_83 ?_
  refine lv_bipush (v := 7) hx hb dL_build_84 (by decide) ?_
  refine lv_iand hx hb dL_build_86 ?_
  refine g_eSV (av := [.ref (gad z 0), .int ((rc_35 >>> ((18 : Int32) &&& 31)) &&& 7)]) (rest := []) X hG hS (ct_L_number l z (M := Bc_34) (v1 := ((rc_35 >>> ((18 : Int32) &&& 31)) &&& 7)) (k := k) n1 hz hI) mt_L_number ml_L_36 rfl ⟨rfl, rfl, Nat.le_of_ble_eq_true rfl, Nat.le_of_ble_eq_true rfl⟩ ⟨Nat.le_refl 0, Nat.le_refl 0⟩ hl.1 (Nat.le_of_ble_eq_true rfl) rfl dL_build_87 (fun Bc_36 H locs hI hG hS => ?_)
  refine lv_aload_n hx hb dL_build_90 rfl (lv_at hl 2 rfl) ?_
  refine lv_iload_n hx hb dL_build_91 rfl (lv_at hl 3 rfl) ?_
  refine g_eSI (av := [.ref (gsb z), .int v2]) (rest := []) X hG hS (ct_L_cell l z (M := Bc_36) (v1 := v2) hL) mt_L_cell ml_L_24 rfl ⟨rfl, rfl, Nat.le_of_ble_eq_true rfl, Nat.le_of_ble_eq_true rfl⟩ ⟨Nat.le_refl 0, Nat.le_refl 0⟩ hl.1 (Nat.le_of_ble_eq_true rfl) rfl dL_build_92 (fun rc_37 Ac_37 H locs pc_37 hG hS => ?_)
  have hG : gW z Bc_36 H := (show Bc_36 = Ac_37 from pc_37) ▸ hG
  refine lv_bipush (v := 21) hx hb dL_build_95 (by decide) ?_
  refine lv_ishr hx hb dL_build_97 ?_
  refine lv_iconst (v := 1) hx hb dL_build_98 (by decide) ?_
  refine lv_iand hx hb dL_build_99 ?_
  refine lv_if_eq (tgt := 115) hx hb dL_build_100 (by decide) (fun q100 => ?_) (fun q100 => ?_)
  · skip
    exact t115 Bc_36 H locs hI hG hS
  · skip
    refine lv_iload hx hb dL_build_103 (lv_at hl 0 rfl) ?_
    refine lv_iconst (v := 2) hx hb dL_build_105 (by decide) ?_
    refine lv_icmp_le (tgt := 115) hx hb dL_build_106 (by decide) (fun q106 => ?_) (fun q106 => ?_)
    · skip
      exact t115 Bc_36 H locs hI hG hS
    · skip
      refine lv_aload_n hx hb dL_build_109 rfl (lv_at hl 1 rfl) ?_
      refine g_ldcS X (k := 14) (tx := ";ring") (by decide) dL_build_110 ?_
      refine g_eSV (av := [.ref (gad z 0), .ref (gsk z 14)]) (rest := []) X hG hS (ct_L_tell l z (M := Bc_36) (a := 14) (k := k) n1 hz (by decide) hI) mt_L_tell ml_L_32 rfl ⟨rfl, rfl, Nat.le_of_ble_eq_true rfl, Nat.le_of_ble_eq_true rfl⟩ ⟨Nat.le_refl 0, Nat.le_refl 0⟩ hl.1 (Nat.le_of_ble_eq_true rfl) rfl dL_build_112 (fun Bc_38 H locs hI hG hS => ?_)
      exact t115 Bc_38 H locs hI hG hS
set_option maxRecDepth 100000 in
set_option maxHeartbeats 4000000 in
theorem ct_L_act (l : Launch) (z : gZ) {M : Mem} {v2 : Int32} (n1 : 0 + 119 ≤ gn z) (hz : gn z ≤ 119) (hL : gsl z ≤ 260) (hI : LI M) : CtEV l z yL_act cL_act 7 none { frames := 11, cells := 0, slots := 0, locals := 245 } [.ref (gad z 0), .ref (gsb z), .int v2] M LI := by
  refine Ct_of rfl (Nat.le_of_ble_eq_true rfl) ?_
  intro p e s m below meth c ls X hr hlk hG hS hl
  have X : gX p m c _ _ s _ RL z := X
  have hx := X.1
  have hb := X.2.1
  have hl : lv_has ls 7 [(0, .ref (gad z 0)), (1, .ref (gsb z)), (2, .int v2)] := hl
  refine lv_aload_n hx hb dL_act_0 rfl (lv_at hl 1 rfl) ?_
  refine lv_iload_n hx hb dL_act_1 rfl (lv_at hl 2 rfl) ?_
  refine g_eSI (av := [.ref (gsb z), .int v2]) (rest := []) X hG hS (ct_L_cell l z (M := M) (v1 := v2) hL) mt_L_cell ml_L_24 rfl ⟨rfl, rfl, Nat.le_of_ble_eq_true rfl, Nat.le_of_ble_eq_true rfl⟩ ⟨Nat.le_refl 0, Nat.le_refl 0⟩ hl.1 (Nat.le_of_ble_eq_true rfl) rfl dL_act_2 (fun rc_1 Ac_1 H locs pc_1 hG hS => ?_)
  have hG : gW z M H := (show M = Ac_1 from pc_1) ▸ hG
  refine lv_istore_n (lv' := [(3, .int rc_1), (0, .ref (gad z 0)), (1, .ref (gsb z)), (2, .int v2)]) hx hb dL_act_5 rfl hl (by decide) rfl (fun ls hl => ?_)
  refine lv_iload_n hx hb dL_act_6 rfl (lv_at hl 0 rfl) ?_
  refine lv_iconst (v := 4) hx hb dL_act_7 (by decide) ?_
  refine lv_ishr hx hb dL_act_8 ?_
  refine lv_sipush (v := 4095) hx hb dL_act_9 (by decide) ?_
  refine lv_iand hx hb dL_act_12 ?_
  refine lv_topi (fun x_2 ex_2 => ?_)
  refine lv_istore (lv' := [(4, .int x_2), (3, .int rc_1), (0, .ref (gad z 0)), (1, .ref (gsb z)), (2, .int v2)]) hx hb dL_act_13 hl (by decide) rfl (fun ls hl => ?_)
  refine lv_iload_n hx hb dL_act_15 rfl (lv_at hl 1 rfl) ?_
  refine lv_bipush (v := 16) hx hb dL_act_16 (by decide) ?_
  refine lv_ishr hx hb dL_act_18 ?_
  refine lv_iconst (v := 1) hx hb dL_act_19 (by decide) ?_
  refine lv_iand hx hb dL_act_20 ?_
  refine lv_topi (fun x_3 ex_3 => ?_)
  refine lv_istore (lv' := [(5, .int x_3), (4, .int x_2), (3, .int rc_1), (0, .ref (gad z 0)), (1, .ref (gsb z)), (2, .int v2)]) hx hb dL_act_21 hl (by decide) rfl (fun ls hl => ?_)
  refine lv_iload_n hx hb dL_act_23 rfl (lv_at hl 2 rfl) ?_
  refine lv_bipush (v := 17) hx hb dL_act_24 (by decide) ?_
  refine lv_ishr hx hb dL_act_26 ?_
  refine lv_bipush (v := 7) hx hb dL_act_27 (by decide) ?_
  refine lv_iand hx hb dL_act_29 ?_
  refine lv_bipush (v := 6) hx hb dL_act_30 (by decide) ?_
  refine lv_irem hx hb dL_act_32 (by decide) ?_
  refine lv_topi (fun x_4 ex_4 => ?_)
  refine lv_istore (lv' := [(6, .int x_4), (5, .int x_3), (4, .int x_2), (3, .int rc_1), (0, .ref (gad z 0)), (1, .ref (gsb z)), (2, .int v2)]) hx hb dL_act_33 hl (by decide) rfl (fun ls hl => ?_)
  have t441 : ∀ (M : Mem) (H : Heap) (locs : List Loc), LI M → gW z M H → va_S (gA z) s.heap H locs → W p l e { frames := 11, cells := 0, slots := 0, locals := 245 } s m ([.ref (gad z 0), .ref (gsb z), .int v2] : List Value).toArray below meth c H locs 0 0 (MQ below (va_Qv (fun (M' : Mem) => (LI) M') (fun M' t => gW z M' t.heap) (gA z)) ([.ref (gad z 0), .ref (gsb z), .int v2] : List Value).toArray s 0 0 (gA z)) (F0 m 441 ls []) := by
    intro M H locs hI hG hS
    exact g_evret hI X hr hlk hG hS dL_act_441
  refine lv_iload_n hx hb dL_act_35 rfl (lv_at hl 3 rfl) ?_
  refine lv_bipush (v := 15) hx hb dL_act_36 (by decide) ?_
  refine lv_iand hx hb dL_act_38 ?_
  refine lv_topi (fun v_5 ev_5 => ?_)
  by_cases q_6 : v_5 = 0
  · refine lv_tableIn (tgt := 112) hx hb dL_act_39 (by rw [q_6]; decide) (by rw [q_6]; decide) (by rw [q_6]; rfl) (by decide) ?_
    refine lv_aload_n hx hb dL_act_112 rfl (lv_at hl 4 rfl) ?_
    refine lv_iconst (v := 0) hx hb dL_act_113 (by decide) ?_
    obtain ⟨k, hk4, ek, hF⟩ := LI_k hI
    refine g_cVI (a := 0) (ci := 6) (T := TX6) (N := 8) (av := [.int 0]) (rest := []) X hG hS (ct_X6_status l z k_0 n1 (q_streets (N := 4098) (a := 0) ek)) mt_X6_status ml_L_67 rfl ⟨rfl, rfl, Nat.le_of_ble_eq_true rfl, Nat.le_of_ble_eq_true rfl⟩ ⟨Nat.le_refl 0, Nat.le_refl 0⟩ (nx_0 n1) k_0 (by decide) rfl hl.1 (Nat.le_of_ble_eq_true rfl) rfl dL_act_114 (fun H locs hG hS => ?_)
    have hG : gW z M H := hG
    refine lv_iconst (v := 4) hx hb dL_act_117 (by decide) ?_
    refine lv_icmp_ge (tgt := 441) hx hb dL_act_118 (by decide) (fun q118 => ?_) (fun q118 => ?_)
    · skip
      exact t441 M H locs hI hG hS
    · skip
      have hk : k < 4 := Nat.lt_of_not_le (fun w => q118 (show (4 : Int32) ≤ nI k from nI_le (a := 4) w (by omega)))
      refine lv_aload_n hx hb dL_act_121 rfl (lv_at hl 4 rfl) ?_
      refine lv_aload_n hx hb dL_act_122 rfl (lv_at hl 5 rfl) ?_
      refine lv_iload_n hx hb dL_act_123 rfl (lv_at hl 6 rfl) ?_
      refine lv_iconst (v := 1) hx hb dL_act_124 (by decide) ?_
      refine lv_iadd hx hb dL_act_125 ?_
      refine lv_iconst (v := 5) hx hb dL_act_126 (by decide) ?_
      refine g_eSI (av := [.ref (gad z 0), .ref (gsb z), .int (v2 + 1), .int 5]) (rest := []) X hG hS (ct_L_build l z (M := M) (v2 := (v2 + 1)) (k := k) n1 hz hL hk hF) mt_L_build ml_L_71 rfl ⟨rfl, rfl, Nat.le_of_ble_eq_true rfl, Nat.le_of_ble_eq_true rfl⟩ ⟨Nat.le_refl 0, Nat.le_refl 0⟩ hl.1 (Nat.le_of_ble_eq_true rfl) rfl dL_act_127 (fun rc_7 Bc_7 H locs hI hG hS => ?_)
      refine lv_pop hx hb dL_act_130 rfl ?_
      refine lv_goto (tgt := 441) hx hb dL_act_131 (by decide) ?_
      exact t441 Bc_7 H locs hI hG hS
  · skip
    by_cases q_8 : v_5 = 1
    · refine lv_tableIn (tgt := 112) hx hb dL_act_39 (by rw [q_8]; decide) (by rw [q_8]; decide) (by rw [q_8]; rfl) (by decide) ?_
      refine lv_aload_n hx hb dL_act_112 rfl (lv_at hl 4 rfl) ?_
      refine lv_iconst (v := 0) hx hb dL_act_113 (by decide) ?_
      obtain ⟨k, hk4, ek, hF⟩ := LI_k hI
      refine g_cVI (a := 0) (ci := 6) (T := TX6) (N := 8) (av := [.int 0]) (rest := []) X hG hS (ct_X6_status l z k_0 n1 (q_streets (N := 4098) (a := 0) ek)) mt_X6_status ml_L_67 rfl ⟨rfl, rfl, Nat.le_of_ble_eq_true rfl, Nat.le_of_ble_eq_true rfl⟩ ⟨Nat.le_refl 0, Nat.le_refl 0⟩ (nx_0 n1) k_0 (by decide) rfl hl.1 (Nat.le_of_ble_eq_true rfl) rfl dL_act_114 (fun H locs hG hS => ?_)
      have hG : gW z M H := hG
      refine lv_iconst (v := 4) hx hb dL_act_117 (by decide) ?_
      refine lv_icmp_ge (tgt := 441) hx hb dL_act_118 (by decide) (fun q118 => ?_) (fun q118 => ?_)
      · skip
        exact t441 M H locs hI hG hS
      · skip
        have hk : k < 4 := Nat.lt_of_not_le (fun w => q118 (show (4 : Int32) ≤ nI k from nI_le (a := 4) w (by omega)))
        refine lv_aload_n hx hb dL_act_121 rfl (lv_at hl 4 rfl) ?_
        refine lv_aload_n hx hb dL_act_122 rfl (lv_at hl 5 rfl) ?_
        refine lv_iload_n hx hb dL_act_123 rfl (lv_at hl 6 rfl) ?_
        refine lv_iconst (v := 1) hx hb dL_act_124 (by decide) ?_
        refine lv_iadd hx hb dL_act_125 ?_
        refine lv_iconst (v := 5) hx hb dL_act_126 (by decide) ?_
        refine g_eSI (av := [.ref (gad z 0), .ref (gsb z), .int (v2 + 1), .int 5]) (rest := []) X hG hS (ct_L_build l z (M := M) (v2 := (v2 + 1)) (k := k) n1 hz hL hk hF) mt_L_build ml_L_71 rfl ⟨rfl, rfl, Nat.le_of_ble_eq_true rfl, Nat.le_of_ble_eq_true rfl⟩ ⟨Nat.le_refl 0, Nat.le_refl 0⟩ hl.1 (Nat.le_of_ble_eq_true rfl) rfl dL_act_127 (fun rc_9 Bc_9 H locs hI hG hS => ?_)
        refine lv_pop hx hb dL_act_130 rfl ?_
        refine lv_goto (tgt := 441) hx hb dL_act_131 (by decide) ?_
        exact t441 Bc_9 H locs hI hG hS
    · skip
      by_cases q_10 : v_5 = 2
      · refine lv_tableIn (tgt := 134) hx hb dL_act_39 (by rw [q_10]; decide) (by rw [q_10]; decide) (by rw [q_10]; rfl) (by decide) ?_
        refine lv_aload_n hx hb dL_act_134 rfl (lv_at hl 4 rfl) ?_
        refine lv_iload hx hb dL_act_135 (lv_at hl 1 rfl) ?_
        refine lv_iload hx hb dL_act_137 (lv_at hl 0 rfl) ?_
        refine lv_iload hx hb dL_act_139 (lv_at hl 2 rfl) ?_
        refine lv_iconst (v := 1) hx hb dL_act_141 (by decide) ?_
        refine lv_iand hx hb dL_act_142 ?_
        refine lv_iload hx hb dL_act_143 (lv_at hl 2 rfl) ?_
        refine lv_iconst (v := 1) hx hb dL_act_145 (by decide) ?_
        refine lv_ishr hx hb dL_act_146 ?_
        refine lv_bipush (v := 63) hx hb dL_act_147 (by decide) ?_
        refine lv_iand hx hb dL_act_149 ?_
        obtain ⟨rc_11, Ac_11, Bc_11, hc_11, dc_11, hI⟩ := lm_alter hI x_3 x_4 (x_2 &&& 1) ((x_2 >>> ((1 : Int32) &&& 31)) &&& 63)
        refine g_cVI (a := 0) (ci := 6) (T := TX6) (N := 8) (av := [.int x_3, .int x_4, .int (x_2 &&& 1), .int ((x_2 >>> ((1 : Int32) &&& 31)) &&& 63)]) (rest := []) X hG hS (ct_X6_alter l z k_0 n1 hc_11) mt_X6_alter ml_L_75 rfl ⟨rfl, rfl, Nat.le_of_ble_eq_true rfl, Nat.le_of_ble_eq_true rfl⟩ ⟨Nat.le_refl 0, Nat.le_refl 0⟩ (nx_0 n1) k_0 (by decide) rfl hl.1 (Nat.le_of_ble_eq_true rfl) rfl dL_act_150 (fun H locs hG hS => ?_)
        have hG : gW z Bc_11 H := gW_sw (fun x hx => dc_11 x (Nat.lt_of_lt_of_le hx hz)) hG
        refine lv_pop hx hb dL_act_153 rfl ?_
        refine lv_goto (tgt := 441) hx hb dL_act_154 (by decide) ?_
        exact t441 Bc_11 H locs hI hG hS
      · skip
        by_cases q_12 : v_5 = 3
        · refine lv_tableIn (tgt := 157) hx hb dL_act_39 (by rw [q_12]; decide) (by rw [q_12]; decide) (by rw [q_12]; rfl) (by decide) ?_
          refine lv_aload_n hx hb dL_act_157 rfl (lv_at hl 4 rfl) ?_
          refine lv_iload hx hb dL_act_158 (lv_at hl 1 rfl) ?_
          refine lv_iload hx hb dL_act_160 (lv_at hl 0 rfl) ?_
          refine lv_iload hx hb dL_act_162 (lv_at hl 2 rfl) ?_
          refine lv_bipush (v := 7) hx hb dL_act_164 (by decide) ?_
          refine lv_iand hx hb dL_act_166 ?_
          refine lv_iload hx hb dL_act_167 (lv_at hl 2 rfl) ?_
          refine lv_iconst (v := 3) hx hb dL_act_169 (by decide) ?_
          refine lv_ishr hx hb dL_act_170 ?_
          refine lv_bipush (v := 15) hx hb dL_act_171 (by decide) ?_
          refine lv_iand hx hb dL_act_173 ?_
          refine lv_bipush (v := 12) hx hb dL_act_174 (by decide) ?_
          refine lv_irem hx hb dL_act_176 (by decide) ?_
          refine lv_iconst (v := 1) hx hb dL_act_177 (by decide) ?_
          refine lv_isub hx hb dL_act_178 ?_
          obtain ⟨rc_13, Ac_13, Bc_13, hc_13, dc_13, hI⟩ := lm_tie hI x_3 x_4 (x_2 &&& 7) ((((x_2 >>> ((3 : Int32) &&& 31)) &&& 15) - ((x_2 >>> ((3 : Int32) &&& 31)) &&& 15) / 12 * 12) - 1)
          refine g_cVI (a := 0) (ci := 6) (T := TX6) (N := 8) (av := [.int x_3, .int x_4, .int (x_2 &&& 7), .int ((((x_2 >>> ((3 : Int32) &&& 31)) &&& 15) - ((x_2 >>> ((3 : Int32) &&& 31)) &&& 15) / 12 * 12) - 1)]) (rest := []) X hG hS (ct_X6_tie l z k_0 n1 hc_13) mt_X6_tie ml_L_79 rfl ⟨rfl, rfl, Nat.le_of_ble_eq_true rfl, Nat.le_of_ble_eq_true rfl⟩ ⟨Nat.le_refl 0, Nat.le_refl 0⟩ (nx_0 n1) k_0 (by decide) rfl hl.1 (Nat.le_of_ble_eq_true rfl) rfl dL_act_179 (fun H locs hG hS => ?_)
          have hG : gW z Bc_13 H := gW_sw (fun x hx => dc_13 x (Nat.lt_of_lt_of_le hx hz)) hG
          refine lv_pop hx hb dL_act_182 rfl ?_
          refine lv_goto (tgt := 441) hx hb dL_act_183 (by decide) ?_
          exact t441 Bc_13 H locs hI hG hS
        · skip
          by_cases q_14 : v_5 = 4
          · refine lv_tableIn (tgt := 186) hx hb dL_act_39 (by rw [q_14]; decide) (by rw [q_14]; decide) (by rw [q_14]; rfl) (by decide) ?_
            refine lv_aload_n hx hb dL_act_186 rfl (lv_at hl 4 rfl) ?_
            refine lv_iload hx hb dL_act_187 (lv_at hl 1 rfl) ?_
            refine lv_iload hx hb dL_act_189 (lv_at hl 0 rfl) ?_
            refine lv_iload hx hb dL_act_191 (lv_at hl 2 rfl) ?_
            refine lv_iconst (v := 3) hx hb dL_act_193 (by decide) ?_
            refine lv_iand hx hb dL_act_194 ?_
            refine lv_iconst (v := 3) hx hb dL_act_195 (by decide) ?_
            refine lv_icmp_ne (tgt := 203) hx hb dL_act_196 (by decide) (fun q196 => ?_) (fun q196 => ?_)
            · skip
              refine lv_iconst (v := 0) hx hb dL_act_203 (by decide) ?_
              obtain ⟨rc_15, Ac_15, Bc_15, hc_15, dc_15, hI⟩ := lm_must hI x_3 x_4 0
              refine g_cVI (a := 0) (ci := 6) (T := TX6) (N := 8) (av := [.int x_3, .int x_4, .int 0]) (rest := []) X hG hS (ct_X6_must l z k_0 n1 hc_15) mt_X6_must ml_L_82 rfl ⟨rfl, rfl, Nat.le_of_ble_eq_true rfl, Nat.le_of_ble_eq_true rfl⟩ ⟨Nat.le_refl 0, Nat.le_refl 0⟩ (nx_0 n1) k_0 (by decide) rfl hl.1 (Nat.le_of_ble_eq_true rfl) rfl dL_act_204 (fun H locs hG hS => ?_)
              have hG : gW z Bc_15 H := gW_sw (fun x hx => dc_15 x (Nat.lt_of_lt_of_le hx hz)) hG
              refine lv_pop hx hb dL_act_207 rfl ?_
              refine lv_goto (tgt := 441) hx hb dL_act_208 (by decide) ?_
              exact t441 Bc_15 H locs hI hG hS
            · skip
              refine lv_iconst (v := 1) hx hb dL_act_199 (by decide) ?_
              refine lv_goto (tgt := 204) hx hb dL_act_200 (by decide) ?_
              obtain ⟨rc_16, Ac_16, Bc_16, hc_16, dc_16, hI⟩ := lm_must hI x_3 x_4 1
              refine g_cVI (a := 0) (ci := 6) (T := TX6) (N := 8) (av := [.int x_3, .int x_4, .int 1]) (rest := []) X hG hS (ct_X6_must l z k_0 n1 hc_16) mt_X6_must ml_L_82 rfl ⟨rfl, rfl, Nat.le_of_ble_eq_true rfl, Nat.le_of_ble_eq_true rfl⟩ ⟨Nat.le_refl 0, Nat.le_refl 0⟩ (nx_0 n1) k_0 (by decide) rfl hl.1 (Nat.le_of_ble_eq_true rfl) rfl dL_act_204 (fun H locs hG hS => ?_)
              have hG : gW z Bc_16 H := gW_sw (fun x hx => dc_16 x (Nat.lt_of_lt_of_le hx hz)) hG
              refine lv_pop hx hb dL_act_207 rfl ?_
              refine lv_goto (tgt := 441) hx hb dL_act_208 (by decide) ?_
              exact t441 Bc_16 H locs hI hG hS
          · skip
            by_cases q_17 : v_5 = 5
            · refine lv_tableIn (tgt := 211) hx hb dL_act_39 (by rw [q_17]; decide) (by rw [q_17]; decide) (by rw [q_17]; rfl) (by decide) ?_
              refine lv_aload_n hx hb dL_act_211 rfl (lv_at hl 4 rfl) ?_
              refine lv_iload hx hb dL_act_212 (lv_at hl 2 rfl) ?_
              refine lv_bipush (v := 7) hx hb dL_act_214 (by decide) ?_
              refine lv_iand hx hb dL_act_216 ?_
              refine lv_iload hx hb dL_act_217 (lv_at hl 2 rfl) ?_
              refine lv_iconst (v := 3) hx hb dL_act_219 (by decide) ?_
              refine lv_ishr hx hb dL_act_220 ?_
              refine lv_bipush (v := 7) hx hb dL_act_221 (by decide) ?_
              refine lv_iand hx hb dL_act_223 ?_
              refine lv_bipush (v := 6) hx hb dL_act_224 (by decide) ?_
              refine lv_irem hx hb dL_act_226 (by decide) ?_
              refine lv_iload hx hb dL_act_227 (lv_at hl 2 rfl) ?_
              refine lv_bipush (v := 6) hx hb dL_act_229 (by decide) ?_
              refine lv_ishr hx hb dL_act_231 ?_
              refine lv_bipush (v := 15) hx hb dL_act_232 (by decide) ?_
              refine lv_iand hx hb dL_act_234 ?_
              obtain ⟨rc_18, Ac_18, Bc_18, hc_18, dc_18, hI⟩ := lm_row hI (x_2 &&& 7) (((x_2 >>> ((3 : Int32) &&& 31)) &&& 7) - ((x_2 >>> ((3 : Int32) &&& 31)) &&& 7) / 6 * 6) ((x_2 >>> ((6 : Int32) &&& 31)) &&& 15)
              refine g_cVI (a := 0) (ci := 6) (T := TX6) (N := 8) (av := [.int (x_2 &&& 7), .int (((x_2 >>> ((3 : Int32) &&& 31)) &&& 7) - ((x_2 >>> ((3 : Int32) &&& 31)) &&& 7) / 6 * 6), .int ((x_2 >>> ((6 : Int32) &&& 31)) &&& 15)]) (rest := []) X hG hS (ct_X6_row l z k_0 n1 hc_18) mt_X6_row ml_L_86 rfl ⟨rfl, rfl, Nat.le_of_ble_eq_true rfl, Nat.le_of_ble_eq_true rfl⟩ ⟨Nat.le_refl 0, Nat.le_refl 0⟩ (nx_0 n1) k_0 (by decide) rfl hl.1 (Nat.le_of_ble_eq_true rfl) rfl dL_act_235 (fun H locs hG hS => ?_)
              have hG : gW z Bc_18 H := gW_sw (fun x hx => dc_18 x (Nat.lt_of_lt_of_le hx hz)) hG
              refine lv_pop hx hb dL_act_238 rfl ?_
              refine lv_goto (tgt := 441) hx hb dL_act_239 (by decide) ?_
              exact t441 Bc_18 H locs hI hG hS
            · skip
              by_cases q_19 : v_5 = 6
              · refine lv_tableIn (tgt := 242) hx hb dL_act_39 (by rw [q_19]; decide) (by rw [q_19]; decide) (by rw [q_19]; rfl) (by decide) ?_
                refine lv_aload_n hx hb dL_act_242 rfl (lv_at hl 4 rfl) ?_
                refine lv_iload hx hb dL_act_243 (lv_at hl 2 rfl) ?_
                refine lv_bipush (v := 7) hx hb dL_act_245 (by decide) ?_
                refine lv_iand hx hb dL_act_247 ?_
                refine lv_iload hx hb dL_act_248 (lv_at hl 2 rfl) ?_
                refine lv_iconst (v := 3) hx hb dL_act_250 (by decide) ?_
                refine lv_ishr hx hb dL_act_251 ?_
                refine lv_bipush (v := 15) hx hb dL_act_252 (by decide) ?_
                refine lv_iand hx hb dL_act_254 ?_
                refine lv_iload_n hx hb dL_act_255 rfl (lv_at hl 3 rfl) ?_
                refine lv_bipush (v := 11) hx hb dL_act_256 (by decide) ?_
                refine lv_ishr hx hb dL_act_258 ?_
                refine lv_i2l hx hb dL_act_259 rfl ?_
                obtain ⟨rc_20, Ac_20, Bc_20, hc_20, dc_20, hI⟩ := lm_set hI (x_2 &&& 7) ((x_2 >>> ((3 : Int32) &&& 31)) &&& 15) (((rc_1 >>> ((11 : Int32) &&& 31)) : Int32).toInt64)
                refine g_cVI (a := 0) (ci := 6) (T := TX6) (N := 8) (av := [.int (x_2 &&& 7), .int ((x_2 >>> ((3 : Int32) &&& 31)) &&& 15), .long (((rc_1 >>> ((11 : Int32) &&& 31)) : Int32).toInt64)]) (rest := []) X hG hS (ct_X6_set l z k_0 n1 hc_20) mt_X6_set ml_L_90 rfl ⟨rfl, rfl, Nat.le_of_ble_eq_true rfl, Nat.le_of_ble_eq_true rfl⟩ ⟨Nat.le_refl 0, Nat.le_refl 0⟩ (nx_0 n1) k_0 (by decide) rfl hl.1 (Nat.le_of_ble_eq_true rfl) rfl dL_act_260 (fun H locs hG hS => ?_)
                have hG : gW z Bc_20 H := gW_sw (fun x hx => dc_20 x (Nat.lt_of_lt_of_le hx hz)) hG
                refine lv_pop hx hb dL_act_263 rfl ?_
                refine lv_goto (tgt := 441) hx hb dL_act_264 (by decide) ?_
                exact t441 Bc_20 H locs hI hG hS
              · skip
                by_cases q_21 : v_5 = 7
                · refine lv_tableIn (tgt := 267) hx hb dL_act_39 (by rw [q_21]; decide) (by rw [q_21]; decide) (by rw [q_21]; rfl) (by decide) ?_
                  refine lv_aload_n hx hb dL_act_267 rfl (lv_at hl 4 rfl) ?_
                  refine lv_iload hx hb dL_act_268 (lv_at hl 2 rfl) ?_
                  refine lv_bipush (v := 7) hx hb dL_act_270 (by decide) ?_
                  refine lv_iand hx hb dL_act_272 ?_
                  refine lv_iconst (v := 1) hx hb dL_act_273 (by decide) ?_
                  refine lv_iload hx hb dL_act_274 (lv_at hl 2 rfl) ?_
                  refine lv_iconst (v := 3) hx hb dL_act_276 (by decide) ?_
                  refine lv_ishr hx hb dL_act_277 ?_
                  refine lv_bipush (v := 7) hx hb dL_act_278 (by decide) ?_
                  refine lv_iand hx hb dL_act_280 ?_
                  refine lv_bipush (v := 6) hx hb dL_act_281 (by decide) ?_
                  refine lv_irem hx hb dL_act_283 (by decide) ?_
                  refine lv_iadd hx hb dL_act_284 ?_
                  refine lv_iload hx hb dL_act_285 (lv_at hl 2 rfl) ?_
                  refine lv_bipush (v := 6) hx hb dL_act_287 (by decide) ?_
                  refine lv_ishr hx hb dL_act_289 ?_
                  refine lv_bipush (v := 63) hx hb dL_act_290 (by decide) ?_
                  refine lv_iand hx hb dL_act_292 ?_
                  obtain ⟨rc_22, Ac_22, Bc_22, hc_22, dc_22, hI⟩ := lm_way hI (x_2 &&& 7) (1 + (((x_2 >>> ((3 : Int32) &&& 31)) &&& 7) - ((x_2 >>> ((3 : Int32) &&& 31)) &&& 7) / 6 * 6)) ((x_2 >>> ((6 : Int32) &&& 31)) &&& 63)
                  refine g_cVI (a := 0) (ci := 6) (T := TX6) (N := 8) (av := [.int (x_2 &&& 7), .int (1 + (((x_2 >>> ((3 : Int32) &&& 31)) &&& 7) - ((x_2 >>> ((3 : Int32) &&& 31)) &&& 7) / 6 * 6)), .int ((x_2 >>> ((6 : Int32) &&& 31)) &&& 63)]) (rest := []) X hG hS (ct_X6_way l z k_0 n1 hc_22) mt_X6_way ml_L_94 rfl ⟨rfl, rfl, Nat.le_of_ble_eq_true rfl, Nat.le_of_ble_eq_true rfl⟩ ⟨Nat.le_refl 0, Nat.le_refl 0⟩ (nx_0 n1) k_0 (by decide) rfl hl.1 (Nat.le_of_ble_eq_true rfl) rfl dL_act_293 (fun H locs hG hS => ?_)
                  have hG : gW z Bc_22 H := gW_sw (fun x hx => dc_22 x (Nat.lt_of_lt_of_le hx hz)) hG
                  refine lv_pop hx hb dL_act_296 rfl ?_
                  refine lv_goto (tgt := 441) hx hb dL_act_297 (by decide) ?_
                  exact t441 Bc_22 H locs hI hG hS
                · skip
                  by_cases q_23 : v_5 = 8
                  · refine lv_tableIn (tgt := 300) hx hb dL_act_39 (by rw [q_23]; decide) (by rw [q_23]; decide) (by rw [q_23]; rfl) (by decide) ?_
                    refine lv_aload_n hx hb dL_act_300 rfl (lv_at hl 4 rfl) ?_
                    refine lv_iload hx hb dL_act_301 (lv_at hl 1 rfl) ?_
                    refine lv_iload hx hb dL_act_303 (lv_at hl 0 rfl) ?_
                    refine lv_iload hx hb dL_act_305 (lv_at hl 2 rfl) ?_
                    refine lv_bipush (v := 15) hx hb dL_act_307 (by decide) ?_
                    refine lv_iand hx hb dL_act_309 ?_
                    refine lv_bipush (v := 9) hx hb dL_act_310 (by decide) ?_
                    refine lv_irem hx hb dL_act_312 (by decide) ?_
                    refine lv_iconst (v := 1) hx hb dL_act_313 (by decide) ?_
                    refine lv_isub hx hb dL_act_314 ?_
                    obtain ⟨rc_24, Ac_24, Bc_24, hc_24, dc_24, hI⟩ := lm_take hI x_3 x_4 (((x_2 &&& 15) - (x_2 &&& 15) / 9 * 9) - 1)
                    refine g_cVI (a := 0) (ci := 6) (T := TX6) (N := 8) (av := [.int x_3, .int x_4, .int (((x_2 &&& 15) - (x_2 &&& 15) / 9 * 9) - 1)]) (rest := []) X hG hS (ct_X6_take l z k_0 n1 hc_24) mt_X6_take ml_L_97 rfl ⟨rfl, rfl, Nat.le_of_ble_eq_true rfl, Nat.le_of_ble_eq_true rfl⟩ ⟨Nat.le_refl 0, Nat.le_refl 0⟩ (nx_0 n1) k_0 (by decide) rfl hl.1 (Nat.le_of_ble_eq_true rfl) rfl dL_act_315 (fun H locs hG hS => ?_)
                    have hG : gW z Bc_24 H := gW_sw (fun x hx => dc_24 x (Nat.lt_of_lt_of_le hx hz)) hG
                    refine lv_pop hx hb dL_act_318 rfl ?_
                    refine lv_goto (tgt := 441) hx hb dL_act_319 (by decide) ?_
                    exact t441 Bc_24 H locs hI hG hS
                  · skip
                    by_cases q_25 : v_5 = 9
                    · refine lv_tableIn (tgt := 322) hx hb dL_act_39 (by rw [q_25]; decide) (by rw [q_25]; decide) (by rw [q_25]; rfl) (by decide) ?_
                      refine lv_aload_n hx hb dL_act_322 rfl (lv_at hl 4 rfl) ?_
                      refine lv_iload hx hb dL_act_323 (lv_at hl 1 rfl) ?_
                      refine lv_iconst (v := 0) hx hb dL_act_325 (by decide) ?_
                      obtain ⟨rc_26, Ac_26, Bc_26, hc_26, dc_26, hI⟩ := lm_streetOf hI x_3 0
                      refine g_cVI (a := 0) (ci := 6) (T := TX6) (N := 8) (av := [.int x_3, .int 0]) (rest := []) X hG hS (ct_X6_streetOf l z k_0 n1 hc_26) mt_X6_streetOf ml_L_100 rfl ⟨rfl, rfl, Nat.le_of_ble_eq_true rfl, Nat.le_of_ble_eq_true rfl⟩ ⟨Nat.le_refl 0, Nat.le_refl 0⟩ (nx_0 n1) k_0 (by decide) rfl hl.1 (Nat.le_of_ble_eq_true rfl) rfl dL_act_326 (fun H locs hG hS => ?_)
                      have hG : gW z Bc_26 H := gW_sw (fun x hx => dc_26 x (Nat.lt_of_lt_of_le hx hz)) hG
                      refine lv_bipush (v := 6) hx hb dL_act_329 (by decide) ?_
                      refine lv_icmp_ge (tgt := 441) hx hb dL_act_331 (by decide) (fun q331 => ?_) (fun q331 => ?_)
                      · skip
                        exact t441 Bc_26 H locs hI hG hS
                      · skip
                        refine lv_aload_n hx hb dL_act_334 rfl (lv_at hl 4 rfl) ?_
                        refine lv_iload hx hb dL_act_335 (lv_at hl 1 rfl) ?_
                        refine lv_iload hx hb dL_act_337 (lv_at hl 2 rfl) ?_
                        refine lv_bipush (v := 31) hx hb dL_act_339 (by decide) ?_
                        refine lv_iand hx hb dL_act_341 ?_
                        refine lv_iload hx hb dL_act_342 (lv_at hl 2 rfl) ?_
                        refine lv_iconst (v := 5) hx hb dL_act_344 (by decide) ?_
                        refine lv_ishr hx hb dL_act_345 ?_
                        refine lv_bipush (v := 31) hx hb dL_act_346 (by decide) ?_
                        refine lv_iand hx hb dL_act_348 ?_
                        refine lv_iload hx hb dL_act_349 (lv_at hl 2 rfl) ?_
                        refine lv_bipush (v := 7) hx hb dL_act_351 (by decide) ?_
                        refine lv_ishr hx hb dL_act_353 ?_
                        refine lv_bipush (v := 31) hx hb dL_act_354 (by decide) ?_
                        refine lv_iand hx hb dL_act_356 ?_
                        obtain ⟨rc_27, Ac_27, Bc_27, hc_27, dc_27, hI⟩ := lm_come hI x_3 (x_2 &&& 31) ((x_2 >>> ((5 : Int32) &&& 31)) &&& 31) ((x_2 >>> ((7 : Int32) &&& 31)) &&& 31)
                        refine g_cVI (a := 0) (ci := 6) (T := TX6) (N := 8) (av := [.int x_3, .int (x_2 &&& 31), .int ((x_2 >>> ((5 : Int32) &&& 31)) &&& 31), .int ((x_2 >>> ((7 : Int32) &&& 31)) &&& 31)]) (rest := []) X hG hS (ct_X6_come l z k_0 n1 hc_27) mt_X6_come ml_L_103 rfl ⟨rfl, rfl, Nat.le_of_ble_eq_true rfl, Nat.le_of_ble_eq_true rfl⟩ ⟨Nat.le_refl 0, Nat.le_refl 0⟩ (nx_0 n1) k_0 (by decide) rfl hl.1 (Nat.le_of_ble_eq_true rfl) rfl dL_act_357 (fun H locs hG hS => ?_)
                        have hG : gW z Bc_27 H := gW_sw (fun x hx => dc_27 x (Nat.lt_of_lt_of_le hx hz)) hG
                        refine lv_pop hx hb dL_act_360 rfl ?_
                        refine lv_goto (tgt := 441) hx hb dL_act_361 (by decide) ?_
                        exact t441 Bc_27 H locs hI hG hS
                    · skip
                      by_cases q_28 : v_5 = 10
                      · refine lv_tableIn (tgt := 364) hx hb dL_act_39 (by rw [q_28]; decide) (by rw [q_28]; decide) (by rw [q_28]; rfl) (by decide) ?_
                        refine lv_aload_n hx hb dL_act_364 rfl (lv_at hl 4 rfl) ?_
                        refine lv_iload hx hb dL_act_365 (lv_at hl 1 rfl) ?_
                        obtain ⟨rc_29, Ac_29, Bc_29, hc_29, dc_29, hI⟩ := lm_begin hI x_3
                        refine g_cVI (a := 0) (ci := 6) (T := TX6) (N := 8) (av := [.int x_3]) (rest := []) X hG hS (ct_X6_begin l z k_0 n1 hc_29) mt_X6_begin ml_L_106 rfl ⟨rfl, rfl, Nat.le_of_ble_eq_true rfl, Nat.le_of_ble_eq_true rfl⟩ ⟨Nat.le_refl 0, Nat.le_refl 0⟩ (nx_0 n1) k_0 (by decide) rfl hl.1 (Nat.le_of_ble_eq_true rfl) rfl dL_act_367 (fun H locs hG hS => ?_)
                        have hG : gW z Bc_29 H := gW_sw (fun x hx => dc_29 x (Nat.lt_of_lt_of_le hx hz)) hG
                        refine lv_pop hx hb dL_act_370 rfl ?_
                        refine lv_goto (tgt := 441) hx hb dL_act_371 (by decide) ?_
                        exact t441 Bc_29 H locs hI hG hS
                      · skip
                        by_cases q_30 : v_5 = 11
                        · refine lv_tableIn (tgt := 374) hx hb dL_act_39 (by rw [q_30]; decide) (by rw [q_30]; decide) (by rw [q_30]; rfl) (by decide) ?_
                          refine lv_aload_n hx hb dL_act_374 rfl (lv_at hl 4 rfl) ?_
                          refine lv_iconst (v := 1) hx hb dL_act_375 (by decide) ?_
                          refine lv_iload hx hb dL_act_376 (lv_at hl 2 rfl) ?_
                          refine lv_bipush (v := 31) hx hb dL_act_378 (by decide) ?_
                          refine lv_iand hx hb dL_act_380 ?_
                          refine lv_iadd hx hb dL_act_381 ?_
                          obtain ⟨rc_31, Ac_31, Bc_31, hc_31, dc_31, hI⟩ := lm_step hI (1 + (x_2 &&& 31))
                          refine g_cVI (a := 0) (ci := 6) (T := TX6) (N := 8) (av := [.int (1 + (x_2 &&& 31))]) (rest := []) X hG hS (ct_X6_step l z k_0 n1 hc_31) mt_X6_step ml_L_109 rfl ⟨rfl, rfl, Nat.le_of_ble_eq_true rfl, Nat.le_of_ble_eq_true rfl⟩ ⟨Nat.le_refl 0, Nat.le_refl 0⟩ (nx_0 n1) k_0 (by decide) rfl hl.1 (Nat.le_of_ble_eq_true rfl) rfl dL_act_382 (fun H locs hG hS => ?_)
                          have hG : gW z Bc_31 H := gW_sw (fun x hx => dc_31 x (Nat.lt_of_lt_of_le hx hz)) hG
                          refine lv_pop hx hb dL_act_385 rfl ?_
                          refine lv_goto (tgt := 441) hx hb dL_act_386 (by decide) ?_
                          exact t441 Bc_31 H locs hI hG hS
                        · skip
                          by_cases q_32 : v_5 = 12
                          · refine lv_tableIn (tgt := 389) hx hb dL_act_39 (by rw [q_32]; decide) (by rw [q_32]; decide) (by rw [q_32]; rfl) (by decide) ?_
                            refine lv_aload_n hx hb dL_act_389 rfl (lv_at hl 4 rfl) ?_
                            refine lv_iload hx hb dL_act_390 (lv_at hl 1 rfl) ?_
                            refine lv_iload hx hb dL_act_392 (lv_at hl 2 rfl) ?_
                            refine lv_sipush (v := 511) hx hb dL_act_394 (by decide) ?_
                            refine lv_iand hx hb dL_act_397 ?_
                            obtain ⟨rc_33, Ac_33, Bc_33, hc_33, dc_33, hI⟩ := lm_doers hI x_3 (x_2 &&& 511)
                            refine g_cVI (a := 0) (ci := 6) (T := TX6) (N := 8) (av := [.int x_3, .int (x_2 &&& 511)]) (rest := []) X hG hS (ct_X6_doers l z k_0 n1 hc_33) mt_X6_doers ml_L_112 rfl ⟨rfl, rfl, Nat.le_of_ble_eq_true rfl, Nat.le_of_ble_eq_true rfl⟩ ⟨Nat.le_refl 0, Nat.le_refl 0⟩ (nx_0 n1) k_0 (by decide) rfl hl.1 (Nat.le_of_ble_eq_true rfl) rfl dL_act_398 (fun H locs hG hS => ?_)
                            have hG : gW z Bc_33 H := gW_sw (fun x hx => dc_33 x (Nat.lt_of_lt_of_le hx hz)) hG
                            refine lv_pop hx hb dL_act_401 rfl ?_
                            refine lv_goto (tgt := 441) hx hb dL_act_402 (by decide) ?_
                            exact t441 Bc_33 H locs hI hG hS
                          · skip
                            by_cases q_34 : v_5 = 13
                            · refine lv_tableIn (tgt := 405) hx hb dL_act_39 (by rw [q_34]; decide) (by rw [q_34]; decide) (by rw [q_34]; rfl) (by decide) ?_
                              refine lv_aload_n hx hb dL_act_405 rfl (lv_at hl 4 rfl) ?_
                              refine lv_iload hx hb dL_act_406 (lv_at hl 2 rfl) ?_
                              refine lv_bipush (v := 7) hx hb dL_act_408 (by decide) ?_
                              refine lv_iand hx hb dL_act_410 ?_
                              refine lv_bipush (v := 7) hx hb dL_act_411 (by decide) ?_
                              refine lv_irem hx hb dL_act_413 (by decide) ?_
                              refine lv_iload hx hb dL_act_414 (lv_at hl 2 rfl) ?_
                              refine lv_iconst (v := 3) hx hb dL_act_416 (by decide) ?_
                              refine lv_ishr hx hb dL_act_417 ?_
                              refine lv_bipush (v := 31) hx hb dL_act_418 (by decide) ?_
                              refine lv_iand hx hb dL_act_420 ?_
                              obtain ⟨rc_35, Ac_35, Bc_35, hc_35, dc_35, hI⟩ := lm_know hI ((x_2 &&& 7) - (x_2 &&& 7) / 7 * 7) ((x_2 >>> ((3 : Int32) &&& 31)) &&& 31)
                              refine g_cVI (a := 0) (ci := 6) (T := TX6) (N := 8) (av := [.int ((x_2 &&& 7) - (x_2 &&& 7) / 7 * 7), .int ((x_2 >>> ((3 : Int32) &&& 31)) &&& 31)]) (rest := []) X hG hS (ct_X6_know l z k_0 n1 hc_35) mt_X6_know ml_L_115 rfl ⟨rfl, rfl, Nat.le_of_ble_eq_true rfl, Nat.le_of_ble_eq_true rfl⟩ ⟨Nat.le_refl 0, Nat.le_refl 0⟩ (nx_0 n1) k_0 (by decide) rfl hl.1 (Nat.le_of_ble_eq_true rfl) rfl dL_act_421 (fun H locs hG hS => ?_)
                              have hG : gW z Bc_35 H := gW_sw (fun x hx => dc_35 x (Nat.lt_of_lt_of_le hx hz)) hG
                              refine lv_pop hx hb dL_act_424 rfl ?_
                              refine lv_goto (tgt := 441) hx hb dL_act_425 (by decide) ?_
                              exact t441 Bc_35 H locs hI hG hS
                            · skip
                              by_cases q_36 : v_5 = 14
                              · refine lv_tableIn (tgt := 428) hx hb dL_act_39 (by rw [q_36]; decide) (by rw [q_36]; decide) (by rw [q_36]; rfl) (by decide) ?_
                                refine lv_aload_n hx hb dL_act_428 rfl (lv_at hl 4 rfl) ?_
                                obtain ⟨rc_37, Ac_37, Bc_37, hc_37, dc_37, hI⟩ := lm_image hI 
                                refine g_cVI (a := 0) (ci := 6) (T := TX6) (N := 8) (av := []) (rest := []) X hG hS (ct_X6_image l z k_0 n1 hc_37) mt_X6_image ml_L_118 rfl ⟨rfl, rfl, Nat.le_of_ble_eq_true rfl, Nat.le_of_ble_eq_true rfl⟩ ⟨Nat.le_refl 0, Nat.le_refl 0⟩ (nx_0 n1) k_0 (by decide) rfl hl.1 (Nat.le_of_ble_eq_true rfl) rfl dL_act_429 (fun H locs hG hS => ?_)
                                have hG : gW z Bc_37 H := gW_sw (fun x hx => dc_37 x (Nat.lt_of_lt_of_le hx hz)) hG
                                refine lv_pop hx hb dL_act_432 rfl ?_
                                refine lv_goto (tgt := 441) hx hb dL_act_433 (by decide) ?_
                                exact t441 Bc_37 H locs hI hG hS
                              · skip
                                refine lv_tableOut (tgt := 436) hx hb dL_act_39 (by have eq_6 := lv_neT (a := 0) q_6 (by decide); have eq_8 := lv_neT (a := 1) q_8 (by decide); have eq_10 := lv_neT (a := 2) q_10 (by decide); have eq_12 := lv_neT (a := 3) q_12 (by decide); have eq_14 := lv_neT (a := 4) q_14 (by decide); have eq_17 := lv_neT (a := 5) q_17 (by decide); have eq_19 := lv_neT (a := 6) q_19 (by decide); have eq_21 := lv_neT (a := 7) q_21 (by decide); have eq_23 := lv_neT (a := 8) q_23 (by decide); have eq_25 := lv_neT (a := 9) q_25 (by decide); have eq_28 := lv_neT (a := 10) q_28 (by decide); have eq_30 := lv_neT (a := 11) q_30 (by decide); have eq_32 := lv_neT (a := 12) q_32 (by decide); have eq_34 := lv_neT (a := 13) q_34 (by decide); have eq_36 := lv_neT (a := 14) q_36 (by decide); omega) (by decide) ?_
                                refine lv_aload_n hx hb dL_act_436 rfl (lv_at hl 4 rfl) ?_
                                obtain ⟨rc_38, Ac_38, Bc_38, hc_38, dc_38, hI⟩ := lm_back hI 
                                refine g_cVI (a := 0) (ci := 6) (T := TX6) (N := 8) (av := []) (rest := []) X hG hS (ct_X6_back l z k_0 n1 hc_38) mt_X6_back ml_L_121 rfl ⟨rfl, rfl, Nat.le_of_ble_eq_true rfl, Nat.le_of_ble_eq_true rfl⟩ ⟨Nat.le_refl 0, Nat.le_refl 0⟩ (nx_0 n1) k_0 (by decide) rfl hl.1 (Nat.le_of_ble_eq_true rfl) rfl dL_act_437 (fun H locs hG hS => ?_)
                                have hG : gW z Bc_38 H := gW_sw (fun x hx => dc_38 x (Nat.lt_of_lt_of_le hx hz)) hG
                                refine lv_pop hx hb dL_act_440 rfl ?_
                                exact t441 Bc_38 H locs hI hG hS
