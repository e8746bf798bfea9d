theorem oi_im : Cond.instanceMethod objectInit ∈ gT := (gT_at 99 (by decide +kernel) rfl)
theorem oi_co : Cond.code objectInit ⟨#[0xb1]⟩ 1 none ∈ gT := (gT_at 100 (by decide +kernel) rfl)
theorem ar_int : Cond.arrayClass (newarray.typeOf .int) ∈ gT := (gT_at 130 (by decide +kernel) rfl)
theorem ar_long : Cond.arrayClass (newarray.typeOf .long) ∈ gT := (gT_at 257 (by decide +kernel) rfl)
theorem ol_X6 : Cond.methodLink RX6 1 objectInit ∈ gT := (gT_at 98 (by decide +kernel) rfl)
theorem ol_X1 : Cond.methodLink RX1 3 objectInit ∈ gT := (gT_at 108 (by decide +kernel) rfl)
theorem fw_X1_9 : Cond.fieldLink RX1 9 RX1 "bytes" "[I" ∈ gT := (gT_at 109 (by decide +kernel) rfl)
theorem fw_X1_15 : Cond.fieldLink RX1 15 RX1 "size" "I" ∈ gT := (gT_at 110 (by decide +kernel) rfl)
theorem fw_X1_44 : Cond.fieldLink RX1 44 RX1 "sort" "I" ∈ gT := (gT_at 112 (by decide +kernel) rfl)
theorem fw_X1_129 : Cond.fieldLink RX1 129 RX1 "start" "I" ∈ gT := (gT_at 114 (by decide +kernel) rfl)
theorem fw_X1_19 : Cond.fieldLink RX1 19 RX1 "behind" "I" ∈ gT := (gT_at 115 (by decide +kernel) rfl)
theorem fw_X1_35 : Cond.fieldLink RX1 35 RX1 "passed" "I" ∈ gT := (gT_at 116 (by decide +kernel) rfl)
theorem ol_X5 : Cond.methodLink RX5 3 objectInit ∈ gT := (gT_at 136 (by decide +kernel) rfl)
theorem ol_X2 : Cond.methodLink RX2 3 objectInit ∈ gT := (gT_at 144 (by decide +kernel) rfl)
theorem ol_X4 : Cond.methodLink RX4 3 objectInit ∈ gT := (gT_at 150 (by decide +kernel) rfl)
theorem fw_X4_9 : Cond.fieldLink RX4 9 RX4 "cost" "[I" ∈ gT := (gT_at 151 (by decide +kernel) rfl)
theorem fw_X4_15 : Cond.fieldLink RX4 15 RX4 "worth" "[I" ∈ gT := (gT_at 154 (by decide +kernel) rfl)
theorem fw_X4_18 : Cond.fieldLink RX4 18 RX4 "near" "[I" ∈ gT := (gT_at 157 (by decide +kernel) rfl)
theorem fw_X4_21 : Cond.fieldLink RX4 21 RX4 "wayKind" "[I" ∈ gT := (gT_at 158 (by decide +kernel) rfl)
theorem fw_X4_24 : Cond.fieldLink RX4 24 RX4 "wayTold" "[I" ∈ gT := (gT_at 160 (by decide +kernel) rfl)
theorem fw_X4_27 : Cond.fieldLink RX4 27 RX4 "price" "[I" ∈ gT := (gT_at 161 (by decide +kernel) rfl)
theorem fw_X4_30 : Cond.fieldLink RX4 30 RX4 "pays" "[I" ∈ gT := (gT_at 162 (by decide +kernel) rfl)
theorem fw_X4_33 : Cond.fieldLink RX4 33 RX4 "persons" "I" ∈ gT := (gT_at 163 (by decide +kernel) rfl)
theorem fw_X4_37 : Cond.fieldLink RX4 37 RX4 "more" "I" ∈ gT := (gT_at 166 (by decide +kernel) rfl)
theorem fw_X4_40 : Cond.fieldLink RX4 40 RX4 "musts" "I" ∈ gT := (gT_at 169 (by decide +kernel) rfl)
theorem fw_X2_12 : Cond.fieldLink RX2 12 RX2 "street" "LSomebodyWill$Street;" ∈ gT := (gT_at 192 (by decide +kernel) rfl)
theorem fw_X2_22 : Cond.fieldLink RX2 22 RX2 "isUnderWay" "Z" ∈ gT := (gT_at 193 (by decide +kernel) rfl)
theorem fw_X2_26 : Cond.fieldLink RX2 26 RX2 "streetNumber" "I" ∈ gT := (gT_at 195 (by decide +kernel) rfl)
theorem fw_X2_30 : Cond.fieldLink RX2 30 RX2 "next" "I" ∈ gT := (gT_at 196 (by decide +kernel) rfl)
theorem fw_X2_33 : Cond.fieldLink RX2 33 RX2 "found" "I" ∈ gT := (gT_at 197 (by decide +kernel) rfl)
theorem fw_X2_36 : Cond.fieldLink RX2 36 RX2 "last" "I" ∈ gT := (gT_at 198 (by decide +kernel) rfl)
theorem fw_X5_11 : Cond.fieldLink RX5 11 RX5 "streets" "[LSomebodyWill$Street;" ∈ gT := (gT_at 213 (by decide +kernel) rfl)
theorem fw_X5_17 : Cond.fieldLink RX5 17 RX5 "known" "[I" ∈ gT := (gT_at 214 (by decide +kernel) rfl)
theorem fw_X5_24 : Cond.fieldLink RX5 24 RX5 "hunt" "LSomebodyWill$Search;" ∈ gT := (gT_at 216 (by decide +kernel) rfl)
theorem fw_X5_33 : Cond.fieldLink RX5 33 RX5 "size" "I" ∈ gT := (gT_at 218 (by decide +kernel) rfl)
theorem fw_X5_28 : Cond.fieldLink RX5 28 RX5 "chanceSeed" "I" ∈ gT := (gT_at 220 (by decide +kernel) rfl)
theorem ol_X0 : Cond.methodLink RX0 3 objectInit ∈ gT := (gT_at 240 (by decide +kernel) rfl)
theorem fw_X0_11 : Cond.fieldLink RX0 11 RX0 "seen" "[J" ∈ gT := (gT_at 241 (by decide +kernel) rfl)
theorem fw_X0_21 : Cond.fieldLink RX0 21 RX0 "end" "I" ∈ gT := (gT_at 242 (by decide +kernel) rfl)
theorem fw_X0_25 : Cond.fieldLink RX0 25 RX0 "changes" "I" ∈ gT := (gT_at 244 (by decide +kernel) rfl)
theorem fw_X0_28 : Cond.fieldLink RX0 28 RX0 "ringRounds" "I" ∈ gT := (gT_at 246 (by decide +kernel) rfl)
theorem ol_X3 : Cond.methodLink RX3 3 objectInit ∈ gT := (gT_at 262 (by decide +kernel) rfl)
theorem fw_X3_9 : Cond.fieldLink RX3 9 RX3 "places" "[J" ∈ gT := (gT_at 263 (by decide +kernel) rfl)
theorem fw_X3_15 : Cond.fieldLink RX3 15 RX3 "holding" "I" ∈ gT := (gT_at 264 (by decide +kernel) rfl)
theorem fw_X3_19 : Cond.fieldLink RX3 19 RX3 "size" "I" ∈ gT := (gT_at 266 (by decide +kernel) rfl)
theorem fw_X3_28 : Cond.fieldLink RX3 28 RX3 "wayTold" "I" ∈ gT := (gT_at 267 (by decide +kernel) rfl)
theorem fw_X6_11 : Cond.fieldLink RX6 11 RX6 "shelves" "[LSomebodyWill$Shelf;" ∈ gT := (gT_at 278 (by decide +kernel) rfl)
theorem fw_X6_18 : Cond.fieldLink RX6 18 RX6 "tape" "LSomebodyWill$Reader;" ∈ gT := (gT_at 279 (by decide +kernel) rfl)
theorem fw_X6_25 : Cond.fieldLink RX6 25 RX6 "town" "LSomebodyWill$Town;" ∈ gT := (gT_at 280 (by decide +kernel) rfl)
theorem fw_X6_29 : Cond.fieldLink RX6 29 RX6 "kept" "LSomebodyWill$Town;" ∈ gT := (gT_at 281 (by decide +kernel) rfl)
theorem fw_X6_35 : Cond.fieldLink RX6 35 RX6 "trial" "LSomebodyWill$Street;" ∈ gT := (gT_at 282 (by decide +kernel) rfl)
theorem fw_X6_42 : Cond.fieldLink RX6 42 RX6 "course" "LSomebodyWill$Course;" ∈ gT := (gT_at 283 (by decide +kernel) rfl)
theorem fw_X6_46 : Cond.fieldLink RX6 46 RX6 "refused" "[I" ∈ gT := (gT_at 284 (by decide +kernel) rfl)
theorem fw_X6_362 : Cond.fieldLink RX6 362 RX6 "isKept" "Z" ∈ gT := (gT_at 285 (by decide +kernel) rfl)
theorem fw_J0_38 : Cond.fieldLink RJ0 38 RJ0 "COMPACT_STRINGS" "Z" ∈ gT := (gT_at 390 (by decide +kernel) rfl)
theorem fw_J2_44 : Cond.fieldLink RJ2 44 RJ2 "$assertionsDisabled" "Z" ∈ gT := (gT_at 424 (by decide +kernel) rfl)
theorem fw_J2_59 : Cond.fieldLink RJ2 59 RJ2 "HI_BYTE_SHIFT" "I" ∈ gT := (gT_at 426 (by decide +kernel) rfl)
theorem fw_J2_63 : Cond.fieldLink RJ2 63 RJ2 "LO_BYTE_SHIFT" "I" ∈ gT := (gT_at 428 (by decide +kernel) rfl)
theorem fw_J0_9 : Cond.fieldLink RJ0 9 RJ0 "value" "[B" ∈ gT := (gT_at 906 (by decide +kernel) rfl)
theorem fw_J0_15 : Cond.fieldLink RJ0 15 RJ0 "coder" "B" ∈ gT := (gT_at 907 (by decide +kernel) rfl)
theorem cl_L_18 : Cond.classLink RL 18 "SomebodyWill" ∈ gT := (gT_at 93 (by decide +kernel) rfl)
theorem in_X6 : Cond.instantiable RX6 8 ∈ gT := (gT_at 94 (by decide +kernel) rfl)
theorem cl_X6_9 : Cond.classLink RX6 9 "SomebodyWill$Shelf" ∈ gT := (gT_at 101 (by decide +kernel) rfl)
theorem cl_X6_15 : Cond.classLink RX6 15 "SomebodyWill$Reader" ∈ gT := (gT_at 103 (by decide +kernel) rfl)
theorem in_X1 : Cond.instantiable RX1 6 ∈ gT := (gT_at 104 (by decide +kernel) rfl)
theorem cl_X6_22 : Cond.classLink RX6 22 "SomebodyWill$Town" ∈ gT := (gT_at 131 (by decide +kernel) rfl)
theorem in_X5 : Cond.instantiable RX5 5 ∈ gT := (gT_at 132 (by decide +kernel) rfl)
theorem cl_X5_9 : Cond.classLink RX5 9 "SomebodyWill$Street" ∈ gT := (gT_at 137 (by decide +kernel) rfl)
theorem cl_X5_21 : Cond.classLink RX5 21 "SomebodyWill$Search" ∈ gT := (gT_at 139 (by decide +kernel) rfl)
theorem in_X2 : Cond.instantiable RX2 6 ∈ gT := (gT_at 140 (by decide +kernel) rfl)
theorem cl_X2_9 : Cond.classLink RX2 9 "SomebodyWill$Street" ∈ gT := (gT_at 145 (by decide +kernel) rfl)
theorem in_X4 : Cond.instantiable RX4 10 ∈ gT := (gT_at 146 (by decide +kernel) rfl)
theorem cl_X6_32 : Cond.classLink RX6 32 "SomebodyWill$Street" ∈ gT := (gT_at 233 (by decide +kernel) rfl)
theorem cl_X6_39 : Cond.classLink RX6 39 "SomebodyWill$Course" ∈ gT := (gT_at 235 (by decide +kernel) rfl)
theorem in_X0 : Cond.instantiable RX0 4 ∈ gT := (gT_at 236 (by decide +kernel) rfl)
theorem in_X3 : Cond.instantiable RX3 4 ∈ gT := (gT_at 258 (by decide +kernel) rfl)
theorem mi_X0_init : gM yX0_init cX0_init 1 none 0 := ⟨(gT_at 239 (by decide +kernel) rfl), (gT_at 84 (by decide +kernel) rfl), by decide +kernel, by decide +kernel, by decide +kernel⟩
theorem mj_X0_init : Cond.instanceMethod yX0_init ∈ gT := (gT_at 238 (by decide +kernel) rfl)
theorem mi_X1_init : gM yX1_init cX1_init 1 none 0 := ⟨(gT_at 107 (by decide +kernel) rfl), (gT_at 80 (by decide +kernel) rfl), by decide +kernel, by decide +kernel, by decide +kernel⟩
theorem mj_X1_init : Cond.instanceMethod yX1_init ∈ gT := (gT_at 106 (by decide +kernel) rfl)
theorem mi_X2_init : gM yX2_init cX2_init 1 none 0 := ⟨(gT_at 143 (by decide +kernel) rfl), (gT_at 82 (by decide +kernel) rfl), by decide +kernel, by decide +kernel, by decide +kernel⟩
theorem mj_X2_init : Cond.instanceMethod yX2_init ∈ gT := (gT_at 142 (by decide +kernel) rfl)
theorem mi_X3_init : gM yX3_init cX3_init 1 none 0 := ⟨(gT_at 261 (by decide +kernel) rfl), (gT_at 85 (by decide +kernel) rfl), by decide +kernel, by decide +kernel, by decide +kernel⟩
theorem mj_X3_init : Cond.instanceMethod yX3_init ∈ gT := (gT_at 260 (by decide +kernel) rfl)
theorem mi_X4_init : gM yX4_init cX4_init 1 none 0 := ⟨(gT_at 149 (by decide +kernel) rfl), (gT_at 83 (by decide +kernel) rfl), by decide +kernel, by decide +kernel, by decide +kernel⟩
theorem mj_X4_init : Cond.instanceMethod yX4_init ∈ gT := (gT_at 148 (by decide +kernel) rfl)
theorem mi_X5_init : gM yX5_init cX5_init 2 none 0 := ⟨(gT_at 135 (by decide +kernel) rfl), (gT_at 81 (by decide +kernel) rfl), by decide +kernel, by decide +kernel, by decide +kernel⟩
theorem mj_X5_init : Cond.instanceMethod yX5_init ∈ gT := (gT_at 134 (by decide +kernel) rfl)
theorem mi_X6_init : gM yX6_init cX6_init 2 none 0 := ⟨(gT_at 97 (by decide +kernel) rfl), (gT_at 79 (by decide +kernel) rfl), by decide +kernel, by decide +kernel, by decide +kernel⟩
theorem mj_X6_init : Cond.instanceMethod yX6_init ∈ gT := (gT_at 96 (by decide +kernel) rfl)
theorem ii_X0 : Cond.initialized RX0 ∈ gT := (gT_at 84 (by decide +kernel) rfl)
theorem ii_X1 : Cond.initialized RX1 ∈ gT := (gT_at 80 (by decide +kernel) rfl)
theorem ii_X2 : Cond.initialized RX2 ∈ gT := (gT_at 82 (by decide +kernel) rfl)
theorem ii_X3 : Cond.initialized RX3 ∈ gT := (gT_at 85 (by decide +kernel) rfl)
theorem ii_X4 : Cond.initialized RX4 ∈ gT := (gT_at 83 (by decide +kernel) rfl)
theorem ii_X5 : Cond.initialized RX5 ∈ gT := (gT_at 81 (by decide +kernel) rfl)
theorem ii_X6 : Cond.initialized RX6 ∈ gT := (gT_at 79 (by decide +kernel) rfl)
/-! ===== making: the cells come one behind the other ===== -/
def M0 : Mem := (fun j i => if kd j = 3 ∧ i = 1 then -1 else if kd j = 5 ∧ i = 4 then 1 else if kd j = 7 ∧ i = 21 then 1 else if kd j = 7 ∧ (i = 22 ∨ i = 25) then -1 else 0, fun _ _ => 0)
theorem M0_arr {a : Nat} (h : 100 ≤ kd a) : M0.1 a = fun _ => 0 := by
  funext i
  show (if kd a = 3 ∧ i = 1 then (-1 : Int32) else if kd a = 5 ∧ i = 4 then 1 else if kd a = 7 ∧ i = 21 then 1 else if kd a = 7 ∧ (i = 22 ∨ i = 25) then -1 else 0) = 0
  rw [if_neg (by omega), if_neg (by omega), if_neg (by omega), if_neg (by omega)]
def gV (z : gZ) (ov : Nat → va_E) (n : Nat) (H : Heap) : Prop := (∀ j, j < n → va_at z.2.1 vwCl (gad z j, ov j) H) ∧ H.size = z.1 + n ∧ ∀ j, gad z j = z.1 + j
theorem gV_ext {z : gZ} {ov ov2 : Nat → va_E} {n : Nat} {H : Heap} (h : gV z ov n H) (e : ∀ j, j < n → ov2 j = ov j) : gV z ov2 n H := ⟨fun j hj => by rw [e j hj]; exact h.1 j hj, h.2⟩
theorem gV_push {z : gZ} {ov : Nat → va_E} {n : Nat} {H H1 : Heap} (h : gV z ov n H) (z1 : H1.size = H.size + 1) (o1 : ∀ q : Nat, q < H.size → H1[q]? = H[q]?) (e : va_at z.2.1 vwCl (gad z n, ov n) H1) : gV z ov (n + 1) H1 := by
  refine ⟨fun j hj => ?_, by rw [z1, h.2.1]; omega, h.2.2⟩
  rcases Nat.lt_or_ge j n with q | q
  · exact (h.1 j q).kept (o1 _ ((h.1 j q).lt))
  · rw [show j = n by omega]; exact e
theorem gV_step {z : gZ} {ov ov2 : Nat → va_E} {n k : Nat} {H H1 : Heap} (h : gV z ov n H) (z1 : H1.size = H.size) (oq : ∀ q : Nat, q ≠ gad z k → H1[q]? = H[q]?) (e : va_at z.2.1 vwCl (gad z k, ov2 k) H1) (ho : ∀ j, j ≠ k → ov2 j = ov j) : gV z ov2 n H1 := by
  refine ⟨fun j hj => ?_, by rw [z1]; exact h.2.1, h.2.2⟩
  by_cases q : j = k
  · subst q; exact e
  · rw [ho j q]
    refine (h.1 j hj).kept (oq _ ?_)
    show gad z j ≠ gad z k
    rw [h.2.2 j, h.2.2 k]; omega
theorem gV_A {z : gZ} {ov : Nat → va_E} {n : Nat} {H : Heap} (h : gV z ov n H) (j : Nat) : gA z (gad z j) := by
  show z.1 ≤ gad z j
  rw [h.2.2 j]; omega
theorem gV_W {z : gZ} {M : Mem} {H : Heap} (h : gV z (cellOf z M) (gn z) H) : gW z M H := by
  have at' : ∀ (i : Nat) (p : Nat × va_E), (wsF (gad z) (cellOf z M) (gn z))[i]? = some p → i < gn z ∧ p = (gad z i, cellOf z M i) := by
    intro i p hp
    have hi : i < gn z := by
      have := (List.getElem?_eq_some_iff.mp hp).1
      simpa [wsF] using this
    rw [wsF_at hi rfl] at hp
    exact ⟨hi, (Option.some.inj hp).symm⟩
  refine ⟨fun i p hp => ?_, fun i j p q hp hq e => ?_, fun i p hp => ?_⟩
  · obtain ⟨hi, rfl⟩ := at' i p hp
    exact h.1 i hi
  · obtain ⟨hi, rfl⟩ := at' i p hp
    obtain ⟨hj, rfl⟩ := at' j q hq
    have e : gad z i = gad z j := e
    rw [h.2.2 i, h.2.2 j] at e; omega
  · obtain ⟨hi, rfl⟩ := at' i p hp
    exact gV_A h i
theorem gW_at {z : gZ} {M : Mem} {H : Heap} (h : gW z M H) {j : Nat} (hj : j < gn z) : va_at z.2.1 vwCl (gad z j, cellOf z M j) H := h.1 j _ (wsF_at hj rfl)
def gPv (z : gZ) (ov : Nat → va_E) (n : Nat) (av : List Value) : Array Value → State → Prop := va_Pc av (fun s => gV z ov n s.heap ∧ gK z s)
def CtN (l : Launch) (z : gZ) (y : MethodName) (cc : ByteArray) (nL : Nat) (rm : Room) (av : List Value) (ov : Nat → va_E) (n : Nat) (ov2 : Nat → va_E) (n2 mc ms : Nat) : Prop :=
  Met l y (.code y cc nL none :: gT) rm (gPv z ov n av) (va_Qv (fun (_ : Unit) => True) (fun _ t => gV z ov2 n2 t.heap) (gA z)) mc ms (gA z)
theorem CtN_of {l : Launch} {z : gZ} {y : MethodName} {cc : ByteArray} {nL n mc ms : Nat} {rm : Room} {av : List Value} {ov : Nat → va_E} {Qc : Array Value → State → Outcome → State → Prop} (hy : plainName y.cls = true) (hn : (lg_sl av).length ≤ nL)
    (body : ∀ (p : Program) (e : Env) (s : State) (m : MethodId) (below : List Frame) (meth : Method) (c : Code) (ls : Array Slot), gX p m c cc nL s av.toArray y.cls z → meth.sig.returnType = none → meth.locks = false → meth.name = y.name → gV z ov n s.heap → va_S (gA z) s.heap s.heap [] → lv_has ls nL (lv_args 0 av) → W p l e rm s m av.toArray below meth c s.heap [] 0 0 (MQ below Qc av.toArray s mc ms (gA z)) (F0 m 0 ls [])) : Met l y (.code y cc nL none :: gT) rm (gPv z ov n av) Qc mc ms (gA z) := by
  refine Met.ofW (cc := cc) (maxL := nL) (ret := none) hy rfl ?_
  intro p e s m args below meth c s₁ B hml hv
  obtain ⟨rfl, hG, hK⟩ := hv
  have hts := atoms_spec (ws := .code y cc nL none :: gT) B.pre
  have hl := lv_entry av hn
  rw [lg_entry_eq]
  exact body p e s m below meth c _ ⟨B.exec, B.bytes, hml, findClass_of_methodNamed B.named, fun w hw => hts w (List.mem_cons_of_mem _ hw), hK⟩ B.returns B.notSynchronized (name_of_methodNamed B.named B.method).1 hG va_S.rf hl
section RROWS
variable {p : Program} {l : Launch} {e : Env} {R : Room} {s : State} {m : MethodId} {args : Array Value} {below : List Frame} {meth : Method} {c : Code} {H : Heap} {locs : List Loc} {cells slots : Nat} {Q : State → Prop}
variable {cc : ByteArray} {nL pc n : Nat} {ls : Array Slot} {rest : List Value} {own : String} {z : gZ} {ov : Nat → va_E}
theorem r_S (X : gX p m c cc nL s args own z) (hS : va_S (gA z) s.heap H locs) {H1 : Heap} (z1 : H.size ≤ H1.size) (o1 : ∀ q : Nat, q < H.size → H1[q]? = H[q]?) : va_S (gA z) s.heap H1 locs :=
  ⟨Nat.le_trans hS.1 z1, fun x h1 h2 => (o1 x (Nat.lt_of_lt_of_le h1 hS.1)).trans (hS.2.1 x h1 h2), hS.2.2⟩
theorem r_obj (X : gX p m c cc nL s args own z) {index a : Nat} (hlk : Cond.methodLink own index objectInit ∈ gT) (hl : ls.size = nL) (hf : 1 ≤ R.frames) (hlo : (rest.map fun v => v.category).sum + 12 ≤ R.locals) (hdg : decode cc pc = .ok (.invokespecial index, 3))
    (kk : W p l e R s m args below meth c H locs cells slots Q (F0 m (pc + 3) ls rest)) : W p l e R s m args below meth c H locs cells slots Q (F0 m pc ls (.ref a :: rest)) := by
  obtain ⟨hx, hb, hml, hown, hts, hK⟩ := X
  refine W.objInit hx hb hown (hts _ hlk) (hts _ oi_im) (hts _ oi_co) rfl (hl.trans hml.symm) rfl hdg hf ?_ kk
  show 2 * 0 + _ + 12 ≤ _
  omega
theorem r_new (X : gX p m c cc nL s args own z) (hV : gV z ov n H) (hS : va_S (gA z) s.heap H locs) {ci N index : Nat} {C : String} {T : u_T} {fs : List Value} (ty : Nat → FieldType) (hty : ∀ k, k < N → parseFieldDescriptor (T k).2.2.1 = some (ty k)) (hc : vwCl[ci]? = some (C, T, N)) (hin : ∀ w ∈ u_ws C T N, w ∈ gT) (hcl : Cond.classLink own index C ∈ gT) (hi : Cond.instantiable C N ∈ gT) (hini : Cond.initialized C ∈ gT) (hov : ov n = .inr (ci, fs)) (hfs : ∀ j, j < N → defaultValue (ty j) = vp_V fs j) (hcells : cells + 1 ≤ R.cells) (hslots : slots + N ≤ R.slots) (hdg : decode cc pc = .ok (.new index, 3))
    (kk : ∀ H1 : Heap, gV z ov (n + 1) H1 → va_S (gA z) s.heap H1 locs → W p l e R s m args below meth c H1 locs (cells + 1) (slots + N) Q (F0 m (pc + 3) ls (.ref (gad z n) :: rest))) : W p l e R s m args below meth c H locs cells slots Q (F0 m pc ls rest) := by
  have X0 := X
  obtain ⟨hx, hb, hml, hown, hts, hK⟩ := X
  have hKn := hK.1.1 ci _ hc
  refine W.newcK hx hb hown (hts _ hcl) (hts _ hi) (hts _ hini) rfl hdg hcells hslots hKn.2.1 rfl fun H1 kC hkC e1 z1 o1 => ?_
  have ea : gad z n = H.size := by rw [hV.2.2 n, hV.2.1]
  rw [← ea]
  refine kk H1 (gV_push hV z1 o1 ?_) (r_S X0 hS (by omega) o1)
  rw [hov, ea]
  exact ⟨_, hc, (u_born ty hts hin hKn hkC e1 hty).to hfs⟩
theorem r_newI (X : gX p m c cc nL s args own z) (hV : gV z ov n H) (hS : va_S (gA z) s.heap H locs) {i : Int32} {N : Nat} (hov : ov n = .inl (gca z 0, N, .inl (fun _ => 0))) (hn : ¬ i < 0) (hN : i.toNatClampNeg = N) (hby : N * 4 ≤ 536870912) (hcells : cells + 1 ≤ R.cells) (hslots : slots + N ≤ R.slots) (hdg : decode cc pc = .ok (.newarray .int, 2))
    (kk : ∀ H1 : Heap, gV z ov (n + 1) H1 → va_S (gA z) s.heap H1 locs → W p l e R s m args below meth c H1 locs (cells + 1) (slots + N) Q (F0 m (pc + 2) ls (.ref (gad z n) :: rest))) : W p l e R s m args below meth c H locs cells slots Q (F0 m pc ls (.int i :: rest)) := by
  refine va_newaK X.1 X.2.1 (X.2.2.2.2.1 _ ar_int) rfl hdg rfl hn hN hby hcells hslots rfl fun H1 cA e1 z1 o1 hAr hNm => ?_
  have ea : gad z n = H.size := by rw [hV.2.2 n, hV.2.1]
  have ec : some cA = some (gca z 0) := hNm.symm.trans (X.2.2.2.2.2.1.2 0 _ rfl).2
  cases ec
  rw [← ea]
  refine kk H1 (gV_push hV z1 o1 ?_) (r_S X hS (by omega) o1)
  rw [hov, ea]
  exact e1
theorem r_newJ (X : gX p m c cc nL s args own z) (hV : gV z ov n H) (hS : va_S (gA z) s.heap H locs) {i : Int32} {N : Nat} (hov : ov n = .inl (gca z 1, N, .inr (.inl (fun _ => 0)))) (hn : ¬ i < 0) (hN : i.toNatClampNeg = N) (hby : N * 8 ≤ 536870912) (hcells : cells + 1 ≤ R.cells) (hslots : slots + N ≤ R.slots) (hdg : decode cc pc = .ok (.newarray .long, 2))
    (kk : ∀ H1 : Heap, gV z ov (n + 1) H1 → va_S (gA z) s.heap H1 locs → W p l e R s m args below meth c H1 locs (cells + 1) (slots + N) Q (F0 m (pc + 2) ls (.ref (gad z n) :: rest))) : W p l e R s m args below meth c H locs cells slots Q (F0 m pc ls (.int i :: rest)) := by
  refine va_newaK X.1 X.2.1 (X.2.2.2.2.1 _ ar_long) rfl hdg rfl hn hN hby hcells hslots rfl fun H1 cA e1 z1 o1 hAr hNm => ?_
  have ea : gad z n = H.size := by rw [hV.2.2 n, hV.2.1]
  have ec : some cA = some (gca z 1) := hNm.symm.trans (X.2.2.2.2.2.1.2 1 _ rfl).2
  cases ec
  rw [← ea]
  refine kk H1 (gV_push hV z1 o1 ?_) (r_S X hS (by omega) o1)
  rw [hov, ea]
  exact e1
theorem r_newR (X : gX p m c cc nL s args own z) (hV : gV z ov n H) (hS : va_S (gA z) s.heap H locs) {i : Int32} {N index t0 : Nat} {C : String} {cA : ClassId} (ht : (gty z)[t0]? = some (cA, .object C)) (hao : (Cond.arrayOver (.object C)).before #[] s = true) (hcl : Cond.classLink own index C ∈ gT) (hov : ov n = .inl (cA, N, .inr (.inr (.inr (.inr (fun _ => none)))))) (hn : ¬ i < 0) (hN : i.toNatClampNeg = N) (hby : N * 4 ≤ 536870912) (hcells : cells + 1 ≤ R.cells) (hslots : slots + N ≤ R.slots) (hdg : decode cc pc = .ok (.anewarray index, 3))
    (kk : ∀ H1 : Heap, gV z ov (n + 1) H1 → va_S (gA z) s.heap H1 locs → W p l e R s m args below meth c H1 locs (cells + 1) (slots + N) Q (F0 m (pc + 3) ls (.ref (gad z n) :: rest))) : W p l e R s m args below meth c H locs cells slots Q (F0 m pc ls (.int i :: rest)) := by
  subst hN
  refine W.anew X.1 X.2.1 X.2.2.2.1 (X.2.2.2.2.1 _ hcl) (va_AO.use hao) rfl hdg rfl hn hby hcells hslots fun cB kA comp f1 f2 f3 f4 => ?_
  generalize hH1 : H.push ({ cls := cB, slots := Array.replicate i.toNatClampNeg .null, vm := .none } : Cell) = H1
  have z1 : H1.size = H.size + 1 := by rw [← hH1, Array.size_push]
  have e1 : H1[H.size]? = some (arrV cB i.toNatClampNeg (fun _ => .null)) := by rw [← hH1, Array.getElem?_push_size, ← arrV_new]
  have o1 : ∀ q : Nat, q < H.size → H1[q]? = H[q]? := fun q hq => by rw [← hH1, Array.getElem?_push, if_neg (Nat.ne_of_lt hq)]
  have ea : gad z n = H.size := by rw [hV.2.2 n, hV.2.1]
  obtain ⟨-, -, -, -, -, g4⟩ := (X.2.2.2.2.2.1.2 t0 _ ht).2
  have ec : some cB = some cA := f1.symm.trans g4
  cases ec
  rw [← ea]
  refine kk H1 (gV_push hV z1 o1 ?_) (r_S X hS (by omega) o1)
  rw [hov, ea]
  show H1[H.size]? = some (vp_cell _ _)
  rw [vp_cell_q]
  exact e1
theorem r_putF (X : gX p m c cc nL s args own z) (hV : gV z ov n H) (hS : va_S (gA z) s.heap H locs) {ov2 : Nat → va_E} {a ci N index : Nat} {T : u_T} {fs : List Value} {v : Value} {ty : FieldType} (ty0 : Nat → FieldType) (hty : ∀ k, k < N → parseFieldDescriptor (T k).2.2.1 = some (ty0 k)) (hnm : ∀ a, a < N → ∀ b, b < N → a ≠ b → (T a).2.1 ≠ (T b).2.1) (hin2 : meth.name = "<init>") (ha : a < n) (hcell : ov a = .inr (ci, fs)) (hc : vwCl[ci]? = some (own, T, N)) (hin : ∀ w ∈ u_ws own T N, w ∈ gT) (k : Nat) (hk : k < N) (hT : (T k).1 = own) (hlk : Cond.fieldLink own index own (T k).2.1 (T k).2.2.1 ∈ gT) (hd : parseFieldDescriptor (T k).2.2.1 = some ty) (hn : narrow ty v = v) (hfit : fits ty v = true) (hl : k < fs.length)
    (hset : ov2 a = .inr (ci, fs.set k v)) (hoth : ∀ b, b ≠ a → ov2 b = ov b) (hdg : decode cc pc = .ok (.putfield index, 3))
    (kk : ∀ (H1 : Heap) (locs1 : List Loc), gV z ov2 n H1 → va_S (gA z) s.heap H1 locs1 → W p l e R s m args below meth c H1 locs1 cells slots Q (F0 m (pc + 3) ls rest)) : W p l e R s m args below meth c H locs cells slots Q (F0 m pc ls (v :: .ref (gad z a) :: rest)) := by
  have hA := gV_A hV a
  obtain ⟨hx, hb, hml, hown, hts, hK⟩ := X
  have hap := va_apart (own := own) hts hin ty0 hty hnm hK.1 hc
  have h9 := hV.1 a ha
  rw [hcell] at h9
  obtain ⟨r, h1, cell, q1, q2, q3, q4⟩ := h9
  have hr : r = (own, T, N) := Option.some.inj (h1.symm.trans hc)
  subst hr
  obtain ⟨hSl, hfc, kC, hkC, hkind⟩ := hK.1.1 ci _ hc
  obtain ⟨cf, kf, fi, f, hi, hsl⟩ := hSl k hk
  have hst := (u_facts hfc hkC (u_lays hts hin hk) hi).1
  have hi2 : s.fieldFound? own (T k).2.1 (T k).2.2.1 = some (cf, kf, fi, f) := by rw [← hT]; exact hi
  have fin : ∀ H' : Heap, H'[gad z a]? = some (cell.setSlot f.slot v) → H'.size = H.size → (∀ q, q ≠ gad z a → H'[q]? = H[q]?) → W p l e R s m args below meth c H' (locs ++ [⟨gad z a, f.slot⟩]) cells slots Q (F0 m (pc + 3) ls rest) := by
    intro H' e1 e2 e3
    rw [hsl] at e1
    refine kk H' _ (gV_step (k := a) hV e2 e3 ?_ hoth) (hS.put e2 e3 hA)
    rw [hset]
    exact ⟨_, hc, t_OB.to (V := updV (vp_V fs) k v) ⟨_, e1, q2, q3, t_set q4 hap hk v⟩ (fun j _ => vp_updV_set hl v j)⟩
  have hlay := hts _ (hin _ (u_in_lay hk))
  unfold u_lay at hlay
  by_cases hfin : (T k).2.2.2 = true
  · rw [if_pos hfin] at hlay
    have hcf : m.cls = cf := by
      obtain ⟨_, _, c', _, _, _, -, -, hf', -, -, -, hown2, -⟩ := Cond.laysFinal_spec hlay
      have e1 : c' = cf := by have := hi.symm.trans hf'; simp at this; exact this.1.symm
      rw [hT] at hown2
      rw [← e1]; exact Option.some.inj (hown.symm.trans hown2)
    have h6 := u_fits hfc hkC hkind (Or.inr hlay) hi hd hn hfit
    exact W.putFinK hx hb hown (hts _ hlk) hi2 hst hcf hin2 (by rw [q2]; exact h6) q1 q3 (by rw [hsl]; exact k2_hasslot (q4 k hk)) rfl rfl hdg fin
  · rw [if_neg hfin] at hlay
    have h6 := u_store hfc hkC hkind hlay hi hd hn hfit
    exact W.putK hx hb (f := f) ⟨hown, hts _ hlk, ⟨_, _, _, hi2⟩, hst⟩ (by rw [q2]; exact h6) q1 q3 (by rw [hsl]; exact k2_hasslot (q4 k hk)) rfl rfl hdg fin
theorem r_get (X : gX p m c cc nL s args own z) (hV : gV z ov n H) {a ci N index : Nat} {C : String} {T : u_T} {fs : List Value} {v : Value} (ha : a < n) (hcell : ov a = .inr (ci, fs)) (hc : vwCl[ci]? = some (C, T, N)) (hin : ∀ w ∈ u_ws C T N, w ∈ gT) (k : Nat) (hk : k < N) (hT : (T k).1 = C) (hlk : Cond.fieldLink own index C (T k).2.1 (T k).2.2.1 ∈ gT) (hv : fs[k]? = some v) (hdg : decode cc pc = .ok (.getfield index, 3))
    (kk : W p l e R s m args below meth c H locs cells slots Q (F0 m (pc + 3) ls (v :: rest))) : W p l e R s m args below meth c H locs cells slots Q (F0 m pc ls (.ref (gad z a) :: rest)) := by
  obtain ⟨hx, hb, hml, hown, hts, hK⟩ := X
  have hP : va_P z.2.1 vwCl [(gad z a, .inr (ci, fs))] H := fun i q hq => by
    have hi : i < 1 := (List.getElem?_eq_some_iff.mp hq).1
    rw [show i = 0 by omega] at hq
    cases hq
    rw [← hcell]; exact hV.1 a ha
  exact va_get hx hb hts hin hown hK.1 hP 0 rfl hc k hk (hts _ hlk) (fun x q => by rw [hT] at q; exact q) hv hdg kk
theorem r_aast (X : gX p m c cc nL s args own z) (hV : gV z ov n H) (hS : va_S (gA z) s.heap H locs) {ov2 : Nat → va_E} {a b ci N t0 : Nat} {cA : ClassId} {q : vw_C} {vs : List Value} {f : Nat → Option Nat} {i : Int32} (ha : a < n) (hb2 : b < n) (hcell : ov a = .inl (cA, N, .inr (.inr (.inr (.inr f))))) (hob : ov b = .inr (ci, vs)) (hc : vwCl[ci]? = some q) (ht : (gty z)[t0]? = some (cA, .object q.1)) (hin : vp_in i N)
    (hset : ov2 a = .inl (cA, N, .inr (.inr (.inr (.inr (va_up f i.toNatClampNeg (some (gad z b)))))))) (hoth : ∀ j, j ≠ a → ov2 j = ov j) (hdg : decode cc pc = .ok (.aastore, 1))
    (kk : ∀ (H1 : Heap) (locs1 : List Loc), gV z ov2 n H1 → va_S (gA z) s.heap H1 locs1 → W p l e R s m args below meth c H1 locs1 cells slots Q (F0 m (pc + 1) ls rest)) : W p l e R s m args below meth c H locs cells slots Q (F0 m pc ls (.ref (gad z b) :: .int i :: .ref (gad z a) :: rest)) := by
  have hA := gV_A hV a
  obtain ⟨hx, hb, hml, hown, hts, hK⟩ := X
  have hlt : i.toNatClampNeg < N := Nat.not_le.mp fun q => hin (Or.inr q)
  have h0 : ¬ i < 0 := fun q => hin (Or.inl q)
  have h9 := hV.1 b hb2
  rw [hob] at h9
  obtain ⟨r', hr', cellV, g1, g2, g3, -⟩ := h9
  have h8 := hV.1 a ha
  rw [hcell] at h8
  have h8 : H[gad z a]? = some (vp_cell cA (N, .inr (.inr (.inr (.inr f))))) := h8
  have hcls := (hK.1.1 ci q hc).2
  obtain ⟨kA, comp, k1, k2, k3, -⟩ := (hK.1.2 t0 _ ht).2
  have hcomp : comp = z.2.1.1 ci := Option.some.inj (k3.symm.trans hcls.1)
  subst hcomp
  obtain ⟨kC, hkC, -⟩ := hcls.2
  refine W.aast hx hb h8 (fun q h => by cases h) (fun h => by cases h) k1 k2 rfl hkC ⟨h0, by show _ < (arrV _ _ _).slots.size; rw [arrV_size]; exact hlt⟩ g1 (fun q h => by rw [g3] at h; cases h) (by rw [g2]; exact hkC) (by rw [g2]; exact va_assign hcls) rfl rfl hdg fun H1 e z1 oq => ?_
  refine kk H1 _ (gV_step (k := a) hV z1 oq ?_ hoth) (hS.put z1 oq hA)
  rw [hset]
  show H1[gad z a]? = some (vp_cell _ _)
  rw [e, vp_cell_q, vp_cell_q, arrV_store]
  congr 2
  funext j
  by_cases hq : j = i.toNatClampNeg
  · subst hq
    simp [updV, va_up, va_rf]
  · simp [updV, va_up, hq]
theorem gPv_blind (z : gZ) (ov : Nat → va_E) (n : Nat) (av : List Value) : FrameBlind (gPv z ov n av) := fun a U g mk q => ⟨q.1, q.2.1, gK_vm (u := U) (U := U.calling g mk a) rfl rfl q.2.2⟩
theorem r_cI {y : MethodName} {bytes : ByteArray} {maxL nn index b n2 mc ms : Nat} {rm : Room} {av st : List Value} {ov2 : Nat → va_E} (X : gX p m c cc nL s args own z) (hV : gV z ov n H) (hS : va_S (gA z) s.heap H locs) (hM : CtN l z y bytes maxL rm (.ref b :: av) ov n ov2 n2 mc ms) (hm : gM y bytes maxL none nn) (him : Cond.instanceMethod y ∈ gT) (hy1 : y.name = "<init>") (hlk : gML own index y) (hn : av.length = nn) (hrm : rm.cells = mc ∧ rm.slots = ms ∧ rm.frames + 1 ≤ R.frames ∧ 8 + (maxL + 11) + rm.locals ≤ R.locals) (hcs : cells + mc ≤ R.cells ∧ slots + ms ≤ R.slots) (hl : ls.size = nL) (hro : (rest.map fun v => v.category).sum ≤ 8) (hst : st = av.reverse ++ .ref b :: rest) (hdg : decode cc pc = .ok (.invokespecial index, 3))
    (kk : ∀ (H1 : Heap) (locs1 : List Loc), gV z ov2 n2 H1 → va_S (gA z) s.heap H1 locs1 → W p l e R s m args below meth c H1 locs1 (cells + mc) (slots + ms) Q (F0 m (pc + 3) ls rest)) : W p l e R s m args below meth c H locs cells slots Q (F0 m pc ls st) := by
  obtain ⟨hcode, hini, hd1, hd2, hd3⟩ := hm
  have hlen : ∀ sig, parseMethodDescriptor y.desc = some sig → nn = sig.parameters.length := fun sig h => by
    rw [h] at hd3; exact (Option.some.inj hd3).symm
  have hG0 : GoodIn gT (.code y bytes maxL none :: gT) := fun w hw => by
    rcases List.mem_cons.mp hw with rfl | h
    · exact ⟨hcode, gT_good _ hcode⟩
    · exact ⟨h, gT_good _ h⟩
  obtain ⟨hx, hb, hml, hown, hts, hK⟩ := X
  have hp : PreS s H (gPv z ov n (.ref b :: av)) (.ref b :: av) := ⟨gPv_blind z ov n _, fun U hU hW => ⟨rfl, by rw [hU]; exact hV, gK_call hS hU hW hK⟩⟩
  have run : va_Run p l e R s m args below meth c H locs cells slots mc ms (F0 m pc ls st) rest (va_Qv (fun (_ : Unit) => True) (fun _ t => gV z ov2 n2 t.heap) (gA z) (Value.ref b :: av).toArray) (gA z) := by
    rcases hlk with h | ⟨host, h⟩
    · exact va_runI (n := nn) ⟨hx, hb, hml, hown, hts⟩ hM ⟨⟨hrm.1, hrm.2.1, hrm.2.2.1, hrm.2.2.2, pay_in hts hG0, List.mem_cons_self, hts _ hcode, hts _ hini, ⟨hd1, hd2⟩, hlen, hts _ h⟩, hy1, hts _ him⟩ hp rfl hn hl hst (lv_room hro) hdg hcs
    · exact va_runIN (n := nn) (host := host) ⟨hx, hb, hml, hown, hts⟩ hM ⟨⟨⟨hrm.1, hrm.2.1, hrm.2.2.1, hrm.2.2.2, pay_in hts hG0, List.mem_cons_self⟩, hts _ hcode, hts _ hini, ⟨hd1, hd2⟩, hlen, va_Nw.use rfl (hK.2.1 _ h)⟩, hy1, hts _ him⟩ hp rfl hn hl hst (lv_room hro) hdg hcs
  exact va_callv run hS (fun q _ h => h) (fun q h => h) (fun _ t H1 locs1 ht _ _ hB _ _ hS1 => kk H1 locs1 (by rw [← ht]; exact hB) hS1)
theorem r_vret {mc ms : Nat} (X : gX p m c cc nL s args own z) (hr : meth.sig.returnType = none) (hlk : meth.locks = false) (hV : gV z ov n H) (hS : va_S (gA z) s.heap H locs) (hdg : decode cc pc = .ok (.return_, 1)) : W p l e R s m args below meth c H locs mc ms (MQ below (va_Qv (fun (_ : Unit) => True) (fun _ t => gV z ov n t.heap) (gA z)) args s mc ms (gA z)) (F0 m pc ls []) :=
  W.vret X.1 X.2.1 hr (fun t ht _ => ⟨⟨(), rfl, trivial, show gV z ov n t.heap by rw [ht]; exact hV⟩, hS.F ht⟩) hS.2.2 hdg hlk
theorem arrV_congr {cA : ClassId} {N : Nat} {f g : Nat → Value} (h : ∀ i, i < N → f i = g i) : arrV cA N f = arrV cA N g := by
  unfold arrV
  congr 2
  funext j
  exact h j.1 j.2
end RROWS
