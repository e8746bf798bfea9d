/-! ===== the world at the law's entry ===== -/
def kkR : List Nat := [25, 51, 59, 63, 68, 73, 112, 78, 86, 91]
def kkM : List Nat := [216, 187, 188, 191, 192, 197, 211, 202, 204, 210]
def tmR (i : Nat) : Term := .string "SomebodyWill$Reader" (kkR.getD i 0)
def tmM (i : Nat) : Term := .string "SomebodyWillModel" (kkM.getD i 0)
def flL : List Cond := flatC (Jvm.Cond.and given_1 narrow_1)
def pexL : List Nat := [25, 35, 44, 55, 66, 77, 89, 104, 119, 135]
def pcoL : List Nat := [26, 36, 45, 56, 67, 78, 90, 105, 120, 136]
def parL : List Nat := [27, 37, 46, 57, 68, 79, 91, 106, 121, 137]
def pleL : List Nat := [28, 38, 47, 58, 69, 80, 92, 107, 122, 138]
def peqL : List Nat := [161, 180, 201, 222, 243, 265, 290, 315, 341, 367]
def pelL : List (List Nat) := [[29, 30, 31, 32, 33, 34], [39, 40, 41, 42], [48, 49, 50, 51, 52], [59, 60, 61, 62], [70, 71, 72], [81, 82, 83], [93, 94, 95, 96, 97], [108, 109, 110, 111], [123, 124, 125, 126], [139, 140, 141]]
def pneL : List (List Nat) := [[0, 43, 53, 63, 73, 84, 98, 112, 127, 142], [43, 0, 54, 64, 74, 85, 99, 113, 128, 143], [53, 54, 0, 65, 75, 86, 100, 114, 129, 144], [63, 64, 65, 0, 76, 87, 101, 115, 130, 145], [73, 74, 75, 76, 0, 88, 102, 116, 131, 146], [84, 85, 86, 87, 88, 0, 103, 117, 132, 147], [98, 99, 100, 101, 102, 103, 0, 118, 133, 148], [112, 113, 114, 115, 116, 117, 118, 0, 134, 149], [127, 128, 129, 130, 131, 132, 133, 134, 0, 150], [142, 143, 144, 145, 146, 147, 148, 149, 150, 0]]
theorem fl_at {args : Array Value} {s : State} (h : (Jvm.Cond.and given_1 narrow_1).before args s = true) (i : Nat) {w : Cond} (e : flL[i]? = some w) : w.before args s = true := flat_of_before _ h _ (List.mem_of_getElem? e)
theorem f_ex : ∀ i, i < 10 → flL[pexL.getD i 0]? = some (Cond.exactly (tmR i) "java/lang/String") := by decide +kernel
theorem f_co : ∀ i, i < 10 → flL[pcoL.getD i 0]? = some (Cond.eq (.field (tmR i) "java/lang/String" "coder" "B") (.int 0)) := by decide +kernel
theorem f_ar : ∀ i, i < 10 → flL[parL.getD i 0]? = some (Cond.arrayOf (.field (tmR i) "java/lang/String" "value" "[B") .byte) := by decide +kernel
theorem f_le : ∀ i, i < 10 → flL[pleL.getD i 0]? = some (Cond.eq (.length (.field (tmR i) "java/lang/String" "value" "[B")) (.int (Int32.ofNat (lenS.getD i 0)))) := by decide +kernel
theorem f_el : ∀ i, i < 10 → ∀ j, j < lenS.getD i 0 → flL[(pelL.getD i []).getD j 0]? = some (Cond.eq (.elem (.field (tmR i) "java/lang/String" "value" "[B") (.int (Int32.ofNat j))) (.int ((bytS.getD i []).getD j 0))) := by decide +kernel
theorem f_ne : ∀ i, i < 10 → ∀ j, j < 10 → i ≠ j → (flL[(pneL.getD i []).getD j 0]? = some (Cond.not (Cond.eq (tmR i) (tmR j))) ∨ flL[(pneL.getD i []).getD j 0]? = some (Cond.not (Cond.eq (tmR j) (tmR i)))) := by decide +kernel
theorem f_eq : ∀ i, i < 10 → flL[peqL.getD i 0]? = some (Cond.eq (tmR i) (tmM i)) := by decide +kernel
theorem f_le31 : ∀ i, i < 10 → lenS.getD i 0 < 2 ^ 31 := by decide +kernel
theorem st_str {args : Array Value} {s : State} {A : Nat → Prop} (h : (Jvm.Cond.and given_1 narrow_1).before args s = true) (hA : ∀ a : Nat, a < s.heap.size → ¬ A a) : ∃ sk sv : Nat → Nat, vk_S 10 lenS bytS sk sv A s s.heap ∧ (∀ i, i < 10 → (tmR i).eval args s none [] s = some (.ref (sk i))) ∧ ∀ i, i < 10 → (tmM i).eval args s none [] s = some (.ref (sk i)) := by
  obtain ⟨sk, sv, h1, h2⟩ := vk_Sof (args := args) (s := s) (N := 10) (tm := tmR) (len := lenS) (byt := bytS) (A := A) f_le31 (fun i hi => fl_at h _ (f_ex i hi)) (fun i hi => fl_at h _ (f_co i hi)) (fun i hi => fl_at h _ (f_ar i hi)) (fun i hi => fl_at h _ (f_le i hi)) (fun i hi j hj => fl_at h _ (f_el i hi j hj)) (fun i j hi hj q => (f_ne i hi j hj q).imp (fun e => fl_at h _ e) (fun e => fl_at h _ e)) hA
  exact ⟨sk, sv, h1, h2, fun i hi => va_eqR (fl_at h _ (f_eq i hi)) (h2 i hi)⟩
theorem st_arr {args : Array Value} {s : State} {ty : FieldType} (h : (Cond.arrayClass ty).before args s = true) : ∃ cA, ArrOfT s cA ty ∧ s.vm.findClass ("[" ++ ty.toString) = some cA := by
  obtain ⟨c, k, comp, h1, h2, h3⟩ := Cond.arrayClass_spec h
  exact ⟨c, fun n z => ⟨fun k2 hk => by simp [arrV] at hk, k, h2, comp, h3⟩, h1⟩
theorem st_ao {args : Array Value} {s : State} {C : String} (h : (Cond.arrayOver (.object C)).before args s = true) : ∃ cA, ArrOfT s cA (.object C) ∧ va_RA s cA (.object C) := by
  obtain ⟨comp, c, k, h1, -, h2, h3, h4⟩ := Cond.arrayOver_spec h
  exact ⟨c, fun n z => ⟨fun k2 hk => by simp [arrV] at hk, k, h2, comp, h3⟩, k, comp, h2, h3, h1, h4⟩
theorem st_aa {args : Array Value} {s : State} {t : FieldType} (h : (Cond.arrayOver (.array t)).before args s = true) : ∃ cA, ArrOfT s cA (.array t) ∧ s.vm.findClass ("[" ++ (FieldType.array t).toString) = some cA := by
  obtain ⟨comp, c, k, h1, h2, h3, h4⟩ := Cond.arrayOver_specA h
  exact ⟨c, fun n z => ⟨fun k2 hk => by simp [arrV] at hk, k, h2, comp, h3⟩, h4⟩
theorem lw_gT {w : Cond} (h : w ∈ gT) : w ∈ lw_tbl := (List.mem_filter.mp h).1
theorem lw_gN {w : Cond} (h : w ∈ gN) : w ∈ lw_tbl := (List.mem_filter.mp h).1
set_option maxRecDepth 20000 in
theorem st_all {args : Array Value} {s : State} (hts : ∀ w ∈ lw_tbl, w.before args s = true) (h : (Jvm.Cond.and given_1 narrow_1).before args s = true) : ∃ (D : va_G) (ca : Nat → ClassId) (sk sv : Nat → Nat), ∀ n, gK (s.heap.size, D, ca, (fun j => s.heap.size + j), n, sk, sv) s := by
  have hgT : ∀ w ∈ gT, w.before args s = true := fun w hw => hts w (lw_gT hw)
  obtain ⟨c0, i0, k0⟩ := u_known (n := 4) hgT layX0 (hgT _ in_X0)
  obtain ⟨c1, i1, k1⟩ := u_known (n := 6) hgT layX1 (hgT _ in_X1)
  obtain ⟨c2, i2, k2⟩ := u_known (n := 6) hgT layX2 (hgT _ in_X2)
  obtain ⟨c3, i3, k3⟩ := u_known (n := 4) hgT layX3 (hgT _ in_X3)
  obtain ⟨c4, i4, k4⟩ := u_known (n := 10) hgT layX4 (hgT _ in_X4)
  obtain ⟨c5, i5, k5⟩ := u_known (n := 5) hgT layX5 (hgT _ in_X5)
  obtain ⟨c6, i6, k6⟩ := u_known (n := 8) hgT layX6 (hgT _ in_X6)
  obtain ⟨c7, i7, k7⟩ := u_known (n := 37) hgT layX7 (hgT _ in_X7)
  obtain ⟨a0, p0, q0⟩ := st_arr (hgT _ ar_int)
  obtain ⟨a1, p1, q1⟩ := st_arr (hgT _ ar_long)
  have w2 : (Cond.arrayOver (.object RX4)).before args s = true := (hts _ (List.mem_of_getElem? (i := 183) (by decide +kernel)))
  have w3 : (Cond.arrayOver (.object RX3)).before args s = true := (hts _ (List.mem_of_getElem? (i := 147) (by decide +kernel)))
  have w4 : (Cond.arrayOver (.array .int)).before args s = true := (hts _ (List.mem_of_getElem? (i := 1062) (by decide +kernel)))
  have w5 : (Cond.arrayOver (.array .long)).before args s = true := (hts _ (List.mem_of_getElem? (i := 1060) (by decide +kernel)))
  obtain ⟨a2, p2, q2⟩ := st_ao w2
  obtain ⟨a3, p3, q3⟩ := st_ao w3
  obtain ⟨a4, p4, q4⟩ := st_aa w4
  obtain ⟨a5, p5, q5⟩ := st_aa w5
  have hA : ∀ a : Nat, a < s.heap.size → ¬ (fun q : Nat => s.heap.size ≤ q) a := fun a h => Nat.not_le.mpr h
  obtain ⟨sk, sv, e1, e2, e3⟩ := st_str (A := fun q : Nat => s.heap.size ≤ q) h hA
  refine ⟨(fun c => match c with | 0 => c0 | 1 => c1 | 2 => c2 | 3 => c3 | 4 => c4 | 5 => c5 | 6 => c6 | _ => c7, fun c => match c with | 0 => i0 | 1 => i1 | 2 => i2 | 3 => i3 | 4 => i4 | 5 => i5 | 6 => i6 | _ => i7), fun k => match k with | 0 => a0 | 1 => a1 | 2 => a2 | 3 => a3 | 4 => a4 | _ => a5, sk, sv, fun n => ⟨⟨fun c q hq => ?_, fun k q hk => ?_⟩, fun w hw => va_Nw.of (gN_on w hw) (hts w (lw_gN hw)), Nat.le_refl _, fun t ht => ?_, e1, ?_, ?_, ?_⟩⟩
  · match c, hq with
    | 0, hq => obtain rfl := Option.some.inj hq; exact k0
    | 1, hq => obtain rfl := Option.some.inj hq; exact k1
    | 2, hq => obtain rfl := Option.some.inj hq; exact k2
    | 3, hq => obtain rfl := Option.some.inj hq; exact k3
    | 4, hq => obtain rfl := Option.some.inj hq; exact k4
    | 5, hq => obtain rfl := Option.some.inj hq; exact k5
    | 6, hq => obtain rfl := Option.some.inj hq; exact k6
    | 7, hq => obtain rfl := Option.some.inj hq; exact k7
    | c + 8, hq => cases hq
  · match k, hk with
    | 0, hk => obtain rfl := Option.some.inj hk; exact ⟨p0, q0⟩
    | 1, hk => obtain rfl := Option.some.inj hk; exact ⟨p1, q1⟩
    | 2, hk => obtain rfl := Option.some.inj hk; exact ⟨p2, q2⟩
    | 3, hk => obtain rfl := Option.some.inj hk; exact ⟨p3, q3⟩
    | 4, hk => obtain rfl := Option.some.inj hk; exact ⟨p4, q4⟩
    | 5, hk => obtain rfl := Option.some.inj hk; exact ⟨p5, q5⟩
    | k + 6, hk => cases hk
  · simp only [aoL, List.mem_cons, List.not_mem_nil, or_false] at ht
    rcases ht with rfl | rfl | rfl | rfl
    · exact w3
    · exact w2
    · exact w4
    · exact w5
  · refine List.forall_mem_cons.mpr ⟨vk_R.of (A := args) (hts (Cond.stringRef "SomebodyWill$Reader" 25 "people") (List.mem_of_getElem? (i := 485) (by decide +kernel))) (e2 0 (by decide)), ?_⟩
    refine List.forall_mem_cons.mpr ⟨vk_R.of (A := args) (hts (Cond.stringRef "SomebodyWill$Reader" 51 "cost") (List.mem_of_getElem? (i := 561) (by decide +kernel))) (e2 1 (by decide)), ?_⟩
    refine List.forall_mem_cons.mpr ⟨vk_R.of (A := args) (hts (Cond.stringRef "SomebodyWill$Reader" 59 "worth") (List.mem_of_getElem? (i := 567) (by decide +kernel))) (e2 2 (by decide)), ?_⟩
    refine List.forall_mem_cons.mpr ⟨vk_R.of (A := args) (hts (Cond.stringRef "SomebodyWill$Reader" 63 "more") (List.mem_of_getElem? (i := 568) (by decide +kernel))) (e2 3 (by decide)), ?_⟩
    refine List.forall_mem_cons.mpr ⟨vk_R.of (A := args) (hts (Cond.stringRef "SomebodyWill$Reader" 68 "one") (List.mem_of_getElem? (i := 573) (by decide +kernel))) (e2 4 (by decide)), ?_⟩
    refine List.forall_mem_cons.mpr ⟨vk_R.of (A := args) (hts (Cond.stringRef "SomebodyWill$Reader" 73 "tie") (List.mem_of_getElem? (i := 586) (by decide +kernel))) (e2 5 (by decide)), ?_⟩
    refine List.forall_mem_cons.mpr ⟨vk_R.of (A := args) (hts (Cond.stringRef "SomebodyWill$Reader" 112 "price") (List.mem_of_getElem? (i := 591) (by decide +kernel))) (e2 6 (by decide)), ?_⟩
    refine List.forall_mem_cons.mpr ⟨vk_R.of (A := args) (hts (Cond.stringRef "SomebodyWill$Reader" 78 "must") (List.mem_of_getElem? (i := 604) (by decide +kernel))) (e2 7 (by decide)), ?_⟩
    refine List.forall_mem_cons.mpr ⟨vk_R.of (A := args) (hts (Cond.stringRef "SomebodyWill$Reader" 86 "ring") (List.mem_of_getElem? (i := 613) (by decide +kernel))) (e2 8 (by decide)), ?_⟩
    refine List.forall_mem_cons.mpr ⟨vk_R.of (A := args) (hts (Cond.stringRef "SomebodyWill$Reader" 91 "all") (List.mem_of_getElem? (i := 626) (by decide +kernel))) (e2 9 (by decide)), ?_⟩
    refine List.forall_mem_cons.mpr ⟨vk_R.of (A := args) (hts (Cond.stringRef "SomebodyWillModel" 216 "people") (List.mem_of_getElem? (i := 1259) (by decide +kernel))) (e3 0 (by decide)), ?_⟩
    refine List.forall_mem_cons.mpr ⟨vk_R.of (A := args) (hts (Cond.stringRef "SomebodyWillModel" 187 "cost") (List.mem_of_getElem? (i := 1282) (by decide +kernel))) (e3 1 (by decide)), ?_⟩
    refine List.forall_mem_cons.mpr ⟨vk_R.of (A := args) (hts (Cond.stringRef "SomebodyWillModel" 188 "worth") (List.mem_of_getElem? (i := 1283) (by decide +kernel))) (e3 2 (by decide)), ?_⟩
    refine List.forall_mem_cons.mpr ⟨vk_R.of (A := args) (hts (Cond.stringRef "SomebodyWillModel" 191 "more") (List.mem_of_getElem? (i := 1284) (by decide +kernel))) (e3 3 (by decide)), ?_⟩
    refine List.forall_mem_cons.mpr ⟨vk_R.of (A := args) (hts (Cond.stringRef "SomebodyWillModel" 192 "one") (List.mem_of_getElem? (i := 1285) (by decide +kernel))) (e3 4 (by decide)), ?_⟩
    refine List.forall_mem_cons.mpr ⟨vk_R.of (A := args) (hts (Cond.stringRef "SomebodyWillModel" 197 "tie") (List.mem_of_getElem? (i := 1286) (by decide +kernel))) (e3 5 (by decide)), ?_⟩
    refine List.forall_mem_cons.mpr ⟨vk_R.of (A := args) (hts (Cond.stringRef "SomebodyWillModel" 211 "price") (List.mem_of_getElem? (i := 1291) (by decide +kernel))) (e3 6 (by decide)), ?_⟩
    refine List.forall_mem_cons.mpr ⟨vk_R.of (A := args) (hts (Cond.stringRef "SomebodyWillModel" 202 "must") (List.mem_of_getElem? (i := 1296) (by decide +kernel))) (e3 7 (by decide)), ?_⟩
    refine List.forall_mem_cons.mpr ⟨vk_R.of (A := args) (hts (Cond.stringRef "SomebodyWillModel" 204 "ring") (List.mem_of_getElem? (i := 1297) (by decide +kernel))) (e3 8 (by decide)), ?_⟩
    refine List.forall_mem_cons.mpr ⟨vk_R.of (A := args) (hts (Cond.stringRef "SomebodyWillModel" 210 "all") (List.mem_of_getElem? (i := 1302) (by decide +kernel))) (e3 9 (by decide)), ?_⟩
    exact fun _ h => absurd h List.not_mem_nil
  · exact va_Zof (args := args) (hts (Cond.laysStatic "java/lang/String" "COMPACT_STRINGS" "Z") (List.mem_of_getElem? (i := 503) (by decide +kernel))) (hts (Cond.initialized "java/lang/String") (List.mem_of_getElem? (i := 133) (by decide +kernel))) (va_eqi (fl_at h 4 (w := Cond.eq (.static "java/lang/String" "COMPACT_STRINGS" "Z") (.int 1)) (by decide +kernel))) hA
  · exact va_Zqof (args := args) (hts (Cond.laysStatic "jdk/internal/util/Preconditions" "SIOOBE_FORMATTER" "Ljava/util/function/BiFunction;") (List.mem_of_getElem? (i := 519) (by decide +kernel))) (hts (Cond.initialized "jdk/internal/util/Preconditions") (List.mem_of_getElem? (i := 135) (by decide +kernel))) (fl_at h 5 (w := Cond.isRef (.static "jdk/internal/util/Preconditions" "SIOOBE_FORMATTER" "Ljava/util/function/BiFunction;")) (by decide +kernel)) hA
