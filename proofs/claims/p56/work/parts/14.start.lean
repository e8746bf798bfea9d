/-! ===== the world at the law's entry ===== -/
def kkR : List Nat := [25, 51, 59, 63, 68, 73, 62, 78, 86, 91, 30, 40, 42, 44, 46, 48, 50, 52, 54, 56, 58, 60]
def kkO : List Nat := [0, 0, 0, 0, 0, 0, 1, 0, 0, 0, 1, 1, 1, 1, 1, 1, 1, 1, 1, 1, 1, 1]
def tmR (i : Nat) : Term := .string (if kkO.getD i 0 = 0 then "SomebodyWill$Reader" else "SomebodyWillLaw") (kkR.getD i 0)
def tmP : Term := .string "SomebodyWill$Reader" 112
def flL : List Cond := flatC (Jvm.Cond.and given_1 narrow_1)
def pexL : List Nat := [223, 246, 268, 292, 316, 340, 202, 393, 421, 450, 23, 34, 45, 58, 71, 84, 97, 113, 129, 147, 167, 186]
def pcoL : List Nat := [224, 247, 269, 293, 317, 341, 203, 394, 422, 451, 24, 35, 46, 59, 72, 85, 98, 114, 130, 148, 168, 187]
def parL : List Nat := [225, 248, 270, 294, 318, 342, 204, 395, 423, 452, 25, 36, 47, 60, 73, 86, 99, 115, 131, 149, 169, 188]
def pleL : List Nat := [226, 249, 271, 295, 319, 343, 205, 396, 424, 453, 26, 37, 48, 61, 74, 87, 100, 116, 132, 150, 170, 189]
def pelL : List (List Nat) := [[227, 228, 229, 230, 231, 232], [250, 251, 252, 253], [272, 273, 274, 275, 276], [296, 297, 298, 299], [320, 321, 322], [344, 345, 346], [206, 207, 208, 209, 210], [397, 398, 399, 400], [425, 426, 427, 428], [454, 455, 456], [27, 28, 29, 30, 31, 32, 33], [38, 39, 40, 41, 42, 43], [49, 50, 51, 52, 53, 54, 55], [62, 63, 64, 65, 66, 67], [75, 76, 77, 78, 79], [88, 89, 90, 91], [101, 102, 103, 104, 105, 106], [117, 118, 119, 120, 121], [133, 134, 135, 136, 137, 138], [151, 152, 153, 154, 155, 156, 157], [171, 172, 173, 174, 175], [190]]
def pneL : List (List Nat) := [[0, 267, 290, 313, 336, 360, 245, 414, 442, 470, 233, 234, 235, 236, 237, 238, 239, 240, 241, 242, 243, 244], [267, 0, 291, 314, 337, 361, 266, 415, 443, 471, 254, 255, 256, 257, 258, 259, 260, 261, 262, 263, 264, 265], [290, 291, 0, 315, 338, 362, 289, 416, 444, 472, 277, 278, 279, 280, 281, 282, 283, 284, 285, 286, 287, 288], [313, 314, 315, 0, 339, 363, 312, 417, 445, 473, 300, 301, 302, 303, 304, 305, 306, 307, 308, 309, 310, 311], [336, 337, 338, 339, 0, 364, 335, 418, 446, 474, 323, 324, 325, 326, 327, 328, 329, 330, 331, 332, 333, 334], [360, 361, 362, 363, 364, 0, 359, 419, 447, 475, 347, 348, 349, 350, 351, 352, 353, 354, 355, 356, 357, 358], [245, 266, 289, 312, 335, 359, 0, 413, 441, 469, 211, 212, 213, 214, 215, 216, 217, 218, 219, 220, 221, 222], [414, 415, 416, 417, 418, 419, 413, 0, 449, 477, 401, 402, 403, 404, 405, 406, 407, 408, 409, 410, 411, 412], [442, 443, 444, 445, 446, 447, 441, 449, 0, 478, 429, 430, 431, 432, 433, 434, 435, 436, 437, 438, 439, 440], [470, 471, 472, 473, 474, 475, 469, 477, 478, 0, 457, 458, 459, 460, 461, 462, 463, 464, 465, 466, 467, 468], [233, 254, 277, 300, 323, 347, 211, 401, 429, 457, 0, 44, 56, 68, 80, 92, 107, 122, 139, 158, 176, 191], [234, 255, 278, 301, 324, 348, 212, 402, 430, 458, 44, 0, 57, 69, 81, 93, 108, 123, 140, 159, 177, 192], [235, 256, 279, 302, 325, 349, 213, 403, 431, 459, 56, 57, 0, 70, 82, 94, 109, 124, 141, 160, 178, 193], [236, 257, 280, 303, 326, 350, 214, 404, 432, 460, 68, 69, 70, 0, 83, 95, 110, 125, 142, 161, 179, 194], [237, 258, 281, 304, 327, 351, 215, 405, 433, 461, 80, 81, 82, 83, 0, 96, 111, 126, 143, 162, 180, 195], [238, 259, 282, 305, 328, 352, 216, 406, 434, 462, 92, 93, 94, 95, 96, 0, 112, 127, 144, 163, 181, 196], [239, 260, 283, 306, 329, 353, 217, 407, 435, 463, 107, 108, 109, 110, 111, 112, 0, 128, 145, 164, 182, 197], [240, 261, 284, 307, 330, 354, 218, 408, 436, 464, 122, 123, 124, 125, 126, 127, 128, 0, 146, 165, 183, 198], [241, 262, 285, 308, 331, 355, 219, 409, 437, 465, 139, 140, 141, 142, 143, 144, 145, 146, 0, 166, 184, 199], [242, 263, 286, 309, 332, 356, 220, 410, 438, 466, 158, 159, 160, 161, 162, 163, 164, 165, 166, 0, 185, 200], [243, 264, 287, 310, 333, 357, 221, 411, 439, 467, 176, 177, 178, 179, 180, 181, 182, 183, 184, 185, 0, 201], [244, 265, 288, 311, 334, 358, 222, 412, 440, 468, 191, 192, 193, 194, 195, 196, 197, 198, 199, 200, 201, 0]]
theorem fl_at {args : Array Value} {s : State} (h : (Jvm.Cond.and given_1 narrow_1).before args s = true) (i : Nat) {w : Cond} (e : flL[i]? = some w) : w.before args s = true := flat_of_before _ h _ (List.mem_of_getElem? e)
theorem f_ex : ∀ i, i < 22 → flL[pexL.getD i 0]? = some (Cond.exactly (tmR i) "java/lang/String") := by decide +kernel
theorem f_co : ∀ i, i < 22 → flL[pcoL.getD i 0]? = some (Cond.eq (.field (tmR i) "java/lang/String" "coder" "B") (.int 0)) := by decide +kernel
theorem f_ar : ∀ i, i < 22 → flL[parL.getD i 0]? = some (Cond.arrayOf (.field (tmR i) "java/lang/String" "value" "[B") .byte) := by decide +kernel
theorem f_le : ∀ i, i < 22 → flL[pleL.getD i 0]? = some (Cond.eq (.length (.field (tmR i) "java/lang/String" "value" "[B")) (.int (Int32.ofNat (lenS.getD i 0)))) := by decide +kernel
theorem f_el : ∀ i, i < 22 → ∀ j, j < lenS.getD i 0 → flL[(pelL.getD i []).getD j 0]? = some (Cond.eq (.elem (.field (tmR i) "java/lang/String" "value" "[B") (.int (Int32.ofNat j))) (.int ((bytS.getD i []).getD j 0))) := by decide +kernel
theorem f_ne : ∀ i, i < 22 → ∀ j, j < 22 → i ≠ j → (flL[(pneL.getD i []).getD j 0]? = some (Cond.not (Cond.eq (tmR i) (tmR j))) ∨ flL[(pneL.getD i []).getD j 0]? = some (Cond.not (Cond.eq (tmR j) (tmR i)))) := by decide +kernel
theorem f_eq : flL[386]? = some (Cond.eq (tmR 6) tmP) := by decide +kernel
theorem f_le31 : ∀ i, i < 22 → lenS.getD i 0 < 2 ^ 31 := by decide +kernel
theorem st_str {args : Array Value} {s : State} {A : Nat → Prop} (h : (Jvm.Cond.and given_1 narrow_1).before args s = true) (hA : ∀ a : Nat, a < s.heap.size → ¬ A a) : ∃ sk sv : Nat → Nat, vk_S 22 lenS bytS sk sv A s s.heap ∧ (∀ i, i < 22 → (tmR i).eval args s none [] s = some (.ref (sk i))) ∧ tmP.eval args s none [] s = some (.ref (sk 6)) := by
  obtain ⟨sk, sv, h1, h2⟩ := vk_Sof (args := args) (s := s) (N := 22) (tm := tmR) (len := lenS) (byt := bytS) (A := A) f_le31 (fun i hi => fl_at h _ (f_ex i hi)) (fun i hi => fl_at h _ (f_co i hi)) (fun i hi => fl_at h _ (f_ar i hi)) (fun i hi => fl_at h _ (f_le i hi)) (fun i hi j hj => fl_at h _ (f_el i hi j hj)) (fun i j hi hj q => (f_ne i hi j hj q).imp (fun e => fl_at h _ e) (fun e => fl_at h _ e)) hA
  exact ⟨sk, sv, h1, h2, va_eqR (fl_at h _ f_eq) (h2 6 (by decide))⟩
theorem st_arr {args : Array Value} {s : State} {ty : FieldType} (h : (Cond.arrayClass ty).before args s = true) : ∃ cA, ArrOfT s cA ty ∧ s.vm.findClass ("[" ++ ty.toString) = some cA := by
  obtain ⟨c, k, comp, h1, h2, h3⟩ := Cond.arrayClass_spec h
  exact ⟨c, fun n z => ⟨fun k2 hk => by simp [arrV] at hk, k, h2, comp, h3⟩, h1⟩
theorem st_ao {args : Array Value} {s : State} {C : String} (h : (Cond.arrayOver (.object C)).before args s = true) : ∃ cA, ArrOfT s cA (.object C) ∧ va_RA s cA (.object C) := by
  obtain ⟨comp, c, k, h1, -, h2, h3, h4⟩ := Cond.arrayOver_spec h
  exact ⟨c, fun n z => ⟨fun k2 hk => by simp [arrV] at hk, k, h2, comp, h3⟩, k, comp, h2, h3, h1, h4⟩
theorem st_aa {args : Array Value} {s : State} {t : FieldType} (h : (Cond.arrayOver (.array t)).before args s = true) : ∃ cA, ArrOfT s cA (.array t) ∧ s.vm.findClass ("[" ++ (FieldType.array t).toString) = some cA := by
  obtain ⟨comp, c, k, h1, h2, h3, h4⟩ := Cond.arrayOver_specA h
  exact ⟨c, fun n z => ⟨fun k2 hk => by simp [arrV] at hk, k, h2, comp, h3⟩, h4⟩
theorem lw_gT {w : Cond} (h : w ∈ gT) : w ∈ lw_tbl := (List.mem_filter.mp h).1
theorem lw_gN {w : Cond} (h : w ∈ gN) : w ∈ lw_tbl := (List.mem_filter.mp h).1
set_option maxRecDepth 20000 in
theorem st_all {args : Array Value} {s : State} {b L : Nat} {xs : Nat → Int32} (hX : va_X b L xs s s.heap) (hbl : b < s.heap.size) (hts : ∀ w ∈ lw_tbl, w.before args s = true) (h : (Jvm.Cond.and given_1 narrow_1).before args s = true) : ∃ (D : va_G) (ca : Nat → ClassId) (sk sv : Nat → Nat), ∀ n, gK (s.heap.size, D, ca, (fun j => s.heap.size + j), n, sk, sv, b, L, xs) s := by
  have hgT : ∀ w ∈ gT, w.before args s = true := fun w hw => hts w (lw_gT hw)
  obtain ⟨c0, i0, k0⟩ := u_known (n := 4) hgT layX0 (hgT _ in_X0)
  obtain ⟨c1, i1, k1⟩ := u_known (n := 6) hgT layX1 (hgT _ in_X1)
  obtain ⟨c2, i2, k2⟩ := u_known (n := 6) hgT layX2 (hgT _ in_X2)
  obtain ⟨c3, i3, k3⟩ := u_known (n := 4) hgT layX3 (hgT _ in_X3)
  obtain ⟨c4, i4, k4⟩ := u_known (n := 10) hgT layX4 (hgT _ in_X4)
  obtain ⟨c5, i5, k5⟩ := u_known (n := 5) hgT layX5 (hgT _ in_X5)
  obtain ⟨c6, i6, k6⟩ := u_known (n := 8) hgT layX6 (hgT _ in_X6)
  obtain ⟨a0, p0, q0⟩ := st_arr (hgT _ ar_int)
  obtain ⟨a1, p1, q1⟩ := st_arr (hgT _ ar_long)
  have w2 : (Cond.arrayOver (.object RX4)).before args s = true := (hts _ (List.mem_of_getElem? (i := 138) (by decide +kernel)))
  have w3 : (Cond.arrayOver (.object RX3)).before args s = true := (hts _ (List.mem_of_getElem? (i := 102) (by decide +kernel)))
  obtain ⟨a2, p2, q2⟩ := st_ao w2
  obtain ⟨a3, p3, q3⟩ := st_ao w3
  have hA : ∀ a : Nat, a < s.heap.size → ¬ (fun q : Nat => s.heap.size ≤ q) a := fun a h => Nat.not_le.mpr h
  obtain ⟨sk, sv, e1, e2, e3⟩ := st_str (A := fun q : Nat => s.heap.size ≤ q) h hA
  refine ⟨(fun c => match c with | 0 => c0 | 1 => c1 | 2 => c2 | 3 => c3 | 4 => c4 | 5 => c5 | _ => c6, fun c => match c with | 0 => i0 | 1 => i1 | 2 => i2 | 3 => i3 | 4 => i4 | 5 => i5 | _ => i6), fun k => match k with | 0 => a0 | 1 => a1 | 2 => a2 | _ => a3, sk, sv, fun n => ⟨⟨fun c q hq => ?_, fun k q hk => ?_⟩, fun w hw => va_Nw.of (gN_on w hw) (hts w (lw_gN hw)), ⟨Nat.le_refl _, hbl, hX⟩, fun t ht => ?_, e1, ?_, ?_, ?_⟩⟩
  · match c, hq with
    | 0, hq => obtain rfl := Option.some.inj hq; exact k0
    | 1, hq => obtain rfl := Option.some.inj hq; exact k1
    | 2, hq => obtain rfl := Option.some.inj hq; exact k2
    | 3, hq => obtain rfl := Option.some.inj hq; exact k3
    | 4, hq => obtain rfl := Option.some.inj hq; exact k4
    | 5, hq => obtain rfl := Option.some.inj hq; exact k5
    | 6, hq => obtain rfl := Option.some.inj hq; exact k6
    | c + 7, hq => cases hq
  · match k, hk with
    | 0, hk => obtain rfl := Option.some.inj hk; exact ⟨p0, q0⟩
    | 1, hk => obtain rfl := Option.some.inj hk; exact ⟨p1, q1⟩
    | 2, hk => obtain rfl := Option.some.inj hk; exact ⟨p2, q2⟩
    | 3, hk => obtain rfl := Option.some.inj hk; exact ⟨p3, q3⟩
    | k + 4, hk => cases hk
  · simp only [aoL, List.mem_cons, List.not_mem_nil, or_false] at ht
    rcases ht with rfl | rfl
    · exact w3
    · exact w2
  · refine List.forall_mem_cons.mpr ⟨vk_R.of (A := args) (hts (Cond.stringRef "SomebodyWillLaw" 30 "people ") (List.mem_of_getElem? (i := 378) (by decide +kernel))) (e2 10 (by decide)), ?_⟩
    refine List.forall_mem_cons.mpr ⟨vk_R.of (A := args) (hts (Cond.stringRef "SomebodyWillLaw" 40 ";cost ") (List.mem_of_getElem? (i := 441) (by decide +kernel))) (e2 11 (by decide)), ?_⟩
    refine List.forall_mem_cons.mpr ⟨vk_R.of (A := args) (hts (Cond.stringRef "SomebodyWillLaw" 42 ";worth ") (List.mem_of_getElem? (i := 442) (by decide +kernel))) (e2 12 (by decide)), ?_⟩
    refine List.forall_mem_cons.mpr ⟨vk_R.of (A := args) (hts (Cond.stringRef "SomebodyWillLaw" 44 ";more ") (List.mem_of_getElem? (i := 443) (by decide +kernel))) (e2 13 (by decide)), ?_⟩
    refine List.forall_mem_cons.mpr ⟨vk_R.of (A := args) (hts (Cond.stringRef "SomebodyWillLaw" 46 ";ring") (List.mem_of_getElem? (i := 444) (by decide +kernel))) (e2 14 (by decide)), ?_⟩
    refine List.forall_mem_cons.mpr ⟨vk_R.of (A := args) (hts (Cond.stringRef "SomebodyWillLaw" 48 ";all") (List.mem_of_getElem? (i := 445) (by decide +kernel))) (e2 15 (by decide)), ?_⟩
    refine List.forall_mem_cons.mpr ⟨vk_R.of (A := args) (hts (Cond.stringRef "SomebodyWillLaw" 50 ";must ") (List.mem_of_getElem? (i := 446) (by decide +kernel))) (e2 16 (by decide)), ?_⟩
    refine List.forall_mem_cons.mpr ⟨vk_R.of (A := args) (hts (Cond.stringRef "SomebodyWillLaw" 52 ";one ") (List.mem_of_getElem? (i := 447) (by decide +kernel))) (e2 17 (by decide)), ?_⟩
    refine List.forall_mem_cons.mpr ⟨vk_R.of (A := args) (hts (Cond.stringRef "SomebodyWillLaw" 54 " cost ") (List.mem_of_getElem? (i := 448) (by decide +kernel))) (e2 18 (by decide)), ?_⟩
    refine List.forall_mem_cons.mpr ⟨vk_R.of (A := args) (hts (Cond.stringRef "SomebodyWillLaw" 56 " worth ") (List.mem_of_getElem? (i := 449) (by decide +kernel))) (e2 19 (by decide)), ?_⟩
    refine List.forall_mem_cons.mpr ⟨vk_R.of (A := args) (hts (Cond.stringRef "SomebodyWillLaw" 58 ";tie ") (List.mem_of_getElem? (i := 450) (by decide +kernel))) (e2 20 (by decide)), ?_⟩
    refine List.forall_mem_cons.mpr ⟨vk_R.of (A := args) (hts (Cond.stringRef "SomebodyWillLaw" 60 " ") (List.mem_of_getElem? (i := 451) (by decide +kernel))) (e2 21 (by decide)), ?_⟩
    refine List.forall_mem_cons.mpr ⟨vk_R.of (A := args) (hts (Cond.stringRef "SomebodyWillLaw" 62 "price") (List.mem_of_getElem? (i := 452) (by decide +kernel))) (e2 6 (by decide)), ?_⟩
    refine List.forall_mem_cons.mpr ⟨vk_R.of (A := args) (hts (Cond.stringRef "SomebodyWill$Reader" 25 "people") (List.mem_of_getElem? (i := 472) (by decide +kernel))) (e2 0 (by decide)), ?_⟩
    refine List.forall_mem_cons.mpr ⟨vk_R.of (A := args) (hts (Cond.stringRef "SomebodyWill$Reader" 51 "cost") (List.mem_of_getElem? (i := 502) (by decide +kernel))) (e2 1 (by decide)), ?_⟩
    refine List.forall_mem_cons.mpr ⟨vk_R.of (A := args) (hts (Cond.stringRef "SomebodyWill$Reader" 59 "worth") (List.mem_of_getElem? (i := 508) (by decide +kernel))) (e2 2 (by decide)), ?_⟩
    refine List.forall_mem_cons.mpr ⟨vk_R.of (A := args) (hts (Cond.stringRef "SomebodyWill$Reader" 63 "more") (List.mem_of_getElem? (i := 509) (by decide +kernel))) (e2 3 (by decide)), ?_⟩
    refine List.forall_mem_cons.mpr ⟨vk_R.of (A := args) (hts (Cond.stringRef "SomebodyWill$Reader" 68 "one") (List.mem_of_getElem? (i := 514) (by decide +kernel))) (e2 4 (by decide)), ?_⟩
    refine List.forall_mem_cons.mpr ⟨vk_R.of (A := args) (hts (Cond.stringRef "SomebodyWill$Reader" 73 "tie") (List.mem_of_getElem? (i := 527) (by decide +kernel))) (e2 5 (by decide)), ?_⟩
    refine List.forall_mem_cons.mpr ⟨vk_R.of (A := args) (hts (Cond.stringRef "SomebodyWill$Reader" 112 "price") (List.mem_of_getElem? (i := 532) (by decide +kernel))) e3, ?_⟩
    refine List.forall_mem_cons.mpr ⟨vk_R.of (A := args) (hts (Cond.stringRef "SomebodyWill$Reader" 78 "must") (List.mem_of_getElem? (i := 545) (by decide +kernel))) (e2 7 (by decide)), ?_⟩
    refine List.forall_mem_cons.mpr ⟨vk_R.of (A := args) (hts (Cond.stringRef "SomebodyWill$Reader" 86 "ring") (List.mem_of_getElem? (i := 554) (by decide +kernel))) (e2 8 (by decide)), ?_⟩
    refine List.forall_mem_cons.mpr ⟨vk_R.of (A := args) (hts (Cond.stringRef "SomebodyWill$Reader" 91 "all") (List.mem_of_getElem? (i := 564) (by decide +kernel))) (e2 9 (by decide)), ?_⟩
    exact fun _ h => absurd h List.not_mem_nil
  · exact va_Zof (args := args) (hts (Cond.laysStatic "java/lang/String" "COMPACT_STRINGS" "Z") (List.mem_of_getElem? (i := 391) (by decide +kernel))) (hts (Cond.initialized "java/lang/String") (List.mem_of_getElem? (i := 86) (by decide +kernel))) (va_eqi (fl_at h 4 (w := Cond.eq (.static "java/lang/String" "COMPACT_STRINGS" "Z") (.int 1)) (by decide +kernel))) hA
  · exact va_Zqof (args := args) (hts (Cond.laysStatic "jdk/internal/util/Preconditions" "SIOOBE_FORMATTER" "Ljava/util/function/BiFunction;") (List.mem_of_getElem? (i := 407) (by decide +kernel))) (hts (Cond.initialized "jdk/internal/util/Preconditions") (List.mem_of_getElem? (i := 88) (by decide +kernel))) (fl_at h 5 (w := Cond.isRef (.static "jdk/internal/util/Preconditions" "SIOOBE_FORMATTER" "Ljava/util/function/BiFunction;")) (by decide +kernel)) hA
