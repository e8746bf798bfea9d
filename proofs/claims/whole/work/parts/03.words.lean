/-! ===== words of the tables ===== -/
def gT : List Cond := lw_tbl.filter goodWord
def nestW : Cond → Bool
  | .methodLinkNest .. => true
  | .fieldLinkNest .. => true
  | _ => false
def gN : List Cond := lw_tbl.filter nestW
theorem gT_at (i : Nat) {w : Cond} (h : lw_tbl[i]? = some w) (hg : goodWord w = true) : w ∈ gT := List.mem_filter.mpr ⟨List.mem_of_getElem? h, hg⟩
theorem gN_at (i : Nat) {w : Cond} (h : lw_tbl[i]? = some w) (hg : nestW w = true) : w ∈ gN := List.mem_filter.mpr ⟨List.mem_of_getElem? h, hg⟩
theorem gT_good : ∀ w ∈ gT, (w.onTables && w.keeps) = true ∨ ∃ ty, w = .arrayClass ty := fun _ h => good_of_word (List.mem_filter.mp h).2
theorem gN_on : ∀ w ∈ gN, w.onTables = true := by
  intro w h
  have h2 := (List.mem_filter.mp h).2
  cases w <;> first | rfl | cases h2
theorem gN_warm {s U : State} (hW : s.WarmedH U.vm) : ∀ w ∈ gN, va_Nw w s → va_Nw w U := by
  intro w h
  have h2 := (List.mem_filter.mp h).2
  cases w with
  | methodLinkNest a i x h => exact va_Nw.warmM hW
  | fieldLinkNest a i b n d h => exact va_Nw.warmF hW
  | _ => cases h2
/-- what a call needs of its callee's words -/
def gM (y : MethodName) (cc : ByteArray) (nL : Nat) (ret : Option FieldType) (n : Nat) : Prop := Cond.code y cc nL ret ∈ gT ∧ Cond.initialized y.cls ∈ gT ∧ y.cls ≠ "java/lang/invoke/MethodHandle" ∧ y.cls ≠ "java/lang/invoke/VarHandle" ∧ (parseMethodDescriptor y.desc).map (fun d => d.parameters.length) = some n
def gMV (y : MethodName) (cc : ByteArray) (nL : Nat) (ret : Option FieldType) (n : Nat) : Prop := gM y cc nL ret n ∧ Cond.instanceMethod y ∈ gT ∧ Cond.selects y.cls y y ∈ gT
def gMS (y : MethodName) (cc : ByteArray) (nL : Nat) (ret : Option FieldType) (n : Nat) : Prop := gM y cc nL ret n ∧ Cond.static y ∈ gT
/-- how a class names a method, or a field: by its own pool, in the nest or not -/
def gML (own : String) (index : Nat) (y : MethodName) : Prop := Cond.methodLink own index y ∈ gT ∨ ∃ host, Cond.methodLinkNest own index y host ∈ gN
def gFL (own : String) (index : Nat) (C n d : String) : Prop := Cond.fieldLink own index C n d ∈ gT ∨ ∃ host, Cond.fieldLinkNest own index C n d host ∈ gN

theorem layX0 : ∀ w ∈ u_ws RX0 TX0 4, w ∈ gT := by
  intro w h
  obtain ⟨k, hk, rfl⟩ := List.mem_map.mp h
  have hk := List.mem_range.mp hk
  by_cases e0 : k = 0
  · subst e0; exact (gT_at 299 (by decide +kernel) rfl)
  by_cases e1 : k = 1
  · subst e1; exact (gT_at 301 (by decide +kernel) rfl)
  by_cases e2 : k = 2
  · subst e2; exact (gT_at 303 (by decide +kernel) rfl)
  by_cases e3 : k = 3
  · subst e3; exact (gT_at 305 (by decide +kernel) rfl)
  omega
theorem layX1 : ∀ w ∈ u_ws RX1 TX1 6, w ∈ gT := by
  intro w h
  obtain ⟨k, hk, rfl⟩ := List.mem_map.mp h
  have hk := List.mem_range.mp hk
  by_cases e0 : k = 0
  · subst e0; exact (gT_at 162 (by decide +kernel) rfl)
  by_cases e1 : k = 1
  · subst e1; exact (gT_at 164 (by decide +kernel) rfl)
  by_cases e2 : k = 2
  · subst e2; exact (gT_at 166 (by decide +kernel) rfl)
  by_cases e3 : k = 3
  · subst e3; exact (gT_at 168 (by decide +kernel) rfl)
  by_cases e4 : k = 4
  · subst e4; exact (gT_at 170 (by decide +kernel) rfl)
  by_cases e5 : k = 5
  · subst e5; exact (gT_at 172 (by decide +kernel) rfl)
  omega
theorem layX2 : ∀ w ∈ u_ws RX2 TX2 6, w ∈ gT := by
  intro w h
  obtain ⟨k, hk, rfl⟩ := List.mem_map.mp h
  have hk := List.mem_range.mp hk
  by_cases e0 : k = 0
  · subst e0; exact (gT_at 250 (by decide +kernel) rfl)
  by_cases e1 : k = 1
  · subst e1; exact (gT_at 252 (by decide +kernel) rfl)
  by_cases e2 : k = 2
  · subst e2; exact (gT_at 254 (by decide +kernel) rfl)
  by_cases e3 : k = 3
  · subst e3; exact (gT_at 256 (by decide +kernel) rfl)
  by_cases e4 : k = 4
  · subst e4; exact (gT_at 258 (by decide +kernel) rfl)
  by_cases e5 : k = 5
  · subst e5; exact (gT_at 260 (by decide +kernel) rfl)
  omega
theorem layX3 : ∀ w ∈ u_ws RX3 TX3 4, w ∈ gT := by
  intro w h
  obtain ⟨k, hk, rfl⟩ := List.mem_map.mp h
  have hk := List.mem_range.mp hk
  by_cases e0 : k = 0
  · subst e0; exact (gT_at 321 (by decide +kernel) rfl)
  by_cases e1 : k = 1
  · subst e1; exact (gT_at 323 (by decide +kernel) rfl)
  by_cases e2 : k = 2
  · subst e2; exact (gT_at 325 (by decide +kernel) rfl)
  by_cases e3 : k = 3
  · subst e3; exact (gT_at 327 (by decide +kernel) rfl)
  omega
theorem layX4 : ∀ w ∈ u_ws RX4 TX4 10, w ∈ gT := by
  intro w h
  obtain ⟨k, hk, rfl⟩ := List.mem_map.mp h
  have hk := List.mem_range.mp hk
  by_cases e0 : k = 0
  · subst e0; exact (gT_at 218 (by decide +kernel) rfl)
  by_cases e1 : k = 1
  · subst e1; exact (gT_at 220 (by decide +kernel) rfl)
  by_cases e2 : k = 2
  · subst e2; exact (gT_at 222 (by decide +kernel) rfl)
  by_cases e3 : k = 3
  · subst e3; exact (gT_at 224 (by decide +kernel) rfl)
  by_cases e4 : k = 4
  · subst e4; exact (gT_at 226 (by decide +kernel) rfl)
  by_cases e5 : k = 5
  · subst e5; exact (gT_at 228 (by decide +kernel) rfl)
  by_cases e6 : k = 6
  · subst e6; exact (gT_at 230 (by decide +kernel) rfl)
  by_cases e7 : k = 7
  · subst e7; exact (gT_at 232 (by decide +kernel) rfl)
  by_cases e8 : k = 8
  · subst e8; exact (gT_at 234 (by decide +kernel) rfl)
  by_cases e9 : k = 9
  · subst e9; exact (gT_at 236 (by decide +kernel) rfl)
  omega
theorem layX5 : ∀ w ∈ u_ws RX5 TX5 5, w ∈ gT := by
  intro w h
  obtain ⟨k, hk, rfl⟩ := List.mem_map.mp h
  have hk := List.mem_range.mp hk
  by_cases e0 : k = 0
  · subst e0; exact (gT_at 273 (by decide +kernel) rfl)
  by_cases e1 : k = 1
  · subst e1; exact (gT_at 275 (by decide +kernel) rfl)
  by_cases e2 : k = 2
  · subst e2; exact (gT_at 277 (by decide +kernel) rfl)
  by_cases e3 : k = 3
  · subst e3; exact (gT_at 279 (by decide +kernel) rfl)
  by_cases e4 : k = 4
  · subst e4; exact (gT_at 281 (by decide +kernel) rfl)
  omega
theorem layX6 : ∀ w ∈ u_ws RX6 TX6 8, w ∈ gT := by
  intro w h
  obtain ⟨k, hk, rfl⟩ := List.mem_map.mp h
  have hk := List.mem_range.mp hk
  by_cases e0 : k = 0
  · subst e0; exact (gT_at 338 (by decide +kernel) rfl)
  by_cases e1 : k = 1
  · subst e1; exact (gT_at 340 (by decide +kernel) rfl)
  by_cases e2 : k = 2
  · subst e2; exact (gT_at 342 (by decide +kernel) rfl)
  by_cases e3 : k = 3
  · subst e3; exact (gT_at 344 (by decide +kernel) rfl)
  by_cases e4 : k = 4
  · subst e4; exact (gT_at 346 (by decide +kernel) rfl)
  by_cases e5 : k = 5
  · subst e5; exact (gT_at 348 (by decide +kernel) rfl)
  by_cases e6 : k = 6
  · subst e6; exact (gT_at 350 (by decide +kernel) rfl)
  by_cases e7 : k = 7
  · subst e7; exact (gT_at 352 (by decide +kernel) rfl)
  omega
theorem layX7 : ∀ w ∈ u_ws RX7 TX7 37, w ∈ gT := by
  intro w h
  obtain ⟨k, hk, rfl⟩ := List.mem_map.mp h
  have hk := List.mem_range.mp hk
  by_cases e0 : k = 0
  · subst e0; exact (gT_at 1100 (by decide +kernel) rfl)
  by_cases e1 : k = 1
  · subst e1; exact (gT_at 1102 (by decide +kernel) rfl)
  by_cases e2 : k = 2
  · subst e2; exact (gT_at 1104 (by decide +kernel) rfl)
  by_cases e3 : k = 3
  · subst e3; exact (gT_at 1106 (by decide +kernel) rfl)
  by_cases e4 : k = 4
  · subst e4; exact (gT_at 1108 (by decide +kernel) rfl)
  by_cases e5 : k = 5
  · subst e5; exact (gT_at 1110 (by decide +kernel) rfl)
  by_cases e6 : k = 6
  · subst e6; exact (gT_at 1112 (by decide +kernel) rfl)
  by_cases e7 : k = 7
  · subst e7; exact (gT_at 1114 (by decide +kernel) rfl)
  by_cases e8 : k = 8
  · subst e8; exact (gT_at 1116 (by decide +kernel) rfl)
  by_cases e9 : k = 9
  · subst e9; exact (gT_at 1118 (by decide +kernel) rfl)
  by_cases e10 : k = 10
  · subst e10; exact (gT_at 1120 (by decide +kernel) rfl)
  by_cases e11 : k = 11
  · subst e11; exact (gT_at 1122 (by decide +kernel) rfl)
  by_cases e12 : k = 12
  · subst e12; exact (gT_at 1124 (by decide +kernel) rfl)
  by_cases e13 : k = 13
  · subst e13; exact (gT_at 1126 (by decide +kernel) rfl)
  by_cases e14 : k = 14
  · subst e14; exact (gT_at 1128 (by decide +kernel) rfl)
  by_cases e15 : k = 15
  · subst e15; exact (gT_at 1130 (by decide +kernel) rfl)
  by_cases e16 : k = 16
  · subst e16; exact (gT_at 1132 (by decide +kernel) rfl)
  by_cases e17 : k = 17
  · subst e17; exact (gT_at 1134 (by decide +kernel) rfl)
  by_cases e18 : k = 18
  · subst e18; exact (gT_at 1136 (by decide +kernel) rfl)
  by_cases e19 : k = 19
  · subst e19; exact (gT_at 1138 (by decide +kernel) rfl)
  by_cases e20 : k = 20
  · subst e20; exact (gT_at 1140 (by decide +kernel) rfl)
  by_cases e21 : k = 21
  · subst e21; exact (gT_at 1142 (by decide +kernel) rfl)
  by_cases e22 : k = 22
  · subst e22; exact (gT_at 1144 (by decide +kernel) rfl)
  by_cases e23 : k = 23
  · subst e23; exact (gT_at 1146 (by decide +kernel) rfl)
  by_cases e24 : k = 24
  · subst e24; exact (gT_at 1148 (by decide +kernel) rfl)
  by_cases e25 : k = 25
  · subst e25; exact (gT_at 1150 (by decide +kernel) rfl)
  by_cases e26 : k = 26
  · subst e26; exact (gT_at 1152 (by decide +kernel) rfl)
  by_cases e27 : k = 27
  · subst e27; exact (gT_at 1154 (by decide +kernel) rfl)
  by_cases e28 : k = 28
  · subst e28; exact (gT_at 1156 (by decide +kernel) rfl)
  by_cases e29 : k = 29
  · subst e29; exact (gT_at 1158 (by decide +kernel) rfl)
  by_cases e30 : k = 30
  · subst e30; exact (gT_at 1160 (by decide +kernel) rfl)
  by_cases e31 : k = 31
  · subst e31; exact (gT_at 1162 (by decide +kernel) rfl)
  by_cases e32 : k = 32
  · subst e32; exact (gT_at 1164 (by decide +kernel) rfl)
  by_cases e33 : k = 33
  · subst e33; exact (gT_at 1166 (by decide +kernel) rfl)
  by_cases e34 : k = 34
  · subst e34; exact (gT_at 1168 (by decide +kernel) rfl)
  by_cases e35 : k = 35
  · subst e35; exact (gT_at 1170 (by decide +kernel) rfl)
  by_cases e36 : k = 36
  · subst e36; exact (gT_at 1172 (by decide +kernel) rfl)
  omega
theorem mt_X0_run : gMV yX0_run cX0_run 5 none 2 := ⟨⟨(gT_at 833 (by decide +kernel) rfl), (gT_at 128 (by decide +kernel) rfl), by decide +kernel, by decide +kernel, by decide +kernel⟩, (gT_at 832 (by decide +kernel) rfl), (gT_at 63 (by decide +kernel) rfl)⟩
theorem mt_X0_roundsBackTo : gMS yX0_roundsBackTo cX0_roundsBackTo 4 (some .int) 2 := ⟨⟨(gT_at 854 (by decide +kernel) rfl), (gT_at 128 (by decide +kernel) rfl), by decide +kernel, by decide +kernel, by decide +kernel⟩, (gT_at 853 (by decide +kernel) rfl)⟩
theorem mt_X0_see : gMV yX0_see cX0_see 2 none 1 := ⟨⟨(gT_at 838 (by decide +kernel) rfl), (gT_at 128 (by decide +kernel) rfl), by decide +kernel, by decide +kernel, by decide +kernel⟩, (gT_at 837 (by decide +kernel) rfl), (gT_at 64 (by decide +kernel) rfl)⟩
theorem mt_X0_isSeen : gMV yX0_isSeen cX0_isSeen 2 (some .boolean) 1 := ⟨⟨(gT_at 851 (by decide +kernel) rfl), (gT_at 128 (by decide +kernel) rfl), by decide +kernel, by decide +kernel, by decide +kernel⟩, (gT_at 850 (by decide +kernel) rfl), (gT_at 67 (by decide +kernel) rfl)⟩
theorem mt_X1_append : gMV yX1_append cX1_append 2 none 1 := ⟨⟨(gT_at 457 (by decide +kernel) rfl), (gT_at 124 (by decide +kernel) rfl), by decide +kernel, by decide +kernel, by decide +kernel⟩, (gT_at 456 (by decide +kernel) rfl), (gT_at 13 (by decide +kernel) rfl)⟩
theorem mt_X1_empty : gMV yX1_empty cX1_empty 1 none 0 := ⟨⟨(gT_at 465 (by decide +kernel) rfl), (gT_at 124 (by decide +kernel) rfl), by decide +kernel, by decide +kernel, by decide +kernel⟩, (gT_at 464 (by decide +kernel) rfl), (gT_at 14 (by decide +kernel) rfl)⟩
theorem mt_X1_readStreet : gMV yX1_readStreet cX1_readStreet 3 (some .boolean) 1 := ⟨⟨(gT_at 477 (by decide +kernel) rfl), (gT_at 124 (by decide +kernel) rfl), by decide +kernel, by decide +kernel, by decide +kernel⟩, (gT_at 476 (by decide +kernel) rfl), (gT_at 16 (by decide +kernel) rfl)⟩
theorem mt_X1_readStatement : gMV yX1_readStatement cX1_readStatement 2 (some .boolean) 1 := ⟨⟨(gT_at 560 (by decide +kernel) rfl), (gT_at 124 (by decide +kernel) rfl), by decide +kernel, by decide +kernel, by decide +kernel⟩, (gT_at 559 (by decide +kernel) rfl), (gT_at 23 (by decide +kernel) rfl)⟩
theorem mt_X1_readForAll : gMV yX1_readForAll cX1_readForAll 2 (some .boolean) 1 := ⟨⟨(gT_at 565 (by decide +kernel) rfl), (gT_at 124 (by decide +kernel) rfl), by decide +kernel, by decide +kernel, by decide +kernel⟩, (gT_at 564 (by decide +kernel) rfl), (gT_at 24 (by decide +kernel) rfl)⟩
theorem mt_X1_readMore : gMV yX1_readMore cX1_readMore 2 (some .boolean) 1 := ⟨⟨(gT_at 572 (by decide +kernel) rfl), (gT_at 124 (by decide +kernel) rfl), by decide +kernel, by decide +kernel, by decide +kernel⟩, (gT_at 571 (by decide +kernel) rfl), (gT_at 25 (by decide +kernel) rfl)⟩
theorem mt_X1_readOne : gMV yX1_readOne cX1_readOne 4 (some .boolean) 1 := ⟨⟨(gT_at 577 (by decide +kernel) rfl), (gT_at 124 (by decide +kernel) rfl), by decide +kernel, by decide +kernel, by decide +kernel⟩, (gT_at 576 (by decide +kernel) rfl), (gT_at 26 (by decide +kernel) rfl)⟩
theorem mt_X1_readTie : gMV yX1_readTie cX1_readTie 5 (some .boolean) 1 := ⟨⟨(gT_at 590 (by decide +kernel) rfl), (gT_at 124 (by decide +kernel) rfl), by decide +kernel, by decide +kernel, by decide +kernel⟩, (gT_at 589 (by decide +kernel) rfl), (gT_at 29 (by decide +kernel) rfl)⟩
theorem mt_X1_readMust : gMV yX1_readMust cX1_readMust 2 (some .boolean) 1 := ⟨⟨(gT_at 608 (by decide +kernel) rfl), (gT_at 124 (by decide +kernel) rfl), by decide +kernel, by decide +kernel, by decide +kernel⟩, (gT_at 607 (by decide +kernel) rfl), (gT_at 33 (by decide +kernel) rfl)⟩
theorem mt_X1_passNumber : gMV yX1_passNumber cX1_passNumber 4 (some .boolean) 2 := ⟨⟨(gT_at 545 (by decide +kernel) rfl), (gT_at 124 (by decide +kernel) rfl), by decide +kernel, by decide +kernel, by decide +kernel⟩, (gT_at 544 (by decide +kernel) rfl), (gT_at 20 (by decide +kernel) rfl)⟩
theorem mt_X1_passWord : gMV yX1_passWord cX1_passWord 2 (some .boolean) 1 := ⟨⟨(gT_at 489 (by decide +kernel) rfl), (gT_at 124 (by decide +kernel) rfl), by decide +kernel, by decide +kernel, by decide +kernel⟩, (gT_at 488 (by decide +kernel) rfl), (gT_at 18 (by decide +kernel) rfl)⟩
theorem mt_X1_isWord : gMV yX1_isWord cX1_isWord 3 (some .boolean) 1 := ⟨⟨(gT_at 493 (by decide +kernel) rfl), (gT_at 124 (by decide +kernel) rfl), by decide +kernel, by decide +kernel, by decide +kernel⟩, (gT_at 492 (by decide +kernel) rfl), (gT_at 19 (by decide +kernel) rfl)⟩
theorem mt_X1_numberAtHand : gMV yX1_numberAtHand cX1_numberAtHand 3 (some .int) 0 := ⟨⟨(gT_at 549 (by decide +kernel) rfl), (gT_at 124 (by decide +kernel) rfl), by decide +kernel, by decide +kernel, by decide +kernel⟩, (gT_at 548 (by decide +kernel) rfl), (gT_at 21 (by decide +kernel) rfl)⟩
theorem mt_X1_advance : gMV yX1_advance cX1_advance 1 none 0 := ⟨⟨(gT_at 481 (by decide +kernel) rfl), (gT_at 124 (by decide +kernel) rfl), by decide +kernel, by decide +kernel, by decide +kernel⟩, (gT_at 480 (by decide +kernel) rfl), (gT_at 17 (by decide +kernel) rfl)⟩
theorem mt_X1_sortOf : gMS yX1_sortOf cX1_sortOf 1 (some .int) 1 := ⟨⟨(gT_at 484 (by decide +kernel) rfl), (gT_at 124 (by decide +kernel) rfl), by decide +kernel, by decide +kernel, by decide +kernel⟩, (gT_at 483 (by decide +kernel) rfl)⟩
theorem mt_X2_start : gMV yX2_start cX2_start 3 none 2 := ⟨⟨(gT_at 1006 (by decide +kernel) rfl), (gT_at 126 (by decide +kernel) rfl), by decide +kernel, by decide +kernel, by decide +kernel⟩, (gT_at 1005 (by decide +kernel) rfl), (gT_at 80 (by decide +kernel) rfl)⟩
theorem mt_X2_become : gMV yX2_become cX2_become 2 none 1 := ⟨⟨(gT_at 1040 (by decide +kernel) rfl), (gT_at 126 (by decide +kernel) rfl), by decide +kernel, by decide +kernel, by decide +kernel⟩, (gT_at 1039 (by decide +kernel) rfl), (gT_at 84 (by decide +kernel) rfl)⟩
theorem mt_X2_isDone : gMV yX2_isDone cX2_isDone 1 (some .boolean) 0 := ⟨⟨(gT_at 1015 (by decide +kernel) rfl), (gT_at 126 (by decide +kernel) rfl), by decide +kernel, by decide +kernel, by decide +kernel⟩, (gT_at 1014 (by decide +kernel) rfl), (gT_at 81 (by decide +kernel) rfl)⟩
theorem mt_X2_advance : gMV yX2_advance cX2_advance 4 (some .int) 1 := ⟨⟨(gT_at 1020 (by decide +kernel) rfl), (gT_at 126 (by decide +kernel) rfl), by decide +kernel, by decide +kernel, by decide +kernel⟩, (gT_at 1019 (by decide +kernel) rfl), (gT_at 82 (by decide +kernel) rfl)⟩
theorem mt_X3_isRow : gMV yX3_isRow cX3_isRow 1 (some .boolean) 0 := ⟨⟨(gT_at 388 (by decide +kernel) rfl), (gT_at 129 (by decide +kernel) rfl), by decide +kernel, by decide +kernel, by decide +kernel⟩, (gT_at 387 (by decide +kernel) rfl), (gT_at 4 (by decide +kernel) rfl)⟩
theorem mt_X3_isWay : gMV yX3_isWay cX3_isWay 1 (some .boolean) 0 := ⟨⟨(gT_at 384 (by decide +kernel) rfl), (gT_at 129 (by decide +kernel) rfl), by decide +kernel, by decide +kernel, by decide +kernel⟩, (gT_at 383 (by decide +kernel) rfl), (gT_at 3 (by decide +kernel) rfl)⟩
theorem mt_X3_wayKind : gMV yX3_wayKind cX3_wayKind 1 (some .int) 0 := ⟨⟨(gT_at 445 (by decide +kernel) rfl), (gT_at 129 (by decide +kernel) rfl), by decide +kernel, by decide +kernel, by decide +kernel⟩, (gT_at 444 (by decide +kernel) rfl), (gT_at 11 (by decide +kernel) rfl)⟩
theorem mt_X3_putRow : gMV yX3_putRow cX3_putRow 3 none 2 := ⟨⟨(gT_at 373 (by decide +kernel) rfl), (gT_at 129 (by decide +kernel) rfl), by decide +kernel, by decide +kernel, by decide +kernel⟩, (gT_at 372 (by decide +kernel) rfl), (gT_at 2 (by decide +kernel) rfl)⟩
theorem mt_X3_putWay : gMV yX3_putWay cX3_putWay 3 none 2 := ⟨⟨(gT_at 428 (by decide +kernel) rfl), (gT_at 129 (by decide +kernel) rfl), by decide +kernel, by decide +kernel, by decide +kernel⟩, (gT_at 427 (by decide +kernel) rfl), (gT_at 8 (by decide +kernel) rfl)⟩
theorem mt_X3_hasPlaces : gMV yX3_hasPlaces cX3_hasPlaces 3 (some .boolean) 2 := ⟨⟨(gT_at 392 (by decide +kernel) rfl), (gT_at 129 (by decide +kernel) rfl), by decide +kernel, by decide +kernel, by decide +kernel⟩, (gT_at 391 (by decide +kernel) rfl), (gT_at 5 (by decide +kernel) rfl)⟩
theorem mt_X3_put : gMV yX3_put cX3_put 4 none 2 := ⟨⟨(gT_at 396 (by decide +kernel) rfl), (gT_at 129 (by decide +kernel) rfl), by decide +kernel, by decide +kernel, by decide +kernel⟩, (gT_at 395 (by decide +kernel) rfl), (gT_at 6 (by decide +kernel) rfl)⟩
theorem mt_X3_told : gMV yX3_told cX3_told 2 (some .long) 1 := ⟨⟨(gT_at 411 (by decide +kernel) rfl), (gT_at 129 (by decide +kernel) rfl), by decide +kernel, by decide +kernel, by decide +kernel⟩, (gT_at 410 (by decide +kernel) rfl), (gT_at 7 (by decide +kernel) rfl)⟩
theorem mt_X3_toldSet : gMV yX3_toldSet cX3_toldSet 3 (some .int) 0 := ⟨⟨(gT_at 432 (by decide +kernel) rfl), (gT_at 129 (by decide +kernel) rfl), by decide +kernel, by decide +kernel, by decide +kernel⟩, (gT_at 431 (by decide +kernel) rfl), (gT_at 9 (by decide +kernel) rfl)⟩
theorem mt_X3_isOfKind : gMV yX3_isOfKind cX3_isOfKind 3 (some .boolean) 1 := ⟨⟨(gT_at 441 (by decide +kernel) rfl), (gT_at 129 (by decide +kernel) rfl), by decide +kernel, by decide +kernel, by decide +kernel⟩, (gT_at 440 (by decide +kernel) rfl), (gT_at 10 (by decide +kernel) rfl)⟩
theorem mt_X3_saidAs : gMV yX3_saidAs cX3_saidAs 2 (some .int) 1 := ⟨⟨(gT_at 449 (by decide +kernel) rfl), (gT_at 129 (by decide +kernel) rfl), by decide +kernel, by decide +kernel, by decide +kernel⟩, (gT_at 448 (by decide +kernel) rfl), (gT_at 12 (by decide +kernel) rfl)⟩
theorem mt_X4_clear : gMV yX4_clear cX4_clear 2 none 1 := ⟨⟨(gT_at 553 (by decide +kernel) rfl), (gT_at 127 (by decide +kernel) rfl), by decide +kernel, by decide +kernel, by decide +kernel⟩, (gT_at 552 (by decide +kernel) rfl), (gT_at 22 (by decide +kernel) rfl)⟩
theorem mt_X4_become : gMV yX4_become cX4_become 2 none 1 := ⟨⟨(gT_at 905 (by decide +kernel) rfl), (gT_at 127 (by decide +kernel) rfl), by decide +kernel, by decide +kernel, by decide +kernel⟩, (gT_at 904 (by decide +kernel) rfl), (gT_at 70 (by decide +kernel) rfl)⟩
theorem mt_X4_hasPerson : gMV yX4_hasPerson cX4_hasPerson 2 (some .boolean) 1 := ⟨⟨(gT_at 585 (by decide +kernel) rfl), (gT_at 127 (by decide +kernel) rfl), by decide +kernel, by decide +kernel, by decide +kernel⟩, (gT_at 584 (by decide +kernel) rfl), (gT_at 28 (by decide +kernel) rfl)⟩
theorem mt_X4_hasPair : gMV yX4_hasPair cX4_hasPair 3 (some .boolean) 2 := ⟨⟨(gT_at 599 (by decide +kernel) rfl), (gT_at 127 (by decide +kernel) rfl), by decide +kernel, by decide +kernel, by decide +kernel⟩, (gT_at 598 (by decide +kernel) rfl), (gT_at 31 (by decide +kernel) rfl)⟩
theorem mt_X4_sets : gMV yX4_sets cX4_sets 1 (some .int) 0 := ⟨⟨(gT_at 706 (by decide +kernel) rfl), (gT_at 127 (by decide +kernel) rfl), by decide +kernel, by decide +kernel, by decide +kernel⟩, (gT_at 705 (by decide +kernel) rfl), (gT_at 46 (by decide +kernel) rfl)⟩
theorem mt_X4_hasSet : gMV yX4_hasSet cX4_hasSet 2 (some .boolean) 1 := ⟨⟨(gT_at 702 (by decide +kernel) rfl), (gT_at 127 (by decide +kernel) rfl), by decide +kernel, by decide +kernel, by decide +kernel⟩, (gT_at 701 (by decide +kernel) rfl), (gT_at 45 (by decide +kernel) rfl)⟩
theorem mt_X4_hasMustsIn : gMV yX4_hasMustsIn cX4_hasMustsIn 2 (some .boolean) 1 := ⟨⟨(gT_at 788 (by decide +kernel) rfl), (gT_at 127 (by decide +kernel) rfl), by decide +kernel, by decide +kernel, by decide +kernel⟩, (gT_at 787 (by decide +kernel) rfl), (gT_at 59 (by decide +kernel) rfl)⟩
theorem mt_X4_isIn : gMS yX4_isIn cX4_isIn 2 (some .boolean) 2 := ⟨⟨(gT_at 624 (by decide +kernel) rfl), (gT_at 127 (by decide +kernel) rfl), by decide +kernel, by decide +kernel, by decide +kernel⟩, (gT_at 623 (by decide +kernel) rfl)⟩
theorem mt_X4_isMust : gMV yX4_isMust cX4_isMust 2 (some .boolean) 1 := ⟨⟨(gT_at 662 (by decide +kernel) rfl), (gT_at 127 (by decide +kernel) rfl), by decide +kernel, by decide +kernel, by decide +kernel⟩, (gT_at 661 (by decide +kernel) rfl), (gT_at 41 (by decide +kernel) rfl)⟩
theorem mt_X4_setMust : gMV yX4_setMust cX4_setMust 4 none 2 := ⟨⟨(gT_at 612 (by decide +kernel) rfl), (gT_at 127 (by decide +kernel) rfl), by decide +kernel, by decide +kernel, by decide +kernel⟩, (gT_at 611 (by decide +kernel) rfl), (gT_at 34 (by decide +kernel) rfl)⟩
theorem mt_X4_value : gMV yX4_value cX4_value 4 none 3 := ⟨⟨(gT_at 581 (by decide +kernel) rfl), (gT_at 127 (by decide +kernel) rfl), by decide +kernel, by decide +kernel, by decide +kernel⟩, (gT_at 580 (by decide +kernel) rfl), (gT_at 27 (by decide +kernel) rfl)⟩
theorem mt_X4_giveWay : gMV yX4_giveWay cX4_giveWay 4 none 3 := ⟨⟨(gT_at 693 (by decide +kernel) rfl), (gT_at 127 (by decide +kernel) rfl), by decide +kernel, by decide +kernel, by decide +kernel⟩, (gT_at 692 (by decide +kernel) rfl), (gT_at 44 (by decide +kernel) rfl)⟩
theorem mt_X4_admit : gMV yX4_admit cX4_admit 6 (some .int) 3 := ⟨⟨(gT_at 710 (by decide +kernel) rfl), (gT_at 127 (by decide +kernel) rfl), by decide +kernel, by decide +kernel, by decide +kernel⟩, (gT_at 709 (by decide +kernel) rfl), (gT_at 47 (by decide +kernel) rfl)⟩
theorem mt_X4_areNear : gMV yX4_areNear cX4_areNear 3 (some .boolean) 2 := ⟨⟨(gT_at 621 (by decide +kernel) rfl), (gT_at 127 (by decide +kernel) rfl), by decide +kernel, by decide +kernel, by decide +kernel⟩, (gT_at 620 (by decide +kernel) rfl), (gT_at 36 (by decide +kernel) rfl)⟩
theorem mt_X4_priceOf : gMV yX4_priceOf cX4_priceOf 3 (some .int) 2 := ⟨⟨(gT_at 675 (by decide +kernel) rfl), (gT_at 127 (by decide +kernel) rfl), by decide +kernel, by decide +kernel, by decide +kernel⟩, (gT_at 674 (by decide +kernel) rfl), (gT_at 42 (by decide +kernel) rfl)⟩
theorem mt_X4_join : gMV yX4_join cX4_join 4 none 3 := ⟨⟨(gT_at 595 (by decide +kernel) rfl), (gT_at 127 (by decide +kernel) rfl), by decide +kernel, by decide +kernel, by decide +kernel⟩, (gT_at 594 (by decide +kernel) rfl), (gT_at 30 (by decide +kernel) rfl)⟩
theorem mt_X4_part : gMV yX4_part cX4_part 3 none 2 := ⟨⟨(gT_at 679 (by decide +kernel) rfl), (gT_at 127 (by decide +kernel) rfl), by decide +kernel, by decide +kernel, by decide +kernel⟩, (gT_at 678 (by decide +kernel) rfl), (gT_at 43 (by decide +kernel) rfl)⟩
theorem mt_X4_priceAt : gMV yX4_priceAt cX4_priceAt 5 none 3 := ⟨⟨(gT_at 603 (by decide +kernel) rfl), (gT_at 127 (by decide +kernel) rfl), by decide +kernel, by decide +kernel, by decide +kernel⟩, (gT_at 602 (by decide +kernel) rfl), (gT_at 32 (by decide +kernel) rfl)⟩
theorem mt_X4_joinNeighbours : gMV yX4_joinNeighbours cX4_joinNeighbours 3 none 0 := ⟨⟨(gT_at 617 (by decide +kernel) rfl), (gT_at 127 (by decide +kernel) rfl), by decide +kernel, by decide +kernel, by decide +kernel⟩, (gT_at 616 (by decide +kernel) rfl), (gT_at 35 (by decide +kernel) rfl)⟩
theorem mt_X4_joinAll : gMV yX4_joinAll cX4_joinAll 3 none 0 := ⟨⟨(gT_at 630 (by decide +kernel) rfl), (gT_at 127 (by decide +kernel) rfl), by decide +kernel, by decide +kernel, by decide +kernel⟩, (gT_at 629 (by decide +kernel) rfl), (gT_at 37 (by decide +kernel) rfl)⟩
theorem mt_X4_ties : gMV yX4_ties cX4_ties 3 (some .int) 0 := ⟨⟨(gT_at 643 (by decide +kernel) rfl), (gT_at 127 (by decide +kernel) rfl), by decide +kernel, by decide +kernel, by decide +kernel⟩, (gT_at 642 (by decide +kernel) rfl), (gT_at 39 (by decide +kernel) rfl)⟩
theorem mt_X4_prices : gMV yX4_prices cX4_prices 3 (some .int) 0 := ⟨⟨(gT_at 653 (by decide +kernel) rfl), (gT_at 127 (by decide +kernel) rfl), by decide +kernel, by decide +kernel, by decide +kernel⟩, (gT_at 652 (by decide +kernel) rfl), (gT_at 40 (by decide +kernel) rfl)⟩
theorem mt_X4_gainOf : gMV yX4_gainOf cX4_gainOf 6 (some .int) 2 := ⟨⟨(gT_at 721 (by decide +kernel) rfl), (gT_at 127 (by decide +kernel) rfl), by decide +kernel, by decide +kernel, by decide +kernel⟩, (gT_at 720 (by decide +kernel) rfl), (gT_at 48 (by decide +kernel) rfl)⟩
theorem mt_X4_goodOf : gMV yX4_goodOf cX4_goodOf 4 (some .int) 1 := ⟨⟨(gT_at 733 (by decide +kernel) rfl), (gT_at 127 (by decide +kernel) rfl), by decide +kernel, by decide +kernel, by decide +kernel⟩, (gT_at 732 (by decide +kernel) rfl), (gT_at 50 (by decide +kernel) rfl)⟩
theorem mt_X4_edge : gMV yX4_edge cX4_edge 4 (some .int) 2 := ⟨⟨(gT_at 751 (by decide +kernel) rfl), (gT_at 127 (by decide +kernel) rfl), by decide +kernel, by decide +kernel, by decide +kernel⟩, (gT_at 750 (by decide +kernel) rfl), (gT_at 53 (by decide +kernel) rfl)⟩
theorem mt_X4_gainByChange : gMV yX4_gainByChange cX4_gainByChange 4 (some .int) 2 := ⟨⟨(gT_at 747 (by decide +kernel) rfl), (gT_at 127 (by decide +kernel) rfl), by decide +kernel, by decide +kernel, by decide +kernel⟩, (gT_at 746 (by decide +kernel) rfl), (gT_at 52 (by decide +kernel) rfl)⟩
theorem mt_X4_wouldChange : gMV yX4_wouldChange cX4_wouldChange 3 (some .boolean) 2 := ⟨⟨(gT_at 846 (by decide +kernel) rfl), (gT_at 127 (by decide +kernel) rfl), by decide +kernel, by decide +kernel, by decide +kernel⟩, (gT_at 845 (by decide +kernel) rfl), (gT_at 66 (by decide +kernel) rfl)⟩
theorem mt_X4_needOf : gMV yX4_needOf cX4_needOf 3 (some .int) 2 := ⟨⟨(gT_at 943 (by decide +kernel) rfl), (gT_at 127 (by decide +kernel) rfl), by decide +kernel, by decide +kernel, by decide +kernel⟩, (gT_at 942 (by decide +kernel) rfl), (gT_at 75 (by decide +kernel) rfl)⟩
theorem mt_X4_firstRestless : gMV yX4_firstRestless cX4_firstRestless 3 (some .int) 1 := ⟨⟨(gT_at 742 (by decide +kernel) rfl), (gT_at 127 (by decide +kernel) rfl), by decide +kernel, by decide +kernel, by decide +kernel⟩, (gT_at 741 (by decide +kernel) rfl), (gT_at 51 (by decide +kernel) rfl)⟩
theorem mt_X4_isRest : gMV yX4_isRest cX4_isRest 2 (some .boolean) 1 := ⟨⟨(gT_at 763 (by decide +kernel) rfl), (gT_at 127 (by decide +kernel) rfl), by decide +kernel, by decide +kernel, by decide +kernel⟩, (gT_at 762 (by decide +kernel) rfl), (gT_at 55 (by decide +kernel) rfl)⟩
theorem mt_X4_rests : gMV yX4_rests cX4_rests 3 (some .int) 0 := ⟨⟨(gT_at 759 (by decide +kernel) rfl), (gT_at 127 (by decide +kernel) rfl), by decide +kernel, by decide +kernel, by decide +kernel⟩, (gT_at 758 (by decide +kernel) rfl), (gT_at 54 (by decide +kernel) rfl)⟩
theorem mt_X4_restNumber : gMV yX4_restNumber cX4_restNumber 4 (some .int) 1 := ⟨⟨(gT_at 772 (by decide +kernel) rfl), (gT_at 127 (by decide +kernel) rfl), by decide +kernel, by decide +kernel, by decide +kernel⟩, (gT_at 771 (by decide +kernel) rfl), (gT_at 56 (by decide +kernel) rfl)⟩
theorem mt_X4_hasRestBelow : gMV yX4_hasRestBelow cX4_hasRestBelow 3 (some .boolean) 1 := ⟨⟨(gT_at 935 (by decide +kernel) rfl), (gT_at 127 (by decide +kernel) rfl), by decide +kernel, by decide +kernel, by decide +kernel⟩, (gT_at 934 (by decide +kernel) rfl), (gT_at 74 (by decide +kernel) rfl)⟩
theorem mt_X4_choose : gMV yX4_choose cX4_choose 7 (some .int) 2 := ⟨⟨(gT_at 784 (by decide +kernel) rfl), (gT_at 127 (by decide +kernel) rfl), by decide +kernel, by decide +kernel, by decide +kernel⟩, (gT_at 783 (by decide +kernel) rfl), (gT_at 58 (by decide +kernel) rfl)⟩
theorem mt_X4_valueOf : gMV yX4_valueOf cX4_valueOf 3 (some .int) 2 := ⟨⟨(gT_at 792 (by decide +kernel) rfl), (gT_at 127 (by decide +kernel) rfl), by decide +kernel, by decide +kernel, by decide +kernel⟩, (gT_at 791 (by decide +kernel) rfl), (gT_at 60 (by decide +kernel) rfl)⟩
theorem mt_X4_costOf : gMV yX4_costOf cX4_costOf 4 (some .int) 1 := ⟨⟨(gT_at 796 (by decide +kernel) rfl), (gT_at 127 (by decide +kernel) rfl), by decide +kernel, by decide +kernel, by decide +kernel⟩, (gT_at 795 (by decide +kernel) rfl), (gT_at 61 (by decide +kernel) rfl)⟩
theorem mt_X4_afterRound : gMV yX4_afterRound cX4_afterRound 4 (some .int) 1 := ⟨⟨(gT_at 842 (by decide +kernel) rfl), (gT_at 127 (by decide +kernel) rfl), by decide +kernel, by decide +kernel, by decide +kernel⟩, (gT_at 841 (by decide +kernel) rfl), (gT_at 65 (by decide +kernel) rfl)⟩
theorem mt_X4_chanceOf : gMV yX4_chanceOf cX4_chanceOf 3 (some .int) 2 := ⟨⟨(gT_at 971 (by decide +kernel) rfl), (gT_at 127 (by decide +kernel) rfl), by decide +kernel, by decide +kernel, by decide +kernel⟩, (gT_at 970 (by decide +kernel) rfl), (gT_at 76 (by decide +kernel) rfl)⟩
theorem mt_X4_doesSurely : gMV yX4_doesSurely cX4_doesSurely 5 (some .boolean) 2 := ⟨⟨(gT_at 975 (by decide +kernel) rfl), (gT_at 127 (by decide +kernel) rfl), by decide +kernel, by decide +kernel, by decide +kernel⟩, (gT_at 974 (by decide +kernel) rfl), (gT_at 77 (by decide +kernel) rfl)⟩
theorem mt_X4_lightAfter : gMV yX4_lightAfter cX4_lightAfter 5 (some .int) 2 := ⟨⟨(gT_at 989 (by decide +kernel) rfl), (gT_at 127 (by decide +kernel) rfl), by decide +kernel, by decide +kernel, by decide +kernel⟩, (gT_at 988 (by decide +kernel) rfl), (gT_at 79 (by decide +kernel) rfl)⟩
theorem mt_X5_become : gMV yX5_become cX5_become 3 none 1 := ⟨⟨(gT_at 1034 (by decide +kernel) rfl), (gT_at 125 (by decide +kernel) rfl), by decide +kernel, by decide +kernel, by decide +kernel⟩, (gT_at 1033 (by decide +kernel) rfl), (gT_at 83 (by decide +kernel) rfl)⟩
theorem mt_X5_streetAt : gMV yX5_streetAt cX5_streetAt 2 (some (.object RX4)) 1 := ⟨⟨(gT_at 639 (by decide +kernel) rfl), (gT_at 125 (by decide +kernel) rfl), by decide +kernel, by decide +kernel, by decide +kernel⟩, (gT_at 638 (by decide +kernel) rfl), (gT_at 38 (by decide +kernel) rfl)⟩
theorem mt_X5_placeForNext : gMV yX5_placeForNext cX5_placeForNext 1 (some (.object RX4)) 0 := ⟨⟨(gT_at 473 (by decide +kernel) rfl), (gT_at 125 (by decide +kernel) rfl), by decide +kernel, by decide +kernel, by decide +kernel⟩, (gT_at 472 (by decide +kernel) rfl), (gT_at 15 (by decide +kernel) rfl)⟩
theorem mt_X5_draw : gMV yX5_draw cX5_draw 2 (some .int) 1 := ⟨⟨(gT_at 979 (by decide +kernel) rfl), (gT_at 125 (by decide +kernel) rfl), by decide +kernel, by decide +kernel, by decide +kernel⟩, (gT_at 978 (by decide +kernel) rfl), (gT_at 78 (by decide +kernel) rfl)⟩
theorem mt_X5_isBarAtRest : gMV yX5_isBarAtRest cX5_isBarAtRest 10 (some .boolean) 3 := ⟨⟨(gT_at 892 (by decide +kernel) rfl), (gT_at 125 (by decide +kernel) rfl), by decide +kernel, by decide +kernel, by decide +kernel⟩, (gT_at 891 (by decide +kernel) rfl), (gT_at 68 (by decide +kernel) rfl)⟩
theorem mt_X5_endsUpTo : gMV yX5_endsUpTo cX5_endsUpTo 4 (some .int) 1 := ⟨⟨(gT_at 896 (by decide +kernel) rfl), (gT_at 125 (by decide +kernel) rfl), by decide +kernel, by decide +kernel, by decide +kernel⟩, (gT_at 895 (by decide +kernel) rfl), (gT_at 69 (by decide +kernel) rfl)⟩
theorem mt_X6_row : gMV yX6_row cX6_row 5 (some .int) 3 := ⟨⟨(gT_at 358 (by decide +kernel) rfl), (gT_at 123 (by decide +kernel) rfl), by decide +kernel, by decide +kernel, by decide +kernel⟩, (gT_at 356 (by decide +kernel) rfl), (gT_at 357 (by decide +kernel) rfl)⟩
theorem mt_X6_set : gMV yX6_set cX6_set 6 (some .int) 3 := ⟨⟨(gT_at 380 (by decide +kernel) rfl), (gT_at 123 (by decide +kernel) rfl), by decide +kernel, by decide +kernel, by decide +kernel⟩, (gT_at 378 (by decide +kernel) rfl), (gT_at 379 (by decide +kernel) rfl)⟩
theorem mt_X6_copy : gMV yX6_copy cX6_copy 8 (some .int) 5 := ⟨⟨(gT_at 400 (by decide +kernel) rfl), (gT_at 123 (by decide +kernel) rfl), by decide +kernel, by decide +kernel, by decide +kernel⟩, (gT_at 398 (by decide +kernel) rfl), (gT_at 399 (by decide +kernel) rfl)⟩
theorem mt_X6_element : gMV yX6_element cX6_element 4 (some .long) 2 := ⟨⟨(gT_at 407 (by decide +kernel) rfl), (gT_at 123 (by decide +kernel) rfl), by decide +kernel, by decide +kernel, by decide +kernel⟩, (gT_at 405 (by decide +kernel) rfl), (gT_at 406 (by decide +kernel) rfl)⟩
theorem mt_X6_holds : gMV yX6_holds cX6_holds 3 (some .int) 1 := ⟨⟨(gT_at 417 (by decide +kernel) rfl), (gT_at 123 (by decide +kernel) rfl), by decide +kernel, by decide +kernel, by decide +kernel⟩, (gT_at 415 (by decide +kernel) rfl), (gT_at 416 (by decide +kernel) rfl)⟩
theorem mt_X6_way : gMV yX6_way cX6_way 6 (some .int) 3 := ⟨⟨(gT_at 421 (by decide +kernel) rfl), (gT_at 123 (by decide +kernel) rfl), by decide +kernel, by decide +kernel, by decide +kernel⟩, (gT_at 419 (by decide +kernel) rfl), (gT_at 420 (by decide +kernel) rfl)⟩
theorem mt_X6_says : gMV yX6_says cX6_says 4 (some .int) 2 := ⟨⟨(gT_at 437 (by decide +kernel) rfl), (gT_at 123 (by decide +kernel) rfl), by decide +kernel, by decide +kernel, by decide +kernel⟩, (gT_at 435 (by decide +kernel) rfl), (gT_at 436 (by decide +kernel) rfl)⟩
theorem mt_X6_feed : gMV yX6_feed cX6_feed 4 (some .int) 2 := ⟨⟨(gT_at 453 (by decide +kernel) rfl), (gT_at 123 (by decide +kernel) rfl), by decide +kernel, by decide +kernel, by decide +kernel⟩, (gT_at 451 (by decide +kernel) rfl), (gT_at 452 (by decide +kernel) rfl)⟩
theorem mt_X6_wipe : gMV yX6_wipe cX6_wipe 2 (some .int) 0 := ⟨⟨(gT_at 461 (by decide +kernel) rfl), (gT_at 123 (by decide +kernel) rfl), by decide +kernel, by decide +kernel, by decide +kernel⟩, (gT_at 459 (by decide +kernel) rfl), (gT_at 460 (by decide +kernel) rfl)⟩
theorem mt_X6_street : gMV yX6_street cX6_street 4 (some .int) 0 := ⟨⟨(gT_at 469 (by decide +kernel) rfl), (gT_at 123 (by decide +kernel) rfl), by decide +kernel, by decide +kernel, by decide +kernel⟩, (gT_at 467 (by decide +kernel) rfl), (gT_at 468 (by decide +kernel) rfl)⟩
theorem mt_X6_streetOf : gMV yX6_streetOf cX6_streetOf 4 (some .int) 2 := ⟨⟨(gT_at 635 (by decide +kernel) rfl), (gT_at 123 (by decide +kernel) rfl), by decide +kernel, by decide +kernel, by decide +kernel⟩, (gT_at 633 (by decide +kernel) rfl), (gT_at 634 (by decide +kernel) rfl)⟩
theorem mt_X6_personOf : gMV yX6_personOf cX6_personOf 5 (some .int) 3 := ⟨⟨(gT_at 657 (by decide +kernel) rfl), (gT_at 123 (by decide +kernel) rfl), by decide +kernel, by decide +kernel, by decide +kernel⟩, (gT_at 655 (by decide +kernel) rfl), (gT_at 656 (by decide +kernel) rfl)⟩
theorem mt_X6_alter : gMV yX6_alter cX6_alter 8 (some .int) 4 := ⟨⟨(gT_at 666 (by decide +kernel) rfl), (gT_at 123 (by decide +kernel) rfl), by decide +kernel, by decide +kernel, by decide +kernel⟩, (gT_at 664 (by decide +kernel) rfl), (gT_at 665 (by decide +kernel) rfl)⟩
theorem mt_X6_tie : gMV yX6_tie cX6_tie 7 (some .int) 4 := ⟨⟨(gT_at 670 (by decide +kernel) rfl), (gT_at 123 (by decide +kernel) rfl), by decide +kernel, by decide +kernel, by decide +kernel⟩, (gT_at 668 (by decide +kernel) rfl), (gT_at 669 (by decide +kernel) rfl)⟩
theorem mt_X6_must : gMV yX6_must cX6_must 6 (some .int) 3 := ⟨⟨(gT_at 684 (by decide +kernel) rfl), (gT_at 123 (by decide +kernel) rfl), by decide +kernel, by decide +kernel, by decide +kernel⟩, (gT_at 682 (by decide +kernel) rfl), (gT_at 683 (by decide +kernel) rfl)⟩
theorem mt_X6_take : gMV yX6_take cX6_take 6 (some .int) 3 := ⟨⟨(gT_at 689 (by decide +kernel) rfl), (gT_at 123 (by decide +kernel) rfl), by decide +kernel, by decide +kernel, by decide +kernel⟩, (gT_at 687 (by decide +kernel) rfl), (gT_at 688 (by decide +kernel) rfl)⟩
theorem mt_X6_come : gMV yX6_come cX6_come 6 (some .int) 4 := ⟨⟨(gT_at 698 (by decide +kernel) rfl), (gT_at 123 (by decide +kernel) rfl), by decide +kernel, by decide +kernel, by decide +kernel⟩, (gT_at 696 (by decide +kernel) rfl), (gT_at 697 (by decide +kernel) rfl)⟩
theorem mt_X6_gain : gMV yX6_gain cX6_gain 5 (some .int) 3 := ⟨⟨(gT_at 716 (by decide +kernel) rfl), (gT_at 123 (by decide +kernel) rfl), by decide +kernel, by decide +kernel, by decide +kernel⟩, (gT_at 714 (by decide +kernel) rfl), (gT_at 715 (by decide +kernel) rfl)⟩
theorem mt_X6_total : gMV yX6_total cX6_total 4 (some .int) 2 := ⟨⟨(gT_at 725 (by decide +kernel) rfl), (gT_at 123 (by decide +kernel) rfl), by decide +kernel, by decide +kernel, by decide +kernel⟩, (gT_at 723 (by decide +kernel) rfl), (gT_at 724 (by decide +kernel) rfl)⟩
theorem mt_X6_judge : gMV yX6_judge cX6_judge 4 (some .int) 2 := ⟨⟨(gT_at 738 (by decide +kernel) rfl), (gT_at 123 (by decide +kernel) rfl), by decide +kernel, by decide +kernel, by decide +kernel⟩, (gT_at 736 (by decide +kernel) rfl), (gT_at 737 (by decide +kernel) rfl)⟩
theorem mt_X6_count : gMV yX6_count cX6_count 3 (some .int) 1 := ⟨⟨(gT_at 755 (by decide +kernel) rfl), (gT_at 123 (by decide +kernel) rfl), by decide +kernel, by decide +kernel, by decide +kernel⟩, (gT_at 753 (by decide +kernel) rfl), (gT_at 754 (by decide +kernel) rfl)⟩
theorem mt_X6_rest : gMV yX6_rest cX6_rest 5 (some .int) 2 := ⟨⟨(gT_at 768 (by decide +kernel) rfl), (gT_at 123 (by decide +kernel) rfl), by decide +kernel, by decide +kernel, by decide +kernel⟩, (gT_at 766 (by decide +kernel) rfl), (gT_at 767 (by decide +kernel) rfl)⟩
theorem mt_X6_fewest : gMV yX6_fewest cX6_fewest 2 (some .int) 1 := ⟨⟨(gT_at 776 (by decide +kernel) rfl), (gT_at 123 (by decide +kernel) rfl), by decide +kernel, by decide +kernel, by decide +kernel⟩, (gT_at 774 (by decide +kernel) rfl), (gT_at 775 (by decide +kernel) rfl)⟩
theorem mt_X6_most : gMV yX6_most cX6_most 2 (some .int) 1 := ⟨⟨(gT_at 801 (by decide +kernel) rfl), (gT_at 123 (by decide +kernel) rfl), by decide +kernel, by decide +kernel, by decide +kernel⟩, (gT_at 799 (by decide +kernel) rfl), (gT_at 800 (by decide +kernel) rfl)⟩
theorem mt_X6_cheap : gMV yX6_cheap cX6_cheap 2 (some .int) 1 := ⟨⟨(gT_at 805 (by decide +kernel) rfl), (gT_at 123 (by decide +kernel) rfl), by decide +kernel, by decide +kernel, by decide +kernel⟩, (gT_at 803 (by decide +kernel) rfl), (gT_at 804 (by decide +kernel) rfl)⟩
theorem mt_X6_best : gMV yX6_best cX6_best 2 (some .int) 1 := ⟨⟨(gT_at 809 (by decide +kernel) rfl), (gT_at 123 (by decide +kernel) rfl), by decide +kernel, by decide +kernel, by decide +kernel⟩, (gT_at 807 (by decide +kernel) rfl), (gT_at 808 (by decide +kernel) rfl)⟩
theorem mt_X6_good : gMV yX6_good cX6_good 3 (some .int) 1 := ⟨⟨(gT_at 813 (by decide +kernel) rfl), (gT_at 123 (by decide +kernel) rfl), by decide +kernel, by decide +kernel, by decide +kernel⟩, (gT_at 811 (by decide +kernel) rfl), (gT_at 812 (by decide +kernel) rfl)⟩
theorem mt_X6_lost : gMV yX6_lost cX6_lost 2 (some .int) 1 := ⟨⟨(gT_at 817 (by decide +kernel) rfl), (gT_at 123 (by decide +kernel) rfl), by decide +kernel, by decide +kernel, by decide +kernel⟩, (gT_at 815 (by decide +kernel) rfl), (gT_at 816 (by decide +kernel) rfl)⟩
theorem mt_X6_beside : gMV yX6_beside cX6_beside 2 (some .int) 1 := ⟨⟨(gT_at 825 (by decide +kernel) rfl), (gT_at 123 (by decide +kernel) rfl), by decide +kernel, by decide +kernel, by decide +kernel⟩, (gT_at 823 (by decide +kernel) rfl), (gT_at 824 (by decide +kernel) rfl)⟩
theorem mt_X6_go : gMV yX6_go cX6_go 4 (some .int) 2 := ⟨⟨(gT_at 829 (by decide +kernel) rfl), (gT_at 123 (by decide +kernel) rfl), by decide +kernel, by decide +kernel, by decide +kernel⟩, (gT_at 827 (by decide +kernel) rfl), (gT_at 828 (by decide +kernel) rfl)⟩
theorem mt_X6_turns : gMV yX6_turns cX6_turns 4 (some .int) 2 := ⟨⟨(gT_at 858 (by decide +kernel) rfl), (gT_at 123 (by decide +kernel) rfl), by decide +kernel, by decide +kernel, by decide +kernel⟩, (gT_at 856 (by decide +kernel) rfl), (gT_at 857 (by decide +kernel) rfl)⟩
theorem mt_X6_ring : gMV yX6_ring cX6_ring 4 (some .int) 2 := ⟨⟨(gT_at 862 (by decide +kernel) rfl), (gT_at 123 (by decide +kernel) rfl), by decide +kernel, by decide +kernel, by decide +kernel⟩, (gT_at 860 (by decide +kernel) rfl), (gT_at 861 (by decide +kernel) rfl)⟩
theorem mt_X6_lot : gMV yX6_lot cX6_lot 4 (some .int) 3 := ⟨⟨(gT_at 866 (by decide +kernel) rfl), (gT_at 123 (by decide +kernel) rfl), by decide +kernel, by decide +kernel, by decide +kernel⟩, (gT_at 864 (by decide +kernel) rfl), (gT_at 865 (by decide +kernel) rfl)⟩
theorem mt_X6_nobody : gMV yX6_nobody cX6_nobody 7 (some .int) 3 := ⟨⟨(gT_at 880 (by decide +kernel) rfl), (gT_at 123 (by decide +kernel) rfl), by decide +kernel, by decide +kernel, by decide +kernel⟩, (gT_at 878 (by decide +kernel) rfl), (gT_at 879 (by decide +kernel) rfl)⟩
theorem mt_X6_know : gMV yX6_know cX6_know 4 (some .int) 2 := ⟨⟨(gT_at 884 (by decide +kernel) rfl), (gT_at 123 (by decide +kernel) rfl), by decide +kernel, by decide +kernel, by decide +kernel⟩, (gT_at 882 (by decide +kernel) rfl), (gT_at 883 (by decide +kernel) rfl)⟩
theorem mt_X6_bar : gMV yX6_bar cX6_bar 4 (some .int) 2 := ⟨⟨(gT_at 888 (by decide +kernel) rfl), (gT_at 123 (by decide +kernel) rfl), by decide +kernel, by decide +kernel, by decide +kernel⟩, (gT_at 886 (by decide +kernel) rfl), (gT_at 887 (by decide +kernel) rfl)⟩
theorem mt_X6_cuts : gMV yX6_cuts cX6_cuts 6 (some .int) 2 := ⟨⟨(gT_at 901 (by decide +kernel) rfl), (gT_at 123 (by decide +kernel) rfl), by decide +kernel, by decide +kernel, by decide +kernel⟩, (gT_at 899 (by decide +kernel) rfl), (gT_at 900 (by decide +kernel) rfl)⟩
theorem mt_X6_adds : gMV yX6_adds cX6_adds 7 (some .int) 3 := ⟨⟨(gT_at 918 (by decide +kernel) rfl), (gT_at 123 (by decide +kernel) rfl), by decide +kernel, by decide +kernel, by decide +kernel⟩, (gT_at 916 (by decide +kernel) rfl), (gT_at 917 (by decide +kernel) rfl)⟩
theorem mt_X6_less : gMV yX6_less cX6_less 7 (some .int) 1 := ⟨⟨(gT_at 926 (by decide +kernel) rfl), (gT_at 123 (by decide +kernel) rfl), by decide +kernel, by decide +kernel, by decide +kernel⟩, (gT_at 924 (by decide +kernel) rfl), (gT_at 925 (by decide +kernel) rfl)⟩
theorem mt_X6_need : gMV yX6_need cX6_need 5 (some .int) 3 := ⟨⟨(gT_at 939 (by decide +kernel) rfl), (gT_at 123 (by decide +kernel) rfl), by decide +kernel, by decide +kernel, by decide +kernel⟩, (gT_at 937 (by decide +kernel) rfl), (gT_at 938 (by decide +kernel) rfl)⟩
theorem mt_X6_pay : gMV yX6_pay cX6_pay 6 (some .int) 2 := ⟨⟨(gT_at 947 (by decide +kernel) rfl), (gT_at 123 (by decide +kernel) rfl), by decide +kernel, by decide +kernel, by decide +kernel⟩, (gT_at 945 (by decide +kernel) rfl), (gT_at 946 (by decide +kernel) rfl)⟩
theorem mt_X6_few : gMV yX6_few cX6_few 6 (some .int) 2 := ⟨⟨(gT_at 952 (by decide +kernel) rfl), (gT_at 123 (by decide +kernel) rfl), by decide +kernel, by decide +kernel, by decide +kernel⟩, (gT_at 950 (by decide +kernel) rfl), (gT_at 951 (by decide +kernel) rfl)⟩
theorem mt_X6_rota : gMV yX6_rota cX6_rota 7 (some .int) 3 := ⟨⟨(gT_at 956 (by decide +kernel) rfl), (gT_at 123 (by decide +kernel) rfl), by decide +kernel, by decide +kernel, by decide +kernel⟩, (gT_at 954 (by decide +kernel) rfl), (gT_at 955 (by decide +kernel) rfl)⟩
theorem mt_X6_doers : gMV yX6_doers cX6_doers 8 (some .int) 2 := ⟨⟨(gT_at 967 (by decide +kernel) rfl), (gT_at 123 (by decide +kernel) rfl), by decide +kernel, by decide +kernel, by decide +kernel⟩, (gT_at 965 (by decide +kernel) rfl), (gT_at 966 (by decide +kernel) rfl)⟩
theorem mt_X6_light : gMV yX6_light cX6_light 6 (some .int) 2 := ⟨⟨(gT_at 984 (by decide +kernel) rfl), (gT_at 123 (by decide +kernel) rfl), by decide +kernel, by decide +kernel, by decide +kernel⟩, (gT_at 982 (by decide +kernel) rfl), (gT_at 983 (by decide +kernel) rfl)⟩
theorem mt_X6_late : gMV yX6_late cX6_late 6 (some .int) 2 := ⟨⟨(gT_at 994 (by decide +kernel) rfl), (gT_at 123 (by decide +kernel) rfl), by decide +kernel, by decide +kernel, by decide +kernel⟩, (gT_at 992 (by decide +kernel) rfl), (gT_at 993 (by decide +kernel) rfl)⟩
theorem mt_X6_seed : gMV yX6_seed cX6_seed 3 (some .int) 1 := ⟨⟨(gT_at 998 (by decide +kernel) rfl), (gT_at 123 (by decide +kernel) rfl), by decide +kernel, by decide +kernel, by decide +kernel⟩, (gT_at 996 (by decide +kernel) rfl), (gT_at 997 (by decide +kernel) rfl)⟩
theorem mt_X6_begin : gMV yX6_begin cX6_begin 3 (some .int) 1 := ⟨⟨(gT_at 1002 (by decide +kernel) rfl), (gT_at 123 (by decide +kernel) rfl), by decide +kernel, by decide +kernel, by decide +kernel⟩, (gT_at 1000 (by decide +kernel) rfl), (gT_at 1001 (by decide +kernel) rfl)⟩
theorem mt_X6_step : gMV yX6_step cX6_step 2 (some .int) 1 := ⟨⟨(gT_at 1011 (by decide +kernel) rfl), (gT_at 123 (by decide +kernel) rfl), by decide +kernel, by decide +kernel, by decide +kernel⟩, (gT_at 1009 (by decide +kernel) rfl), (gT_at 1010 (by decide +kernel) rfl)⟩
theorem mt_X6_search : gMV yX6_search cX6_search 3 (some .int) 1 := ⟨⟨(gT_at 1026 (by decide +kernel) rfl), (gT_at 123 (by decide +kernel) rfl), by decide +kernel, by decide +kernel, by decide +kernel⟩, (gT_at 1024 (by decide +kernel) rfl), (gT_at 1025 (by decide +kernel) rfl)⟩
theorem mt_X6_image : gMV yX6_image cX6_image 1 (some .int) 0 := ⟨⟨(gT_at 1030 (by decide +kernel) rfl), (gT_at 123 (by decide +kernel) rfl), by decide +kernel, by decide +kernel, by decide +kernel⟩, (gT_at 1028 (by decide +kernel) rfl), (gT_at 1029 (by decide +kernel) rfl)⟩
theorem mt_X6_back : gMV yX6_back cX6_back 1 (some .int) 0 := ⟨⟨(gT_at 1044 (by decide +kernel) rfl), (gT_at 123 (by decide +kernel) rfl), by decide +kernel, by decide +kernel, by decide +kernel⟩, (gT_at 1042 (by decide +kernel) rfl), (gT_at 1043 (by decide +kernel) rfl)⟩
theorem mt_X6_status : gMV yX6_status cX6_status 2 (some .int) 1 := ⟨⟨(gT_at 1048 (by decide +kernel) rfl), (gT_at 123 (by decide +kernel) rfl), by decide +kernel, by decide +kernel, by decide +kernel⟩, (gT_at 1046 (by decide +kernel) rfl), (gT_at 1047 (by decide +kernel) rfl)⟩
theorem mt_X6_refuse : gMV yX6_refuse cX6_refuse 3 (some .int) 1 := ⟨⟨(gT_at 369 (by decide +kernel) rfl), (gT_at 123 (by decide +kernel) rfl), by decide +kernel, by decide +kernel, by decide +kernel⟩, (gT_at 368 (by decide +kernel) rfl), (gT_at 1 (by decide +kernel) rfl)⟩
theorem mt_X6_isWithin : gMS yX6_isWithin cX6_isWithin 3 (some .boolean) 3 := ⟨⟨(gT_at 365 (by decide +kernel) rfl), (gT_at 123 (by decide +kernel) rfl), by decide +kernel, by decide +kernel, by decide +kernel⟩, (gT_at 364 (by decide +kernel) rfl)⟩
theorem mt_X6_shelfAt : gMV yX6_shelfAt cX6_shelfAt 2 (some (.object RX3)) 1 := ⟨⟨(gT_at 362 (by decide +kernel) rfl), (gT_at 123 (by decide +kernel) rfl), by decide +kernel, by decide +kernel, by decide +kernel⟩, (gT_at 361 (by decide +kernel) rfl), (gT_at 0 (by decide +kernel) rfl)⟩
theorem mt_X6_shelvesInUse : gMV yX6_shelvesInUse cX6_shelvesInUse 3 (some .int) 0 := ⟨⟨(gT_at 1052 (by decide +kernel) rfl), (gT_at 123 (by decide +kernel) rfl), by decide +kernel, by decide +kernel, by decide +kernel⟩, (gT_at 1051 (by decide +kernel) rfl), (gT_at 85 (by decide +kernel) rfl)⟩
theorem mt_X6_streetWithSet : gMV yX6_streetWithSet cX6_streetWithSet 4 (some (.object RX4)) 2 := ⟨⟨(gT_at 729 (by decide +kernel) rfl), (gT_at 123 (by decide +kernel) rfl), by decide +kernel, by decide +kernel, by decide +kernel⟩, (gT_at 728 (by decide +kernel) rfl), (gT_at 49 (by decide +kernel) rfl)⟩
theorem mt_X6_isWayToldBy : gMS yX6_isWayToldBy cX6_isWayToldBy 2 (some .boolean) 2 := ⟨⟨(gT_at 424 (by decide +kernel) rfl), (gT_at 123 (by decide +kernel) rfl), by decide +kernel, by decide +kernel, by decide +kernel⟩, (gT_at 423 (by decide +kernel) rfl)⟩
theorem mt_X6_restBy : gMV yX6_restBy cX6_restBy 4 (some .int) 2 := ⟨⟨(gT_at 780 (by decide +kernel) rfl), (gT_at 123 (by decide +kernel) rfl), by decide +kernel, by decide +kernel, by decide +kernel⟩, (gT_at 779 (by decide +kernel) rfl), (gT_at 57 (by decide +kernel) rfl)⟩
theorem mt_X6_belowGood : gMV yX6_belowGood cX6_belowGood 5 (some .int) 2 := ⟨⟨(gT_at 821 (by decide +kernel) rfl), (gT_at 123 (by decide +kernel) rfl), by decide +kernel, by decide +kernel, by decide +kernel⟩, (gT_at 820 (by decide +kernel) rfl), (gT_at 62 (by decide +kernel) rfl)⟩
theorem mt_X6_isAlike : gMS yX6_isAlike cX6_isAlike 3 (some .boolean) 3 := ⟨⟨(gT_at 869 (by decide +kernel) rfl), (gT_at 123 (by decide +kernel) rfl), by decide +kernel, by decide +kernel, by decide +kernel⟩, (gT_at 868 (by decide +kernel) rfl)⟩
theorem mt_X6_greatestLot : gMS yX6_greatestLot cX6_greatestLot 4 (some .int) 3 := ⟨⟨(gT_at 872 (by decide +kernel) rfl), (gT_at 123 (by decide +kernel) rfl), by decide +kernel, by decide +kernel, by decide +kernel⟩, (gT_at 871 (by decide +kernel) rfl)⟩
theorem mt_X6_power : gMS yX6_power cX6_power 6 (some .long) 2 := ⟨⟨(gT_at 875 (by decide +kernel) rfl), (gT_at 123 (by decide +kernel) rfl), by decide +kernel, by decide +kernel, by decide +kernel⟩, (gT_at 874 (by decide +kernel) rfl)⟩
theorem mt_X6_pairNumber : gMS yX6_pairNumber cX6_pairNumber 2 (some .int) 2 := ⟨⟨(gT_at 914 (by decide +kernel) rfl), (gT_at 123 (by decide +kernel) rfl), by decide +kernel, by decide +kernel, by decide +kernel⟩, (gT_at 913 (by decide +kernel) rfl)⟩
theorem mt_X6_isCut : gMV yX6_isCut cX6_isCut 6 (some .boolean) 4 := ⟨⟨(gT_at 911 (by decide +kernel) rfl), (gT_at 123 (by decide +kernel) rfl), by decide +kernel, by decide +kernel, by decide +kernel⟩, (gT_at 910 (by decide +kernel) rfl), (gT_at 71 (by decide +kernel) rfl)⟩
theorem mt_X6_isAdded : gMV yX6_isAdded cX6_isAdded 7 (some .boolean) 5 := ⟨⟨(gT_at 922 (by decide +kernel) rfl), (gT_at 123 (by decide +kernel) rfl), by decide +kernel, by decide +kernel, by decide +kernel⟩, (gT_at 921 (by decide +kernel) rfl), (gT_at 72 (by decide +kernel) rfl)⟩
theorem mt_X6_isLessened : gMV yX6_isLessened cX6_isLessened 5 (some .boolean) 3 := ⟨⟨(gT_at 931 (by decide +kernel) rfl), (gT_at 123 (by decide +kernel) rfl), by decide +kernel, by decide +kernel, by decide +kernel⟩, (gT_at 930 (by decide +kernel) rfl), (gT_at 73 (by decide +kernel) rfl)⟩
theorem mt_X6_isRota : gMS yX6_isRota cX6_isRota 6 (some .boolean) 3 := ⟨⟨(gT_at 959 (by decide +kernel) rfl), (gT_at 123 (by decide +kernel) rfl), by decide +kernel, by decide +kernel, by decide +kernel⟩, (gT_at 958 (by decide +kernel) rfl)⟩
theorem mt_X6_gainByLeaving : gMS yX6_gainByLeaving cX6_gainByLeaving 7 (some .int) 4 := ⟨⟨(gT_at 963 (by decide +kernel) rfl), (gT_at 123 (by decide +kernel) rfl), by decide +kernel, by decide +kernel, by decide +kernel⟩, (gT_at 962 (by decide +kernel) rfl)⟩
theorem mt_X7_refuse : gMV yX7_refuse cX7_refuse 2 (some .int) 1 := ⟨⟨(gT_at 1188 (by decide +kernel) rfl), (gT_at 130 (by decide +kernel) rfl), by decide +kernel, by decide +kernel, by decide +kernel⟩, (gT_at 1187 (by decide +kernel) rfl), (gT_at 86 (by decide +kernel) rfl)⟩
theorem mt_X7_in : gMS yX7_in cX7_in 6 (some .boolean) 3 := ⟨⟨(gT_at 1182 (by decide +kernel) rfl), (gT_at 130 (by decide +kernel) rfl), by decide +kernel, by decide +kernel, by decide +kernel⟩, (gT_at 1181 (by decide +kernel) rfl)⟩
theorem mt_X7_isStreet : gMV yX7_isStreet cX7_isStreet 2 (some .boolean) 1 := ⟨⟨(gT_at 1310 (by decide +kernel) rfl), (gT_at 130 (by decide +kernel) rfl), by decide +kernel, by decide +kernel, by decide +kernel⟩, (gT_at 1309 (by decide +kernel) rfl), (gT_at 98 (by decide +kernel) rfl)⟩
theorem mt_X7_isPerson : gMV yX7_isPerson cX7_isPerson 3 (some .boolean) 2 := ⟨⟨(gT_at 1325 (by decide +kernel) rfl), (gT_at 130 (by decide +kernel) rfl), by decide +kernel, by decide +kernel, by decide +kernel⟩, (gT_at 1324 (by decide +kernel) rfl), (gT_at 100 (by decide +kernel) rfl)⟩
theorem mt_X7_isSet : gMV yX7_isSet cX7_isSet 4 (some .boolean) 2 := ⟨⟨(gT_at 1351 (by decide +kernel) rfl), (gT_at 130 (by decide +kernel) rfl), by decide +kernel, by decide +kernel, by decide +kernel⟩, (gT_at 1350 (by decide +kernel) rfl), (gT_at 101 (by decide +kernel) rfl)⟩
theorem mt_X7_all : gMV yX7_all cX7_all 2 (some .int) 1 := ⟨⟨(gT_at 1355 (by decide +kernel) rfl), (gT_at 130 (by decide +kernel) rfl), by decide +kernel, by decide +kernel, by decide +kernel⟩, (gT_at 1354 (by decide +kernel) rfl), (gT_at 102 (by decide +kernel) rfl)⟩
theorem mt_X7_row : gMV yX7_row cX7_row 5 (some .int) 3 := ⟨⟨(gT_at 1178 (by decide +kernel) rfl), (gT_at 130 (by decide +kernel) rfl), by decide +kernel, by decide +kernel, by decide +kernel⟩, (gT_at 1176 (by decide +kernel) rfl), (gT_at 1177 (by decide +kernel) rfl)⟩
theorem mt_X7_fit : gMS yX7_fit cX7_fit 3 (some .long) 2 := ⟨⟨(gT_at 1195 (by decide +kernel) rfl), (gT_at 130 (by decide +kernel) rfl), by decide +kernel, by decide +kernel, by decide +kernel⟩, (gT_at 1194 (by decide +kernel) rfl)⟩
theorem mt_X7_set : gMV yX7_set cX7_set 5 (some .int) 3 := ⟨⟨(gT_at 1192 (by decide +kernel) rfl), (gT_at 130 (by decide +kernel) rfl), by decide +kernel, by decide +kernel, by decide +kernel⟩, (gT_at 1190 (by decide +kernel) rfl), (gT_at 1191 (by decide +kernel) rfl)⟩
theorem mt_X7_copy : gMV yX7_copy cX7_copy 7 (some .int) 5 := ⟨⟨(gT_at 1199 (by decide +kernel) rfl), (gT_at 130 (by decide +kernel) rfl), by decide +kernel, by decide +kernel, by decide +kernel⟩, (gT_at 1197 (by decide +kernel) rfl), (gT_at 1198 (by decide +kernel) rfl)⟩
theorem mt_X7_element : gMV yX7_element cX7_element 3 (some .long) 2 := ⟨⟨(gT_at 1203 (by decide +kernel) rfl), (gT_at 130 (by decide +kernel) rfl), by decide +kernel, by decide +kernel, by decide +kernel⟩, (gT_at 1201 (by decide +kernel) rfl), (gT_at 1202 (by decide +kernel) rfl)⟩
theorem mt_X7_holds : gMV yX7_holds cX7_holds 2 (some .int) 1 := ⟨⟨(gT_at 1207 (by decide +kernel) rfl), (gT_at 130 (by decide +kernel) rfl), by decide +kernel, by decide +kernel, by decide +kernel⟩, (gT_at 1205 (by decide +kernel) rfl), (gT_at 1206 (by decide +kernel) rfl)⟩
theorem mt_X7_mayBy : gMS yX7_mayBy cX7_mayBy 2 (some .boolean) 2 := ⟨⟨(gT_at 1215 (by decide +kernel) rfl), (gT_at 130 (by decide +kernel) rfl), by decide +kernel, by decide +kernel, by decide +kernel⟩, (gT_at 1214 (by decide +kernel) rfl)⟩
theorem mt_X7_way : gMV yX7_way cX7_way 6 (some .int) 3 := ⟨⟨(gT_at 1211 (by decide +kernel) rfl), (gT_at 130 (by decide +kernel) rfl), by decide +kernel, by decide +kernel, by decide +kernel⟩, (gT_at 1209 (by decide +kernel) rfl), (gT_at 1210 (by decide +kernel) rfl)⟩
theorem mt_X7_isUnder : gMS yX7_isUnder cX7_isUnder 2 (some .boolean) 2 := ⟨⟨(gT_at 1225 (by decide +kernel) rfl), (gT_at 130 (by decide +kernel) rfl), by decide +kernel, by decide +kernel, by decide +kernel⟩, (gT_at 1224 (by decide +kernel) rfl)⟩
theorem mt_X7_says : gMV yX7_says cX7_says 3 (some .int) 2 := ⟨⟨(gT_at 1222 (by decide +kernel) rfl), (gT_at 130 (by decide +kernel) rfl), by decide +kernel, by decide +kernel, by decide +kernel⟩, (gT_at 1220 (by decide +kernel) rfl), (gT_at 1221 (by decide +kernel) rfl)⟩
theorem mt_X7_feed : gMV yX7_feed cX7_feed 4 (some .int) 2 := ⟨⟨(gT_at 1229 (by decide +kernel) rfl), (gT_at 130 (by decide +kernel) rfl), by decide +kernel, by decide +kernel, by decide +kernel⟩, (gT_at 1227 (by decide +kernel) rfl), (gT_at 1228 (by decide +kernel) rfl)⟩
theorem mt_X7_wipe : gMV yX7_wipe cX7_wipe 2 (some .int) 0 := ⟨⟨(gT_at 1233 (by decide +kernel) rfl), (gT_at 130 (by decide +kernel) rfl), by decide +kernel, by decide +kernel, by decide +kernel⟩, (gT_at 1231 (by decide +kernel) rfl), (gT_at 1232 (by decide +kernel) rfl)⟩
theorem mt_X7_isLetter : gMS yX7_isLetter cX7_isLetter 1 (some .boolean) 1 := ⟨⟨(gT_at 1252 (by decide +kernel) rfl), (gT_at 130 (by decide +kernel) rfl), by decide +kernel, by decide +kernel, by decide +kernel⟩, (gT_at 1251 (by decide +kernel) rfl)⟩
theorem mt_X7_isDigit : gMS yX7_isDigit cX7_isDigit 1 (some .boolean) 1 := ⟨⟨(gT_at 1255 (by decide +kernel) rfl), (gT_at 130 (by decide +kernel) rfl), by decide +kernel, by decide +kernel, by decide +kernel⟩, (gT_at 1254 (by decide +kernel) rfl)⟩
theorem mt_X7_look : gMV yX7_look cX7_look 1 none 0 := ⟨⟨(gT_at 1249 (by decide +kernel) rfl), (gT_at 130 (by decide +kernel) rfl), by decide +kernel, by decide +kernel, by decide +kernel⟩, (gT_at 1248 (by decide +kernel) rfl), (gT_at 89 (by decide +kernel) rfl)⟩
theorem mt_X7_wrong : gMV yX7_wrong cX7_wrong 1 (some .boolean) 0 := ⟨⟨(gT_at 1273 (by decide +kernel) rfl), (gT_at 130 (by decide +kernel) rfl), by decide +kernel, by decide +kernel, by decide +kernel⟩, (gT_at 1272 (by decide +kernel) rfl), (gT_at 92 (by decide +kernel) rfl)⟩
theorem mt_X7_isWord : gMV yX7_isWord cX7_isWord 3 (some .boolean) 1 := ⟨⟨(gT_at 1267 (by decide +kernel) rfl), (gT_at 130 (by decide +kernel) rfl), by decide +kernel, by decide +kernel, by decide +kernel⟩, (gT_at 1266 (by decide +kernel) rfl), (gT_at 91 (by decide +kernel) rfl)⟩
theorem mt_X7_word : gMV yX7_word cX7_word 2 (some .boolean) 1 := ⟨⟨(gT_at 1263 (by decide +kernel) rfl), (gT_at 130 (by decide +kernel) rfl), by decide +kernel, by decide +kernel, by decide +kernel⟩, (gT_at 1262 (by decide +kernel) rfl), (gT_at 90 (by decide +kernel) rfl)⟩
theorem mt_X7_number : gMV yX7_number cX7_number 3 (some .boolean) 2 := ⟨⟨(gT_at 1277 (by decide +kernel) rfl), (gT_at 130 (by decide +kernel) rfl), by decide +kernel, by decide +kernel, by decide +kernel⟩, (gT_at 1276 (by decide +kernel) rfl), (gT_at 93 (by decide +kernel) rfl)⟩
theorem mt_X7_tieThem : gMV yX7_tieThem cX7_tieThem 5 none 4 := ⟨⟨(gT_at 1295 (by decide +kernel) rfl), (gT_at 130 (by decide +kernel) rfl), by decide +kernel, by decide +kernel, by decide +kernel⟩, (gT_at 1294 (by decide +kernel) rfl), (gT_at 96 (by decide +kernel) rfl)⟩
theorem mt_X7_tieNew : gMV yX7_tieNew cX7_tieNew 4 none 3 := ⟨⟨(gT_at 1301 (by decide +kernel) rfl), (gT_at 130 (by decide +kernel) rfl), by decide +kernel, by decide +kernel, by decide +kernel⟩, (gT_at 1300 (by decide +kernel) rfl), (gT_at 97 (by decide +kernel) rfl)⟩
theorem mt_X7_statement : gMV yX7_statement cX7_statement 5 (some .boolean) 1 := ⟨⟨(gT_at 1281 (by decide +kernel) rfl), (gT_at 130 (by decide +kernel) rfl), by decide +kernel, by decide +kernel, by decide +kernel⟩, (gT_at 1280 (by decide +kernel) rfl), (gT_at 94 (by decide +kernel) rfl)⟩
theorem mt_X7_tieTold : gMV yX7_tieTold cX7_tieTold 6 (some .boolean) 2 := ⟨⟨(gT_at 1290 (by decide +kernel) rfl), (gT_at 130 (by decide +kernel) rfl), by decide +kernel, by decide +kernel, by decide +kernel⟩, (gT_at 1289 (by decide +kernel) rfl), (gT_at 95 (by decide +kernel) rfl)⟩
theorem mt_X7_read : gMV yX7_read cX7_read 3 (some .boolean) 1 := ⟨⟨(gT_at 1241 (by decide +kernel) rfl), (gT_at 130 (by decide +kernel) rfl), by decide +kernel, by decide +kernel, by decide +kernel⟩, (gT_at 1240 (by decide +kernel) rfl), (gT_at 87 (by decide +kernel) rfl)⟩
theorem mt_X7_empty : gMV yX7_empty cX7_empty 4 none 2 := ⟨⟨(gT_at 1245 (by decide +kernel) rfl), (gT_at 130 (by decide +kernel) rfl), by decide +kernel, by decide +kernel, by decide +kernel⟩, (gT_at 1244 (by decide +kernel) rfl), (gT_at 88 (by decide +kernel) rfl)⟩
theorem mt_X7_street : gMV yX7_street cX7_street 2 (some .int) 0 := ⟨⟨(gT_at 1237 (by decide +kernel) rfl), (gT_at 130 (by decide +kernel) rfl), by decide +kernel, by decide +kernel, by decide +kernel⟩, (gT_at 1235 (by decide +kernel) rfl), (gT_at 1236 (by decide +kernel) rfl)⟩
theorem mt_X7_bits : gMS yX7_bits cX7_bits 3 (some .int) 1 := ⟨⟨(gT_at 1313 (by decide +kernel) rfl), (gT_at 130 (by decide +kernel) rfl), by decide +kernel, by decide +kernel, by decide +kernel⟩, (gT_at 1312 (by decide +kernel) rfl)⟩
theorem mt_X7_pricesOf : gMV yX7_pricesOf cX7_pricesOf 5 (some .int) 2 := ⟨⟨(gT_at 1317 (by decide +kernel) rfl), (gT_at 130 (by decide +kernel) rfl), by decide +kernel, by decide +kernel, by decide +kernel⟩, (gT_at 1316 (by decide +kernel) rfl), (gT_at 99 (by decide +kernel) rfl)⟩
theorem mt_X7_streetOf : gMV yX7_streetOf cX7_streetOf 6 (some .int) 2 := ⟨⟨(gT_at 1306 (by decide +kernel) rfl), (gT_at 130 (by decide +kernel) rfl), by decide +kernel, by decide +kernel, by decide +kernel⟩, (gT_at 1304 (by decide +kernel) rfl), (gT_at 1305 (by decide +kernel) rfl)⟩
theorem mt_X7_personOf : gMV yX7_personOf cX7_personOf 4 (some .int) 3 := ⟨⟨(gT_at 1321 (by decide +kernel) rfl), (gT_at 130 (by decide +kernel) rfl), by decide +kernel, by decide +kernel, by decide +kernel⟩, (gT_at 1319 (by decide +kernel) rfl), (gT_at 1320 (by decide +kernel) rfl)⟩
theorem mt_X7_alter : gMV yX7_alter cX7_alter 7 (some .int) 4 := ⟨⟨(gT_at 1329 (by decide +kernel) rfl), (gT_at 130 (by decide +kernel) rfl), by decide +kernel, by decide +kernel, by decide +kernel⟩, (gT_at 1327 (by decide +kernel) rfl), (gT_at 1328 (by decide +kernel) rfl)⟩
theorem mt_X7_tie : gMV yX7_tie cX7_tie 6 (some .int) 4 := ⟨⟨(gT_at 1334 (by decide +kernel) rfl), (gT_at 130 (by decide +kernel) rfl), by decide +kernel, by decide +kernel, by decide +kernel⟩, (gT_at 1332 (by decide +kernel) rfl), (gT_at 1333 (by decide +kernel) rfl)⟩
theorem mt_X7_must : gMV yX7_must cX7_must 5 (some .int) 3 := ⟨⟨(gT_at 1339 (by decide +kernel) rfl), (gT_at 130 (by decide +kernel) rfl), by decide +kernel, by decide +kernel, by decide +kernel⟩, (gT_at 1337 (by decide +kernel) rfl), (gT_at 1338 (by decide +kernel) rfl)⟩
theorem mt_X7_take : gMV yX7_take cX7_take 4 (some .int) 3 := ⟨⟨(gT_at 1343 (by decide +kernel) rfl), (gT_at 130 (by decide +kernel) rfl), by decide +kernel, by decide +kernel, by decide +kernel⟩, (gT_at 1341 (by decide +kernel) rfl), (gT_at 1342 (by decide +kernel) rfl)⟩
theorem mt_X7_come : gMV yX7_come cX7_come 7 (some .int) 4 := ⟨⟨(gT_at 1347 (by decide +kernel) rfl), (gT_at 130 (by decide +kernel) rfl), by decide +kernel, by decide +kernel, by decide +kernel⟩, (gT_at 1345 (by decide +kernel) rfl), (gT_at 1346 (by decide +kernel) rfl)⟩
theorem mt_X7_gainOf : gMV yX7_gainOf cX7_gainOf 6 (some .int) 3 := ⟨⟨(gT_at 1364 (by decide +kernel) rfl), (gT_at 130 (by decide +kernel) rfl), by decide +kernel, by decide +kernel, by decide +kernel⟩, (gT_at 1363 (by decide +kernel) rfl), (gT_at 103 (by decide +kernel) rfl)⟩
theorem mt_X7_goodOf : gMV yX7_goodOf cX7_goodOf 5 (some .int) 2 := ⟨⟨(gT_at 1372 (by decide +kernel) rfl), (gT_at 130 (by decide +kernel) rfl), by decide +kernel, by decide +kernel, by decide +kernel⟩, (gT_at 1371 (by decide +kernel) rfl), (gT_at 104 (by decide +kernel) rfl)⟩
theorem mt_X7_would : gMV yX7_would cX7_would 4 (some .boolean) 3 := ⟨⟨(gT_at 1384 (by decide +kernel) rfl), (gT_at 130 (by decide +kernel) rfl), by decide +kernel, by decide +kernel, by decide +kernel⟩, (gT_at 1383 (by decide +kernel) rfl), (gT_at 106 (by decide +kernel) rfl)⟩
theorem mt_X7_firstOf : gMV yX7_firstOf cX7_firstOf 5 (some .int) 2 := ⟨⟨(gT_at 1380 (by decide +kernel) rfl), (gT_at 130 (by decide +kernel) rfl), by decide +kernel, by decide +kernel, by decide +kernel⟩, (gT_at 1379 (by decide +kernel) rfl), (gT_at 105 (by decide +kernel) rfl)⟩
theorem mt_X7_gain : gMV yX7_gain cX7_gain 4 (some .int) 3 := ⟨⟨(gT_at 1359 (by decide +kernel) rfl), (gT_at 130 (by decide +kernel) rfl), by decide +kernel, by decide +kernel, by decide +kernel⟩, (gT_at 1357 (by decide +kernel) rfl), (gT_at 1358 (by decide +kernel) rfl)⟩
theorem mt_X7_total : gMV yX7_total cX7_total 3 (some .int) 2 := ⟨⟨(gT_at 1368 (by decide +kernel) rfl), (gT_at 130 (by decide +kernel) rfl), by decide +kernel, by decide +kernel, by decide +kernel⟩, (gT_at 1366 (by decide +kernel) rfl), (gT_at 1367 (by decide +kernel) rfl)⟩
theorem mt_X7_judge : gMV yX7_judge cX7_judge 3 (some .int) 2 := ⟨⟨(gT_at 1376 (by decide +kernel) rfl), (gT_at 130 (by decide +kernel) rfl), by decide +kernel, by decide +kernel, by decide +kernel⟩, (gT_at 1374 (by decide +kernel) rfl), (gT_at 1375 (by decide +kernel) rfl)⟩
theorem mt_X7_isRest : gMV yX7_isRest cX7_isRest 3 (some .boolean) 2 := ⟨⟨(gT_at 1396 (by decide +kernel) rfl), (gT_at 130 (by decide +kernel) rfl), by decide +kernel, by decide +kernel, by decide +kernel⟩, (gT_at 1395 (by decide +kernel) rfl), (gT_at 108 (by decide +kernel) rfl)⟩
theorem mt_X7_countRests : gMV yX7_countRests cX7_countRests 4 (some .int) 1 := ⟨⟨(gT_at 1392 (by decide +kernel) rfl), (gT_at 130 (by decide +kernel) rfl), by decide +kernel, by decide +kernel, by decide +kernel⟩, (gT_at 1391 (by decide +kernel) rfl), (gT_at 107 (by decide +kernel) rfl)⟩
theorem mt_X7_count : gMV yX7_count cX7_count 2 (some .int) 1 := ⟨⟨(gT_at 1388 (by decide +kernel) rfl), (gT_at 130 (by decide +kernel) rfl), by decide +kernel, by decide +kernel, by decide +kernel⟩, (gT_at 1386 (by decide +kernel) rfl), (gT_at 1387 (by decide +kernel) rfl)⟩
theorem mt_X7_costOf : gMV yX7_costOf cX7_costOf 5 (some .int) 2 := ⟨⟨(gT_at 1420 (by decide +kernel) rfl), (gT_at 130 (by decide +kernel) rfl), by decide +kernel, by decide +kernel, by decide +kernel⟩, (gT_at 1419 (by decide +kernel) rfl), (gT_at 112 (by decide +kernel) rfl)⟩
theorem mt_X7_worthOf : gMV yX7_worthOf cX7_worthOf 4 (some .int) 3 := ⟨⟨(gT_at 1416 (by decide +kernel) rfl), (gT_at 130 (by decide +kernel) rfl), by decide +kernel, by decide +kernel, by decide +kernel⟩, (gT_at 1415 (by decide +kernel) rfl), (gT_at 111 (by decide +kernel) rfl)⟩
theorem mt_X7_seek : gMV yX7_seek cX7_seek 7 (some .int) 2 := ⟨⟨(gT_at 1412 (by decide +kernel) rfl), (gT_at 130 (by decide +kernel) rfl), by decide +kernel, by decide +kernel, by decide +kernel⟩, (gT_at 1411 (by decide +kernel) rfl), (gT_at 110 (by decide +kernel) rfl)⟩
theorem mt_X7_sought : gMV yX7_sought cX7_sought 3 (some .int) 2 := ⟨⟨(gT_at 1408 (by decide +kernel) rfl), (gT_at 130 (by decide +kernel) rfl), by decide +kernel, by decide +kernel, by decide +kernel⟩, (gT_at 1407 (by decide +kernel) rfl), (gT_at 109 (by decide +kernel) rfl)⟩
theorem mt_X7_rest : gMV yX7_rest cX7_rest 5 (some .int) 2 := ⟨⟨(gT_at 1400 (by decide +kernel) rfl), (gT_at 130 (by decide +kernel) rfl), by decide +kernel, by decide +kernel, by decide +kernel⟩, (gT_at 1398 (by decide +kernel) rfl), (gT_at 1399 (by decide +kernel) rfl)⟩
theorem mt_X7_fewest : gMV yX7_fewest cX7_fewest 2 (some .int) 1 := ⟨⟨(gT_at 1404 (by decide +kernel) rfl), (gT_at 130 (by decide +kernel) rfl), by decide +kernel, by decide +kernel, by decide +kernel⟩, (gT_at 1402 (by decide +kernel) rfl), (gT_at 1403 (by decide +kernel) rfl)⟩
theorem mt_X7_most : gMV yX7_most cX7_most 2 (some .int) 1 := ⟨⟨(gT_at 1424 (by decide +kernel) rfl), (gT_at 130 (by decide +kernel) rfl), by decide +kernel, by decide +kernel, by decide +kernel⟩, (gT_at 1422 (by decide +kernel) rfl), (gT_at 1423 (by decide +kernel) rfl)⟩
theorem mt_X7_cheap : gMV yX7_cheap cX7_cheap 2 (some .int) 1 := ⟨⟨(gT_at 1428 (by decide +kernel) rfl), (gT_at 130 (by decide +kernel) rfl), by decide +kernel, by decide +kernel, by decide +kernel⟩, (gT_at 1426 (by decide +kernel) rfl), (gT_at 1427 (by decide +kernel) rfl)⟩
theorem mt_X7_best : gMV yX7_best cX7_best 2 (some .int) 1 := ⟨⟨(gT_at 1432 (by decide +kernel) rfl), (gT_at 130 (by decide +kernel) rfl), by decide +kernel, by decide +kernel, by decide +kernel⟩, (gT_at 1430 (by decide +kernel) rfl), (gT_at 1431 (by decide +kernel) rfl)⟩
theorem mt_X7_goodSet : gMV yX7_goodSet cX7_goodSet 6 (some .int) 1 := ⟨⟨(gT_at 1440 (by decide +kernel) rfl), (gT_at 130 (by decide +kernel) rfl), by decide +kernel, by decide +kernel, by decide +kernel⟩, (gT_at 1439 (by decide +kernel) rfl), (gT_at 113 (by decide +kernel) rfl)⟩
theorem mt_X7_good : gMV yX7_good cX7_good 2 (some .int) 1 := ⟨⟨(gT_at 1436 (by decide +kernel) rfl), (gT_at 130 (by decide +kernel) rfl), by decide +kernel, by decide +kernel, by decide +kernel⟩, (gT_at 1434 (by decide +kernel) rfl), (gT_at 1435 (by decide +kernel) rfl)⟩
theorem mt_X7_below : gMV yX7_below cX7_below 4 (some .int) 2 := ⟨⟨(gT_at 1448 (by decide +kernel) rfl), (gT_at 130 (by decide +kernel) rfl), by decide +kernel, by decide +kernel, by decide +kernel⟩, (gT_at 1447 (by decide +kernel) rfl), (gT_at 114 (by decide +kernel) rfl)⟩
theorem mt_X7_lost : gMV yX7_lost cX7_lost 2 (some .int) 1 := ⟨⟨(gT_at 1444 (by decide +kernel) rfl), (gT_at 130 (by decide +kernel) rfl), by decide +kernel, by decide +kernel, by decide +kernel⟩, (gT_at 1442 (by decide +kernel) rfl), (gT_at 1443 (by decide +kernel) rfl)⟩
theorem mt_X7_beside : gMV yX7_beside cX7_beside 2 (some .int) 1 := ⟨⟨(gT_at 1452 (by decide +kernel) rfl), (gT_at 130 (by decide +kernel) rfl), by decide +kernel, by decide +kernel, by decide +kernel⟩, (gT_at 1450 (by decide +kernel) rfl), (gT_at 1451 (by decide +kernel) rfl)⟩
theorem mt_X7_inTurn : gMV yX7_inTurn cX7_inTurn 8 none 2 := ⟨⟨(gT_at 1460 (by decide +kernel) rfl), (gT_at 130 (by decide +kernel) rfl), by decide +kernel, by decide +kernel, by decide +kernel⟩, (gT_at 1459 (by decide +kernel) rfl), (gT_at 115 (by decide +kernel) rfl)⟩
theorem mt_X7_go : gMV yX7_go cX7_go 3 (some .int) 2 := ⟨⟨(gT_at 1456 (by decide +kernel) rfl), (gT_at 130 (by decide +kernel) rfl), by decide +kernel, by decide +kernel, by decide +kernel⟩, (gT_at 1454 (by decide +kernel) rfl), (gT_at 1455 (by decide +kernel) rfl)⟩
theorem mt_X7_turns : gMV yX7_turns cX7_turns 3 (some .int) 2 := ⟨⟨(gT_at 1464 (by decide +kernel) rfl), (gT_at 130 (by decide +kernel) rfl), by decide +kernel, by decide +kernel, by decide +kernel⟩, (gT_at 1462 (by decide +kernel) rfl), (gT_at 1463 (by decide +kernel) rfl)⟩
theorem mt_X7_ring : gMV yX7_ring cX7_ring 3 (some .int) 2 := ⟨⟨(gT_at 1468 (by decide +kernel) rfl), (gT_at 130 (by decide +kernel) rfl), by decide +kernel, by decide +kernel, by decide +kernel⟩, (gT_at 1466 (by decide +kernel) rfl), (gT_at 1467 (by decide +kernel) rfl)⟩
theorem mt_X7_power : gMS yX7_power cX7_power 6 (some .long) 2 := ⟨⟨(gT_at 1481 (by decide +kernel) rfl), (gT_at 130 (by decide +kernel) rfl), by decide +kernel, by decide +kernel, by decide +kernel⟩, (gT_at 1480 (by decide +kernel) rfl)⟩
theorem mt_X7_areChances : gMS yX7_areChances cX7_areChances 3 (some .boolean) 3 := ⟨⟨(gT_at 1475 (by decide +kernel) rfl), (gT_at 130 (by decide +kernel) rfl), by decide +kernel, by decide +kernel, by decide +kernel⟩, (gT_at 1474 (by decide +kernel) rfl)⟩
theorem mt_X7_lotOf : gMS yX7_lotOf cX7_lotOf 4 (some .int) 3 := ⟨⟨(gT_at 1478 (by decide +kernel) rfl), (gT_at 130 (by decide +kernel) rfl), by decide +kernel, by decide +kernel, by decide +kernel⟩, (gT_at 1477 (by decide +kernel) rfl)⟩
theorem mt_X7_lot : gMV yX7_lot cX7_lot 4 (some .int) 3 := ⟨⟨(gT_at 1472 (by decide +kernel) rfl), (gT_at 130 (by decide +kernel) rfl), by decide +kernel, by decide +kernel, by decide +kernel⟩, (gT_at 1470 (by decide +kernel) rfl), (gT_at 1471 (by decide +kernel) rfl)⟩
theorem mt_X7_nobody : gMV yX7_nobody cX7_nobody 4 (some .int) 3 := ⟨⟨(gT_at 1485 (by decide +kernel) rfl), (gT_at 130 (by decide +kernel) rfl), by decide +kernel, by decide +kernel, by decide +kernel⟩, (gT_at 1483 (by decide +kernel) rfl), (gT_at 1484 (by decide +kernel) rfl)⟩
theorem mt_X7_know : gMV yX7_know cX7_know 4 (some .int) 2 := ⟨⟨(gT_at 1489 (by decide +kernel) rfl), (gT_at 130 (by decide +kernel) rfl), by decide +kernel, by decide +kernel, by decide +kernel⟩, (gT_at 1487 (by decide +kernel) rfl), (gT_at 1488 (by decide +kernel) rfl)⟩
theorem mt_X7_bar : gMV yX7_bar cX7_bar 11 (some .int) 2 := ⟨⟨(gT_at 1494 (by decide +kernel) rfl), (gT_at 130 (by decide +kernel) rfl), by decide +kernel, by decide +kernel, by decide +kernel⟩, (gT_at 1492 (by decide +kernel) rfl), (gT_at 1493 (by decide +kernel) rfl)⟩
theorem mt_X7_cuts : gMV yX7_cuts cX7_cuts 9 (some .int) 2 := ⟨⟨(gT_at 1498 (by decide +kernel) rfl), (gT_at 130 (by decide +kernel) rfl), by decide +kernel, by decide +kernel, by decide +kernel⟩, (gT_at 1496 (by decide +kernel) rfl), (gT_at 1497 (by decide +kernel) rfl)⟩
theorem mt_X7_adds : gMV yX7_adds cX7_adds 9 (some .int) 3 := ⟨⟨(gT_at 1503 (by decide +kernel) rfl), (gT_at 130 (by decide +kernel) rfl), by decide +kernel, by decide +kernel, by decide +kernel⟩, (gT_at 1501 (by decide +kernel) rfl), (gT_at 1502 (by decide +kernel) rfl)⟩
theorem mt_X7_less : gMV yX7_less cX7_less 6 (some .int) 1 := ⟨⟨(gT_at 1507 (by decide +kernel) rfl), (gT_at 130 (by decide +kernel) rfl), by decide +kernel, by decide +kernel, by decide +kernel⟩, (gT_at 1505 (by decide +kernel) rfl), (gT_at 1506 (by decide +kernel) rfl)⟩
theorem mt_X7_needOf : gMV yX7_needOf cX7_needOf 5 (some .int) 3 := ⟨⟨(gT_at 1515 (by decide +kernel) rfl), (gT_at 130 (by decide +kernel) rfl), by decide +kernel, by decide +kernel, by decide +kernel⟩, (gT_at 1514 (by decide +kernel) rfl), (gT_at 116 (by decide +kernel) rfl)⟩
theorem mt_X7_need : gMV yX7_need cX7_need 4 (some .int) 3 := ⟨⟨(gT_at 1511 (by decide +kernel) rfl), (gT_at 130 (by decide +kernel) rfl), by decide +kernel, by decide +kernel, by decide +kernel⟩, (gT_at 1509 (by decide +kernel) rfl), (gT_at 1510 (by decide +kernel) rfl)⟩
theorem mt_X7_pay : gMV yX7_pay cX7_pay 5 (some .int) 2 := ⟨⟨(gT_at 1519 (by decide +kernel) rfl), (gT_at 130 (by decide +kernel) rfl), by decide +kernel, by decide +kernel, by decide +kernel⟩, (gT_at 1517 (by decide +kernel) rfl), (gT_at 1518 (by decide +kernel) rfl)⟩
theorem mt_X7_few : gMV yX7_few cX7_few 5 (some .int) 2 := ⟨⟨(gT_at 1523 (by decide +kernel) rfl), (gT_at 130 (by decide +kernel) rfl), by decide +kernel, by decide +kernel, by decide +kernel⟩, (gT_at 1521 (by decide +kernel) rfl), (gT_at 1522 (by decide +kernel) rfl)⟩
theorem mt_X7_rota : gMV yX7_rota cX7_rota 8 (some .int) 3 := ⟨⟨(gT_at 1527 (by decide +kernel) rfl), (gT_at 130 (by decide +kernel) rfl), by decide +kernel, by decide +kernel, by decide +kernel⟩, (gT_at 1525 (by decide +kernel) rfl), (gT_at 1526 (by decide +kernel) rfl)⟩
theorem mt_X7_seed : gMV yX7_seed cX7_seed 3 (some .int) 1 := ⟨⟨(gT_at 1531 (by decide +kernel) rfl), (gT_at 130 (by decide +kernel) rfl), by decide +kernel, by decide +kernel, by decide +kernel⟩, (gT_at 1529 (by decide +kernel) rfl), (gT_at 1530 (by decide +kernel) rfl)⟩
theorem mt_X7_draw : gMV yX7_draw cX7_draw 2 (some .int) 1 := ⟨⟨(gT_at 1544 (by decide +kernel) rfl), (gT_at 130 (by decide +kernel) rfl), by decide +kernel, by decide +kernel, by decide +kernel⟩, (gT_at 1543 (by decide +kernel) rfl), (gT_at 118 (by decide +kernel) rfl)⟩
theorem mt_X7_thousandths : gMV yX7_thousandths cX7_thousandths 7 (some .int) 3 := ⟨⟨(gT_at 1540 (by decide +kernel) rfl), (gT_at 130 (by decide +kernel) rfl), by decide +kernel, by decide +kernel, by decide +kernel⟩, (gT_at 1539 (by decide +kernel) rfl), (gT_at 117 (by decide +kernel) rfl)⟩
theorem mt_X7_doers : gMV yX7_doers cX7_doers 8 (some .int) 2 := ⟨⟨(gT_at 1535 (by decide +kernel) rfl), (gT_at 130 (by decide +kernel) rfl), by decide +kernel, by decide +kernel, by decide +kernel⟩, (gT_at 1533 (by decide +kernel) rfl), (gT_at 1534 (by decide +kernel) rfl)⟩
theorem mt_X7_hourOf : gMV yX7_hourOf cX7_hourOf 6 (some .int) 3 := ⟨⟨(gT_at 1554 (by decide +kernel) rfl), (gT_at 130 (by decide +kernel) rfl), by decide +kernel, by decide +kernel, by decide +kernel⟩, (gT_at 1553 (by decide +kernel) rfl), (gT_at 119 (by decide +kernel) rfl)⟩
theorem mt_X7_light : gMV yX7_light cX7_light 5 (some .int) 2 := ⟨⟨(gT_at 1549 (by decide +kernel) rfl), (gT_at 130 (by decide +kernel) rfl), by decide +kernel, by decide +kernel, by decide +kernel⟩, (gT_at 1547 (by decide +kernel) rfl), (gT_at 1548 (by decide +kernel) rfl)⟩
theorem mt_X7_late : gMV yX7_late cX7_late 5 (some .int) 2 := ⟨⟨(gT_at 1558 (by decide +kernel) rfl), (gT_at 130 (by decide +kernel) rfl), by decide +kernel, by decide +kernel, by decide +kernel⟩, (gT_at 1556 (by decide +kernel) rfl), (gT_at 1557 (by decide +kernel) rfl)⟩
theorem mt_X7_over : gMS yX7_over cX7_over 3 none 2 := ⟨⟨(gT_at 1566 (by decide +kernel) rfl), (gT_at 130 (by decide +kernel) rfl), by decide +kernel, by decide +kernel, by decide +kernel⟩, (gT_at 1565 (by decide +kernel) rfl)⟩
theorem mt_X7_begin : gMV yX7_begin cX7_begin 2 (some .int) 1 := ⟨⟨(gT_at 1563 (by decide +kernel) rfl), (gT_at 130 (by decide +kernel) rfl), by decide +kernel, by decide +kernel, by decide +kernel⟩, (gT_at 1561 (by decide +kernel) rfl), (gT_at 1562 (by decide +kernel) rfl)⟩
theorem mt_X7_isDone : gMV yX7_isDone cX7_isDone 1 (some .boolean) 0 := ⟨⟨(gT_at 1574 (by decide +kernel) rfl), (gT_at 130 (by decide +kernel) rfl), by decide +kernel, by decide +kernel, by decide +kernel⟩, (gT_at 1573 (by decide +kernel) rfl), (gT_at 120 (by decide +kernel) rfl)⟩
theorem mt_X7_step : gMV yX7_step cX7_step 4 (some .int) 1 := ⟨⟨(gT_at 1570 (by decide +kernel) rfl), (gT_at 130 (by decide +kernel) rfl), by decide +kernel, by decide +kernel, by decide +kernel⟩, (gT_at 1568 (by decide +kernel) rfl), (gT_at 1569 (by decide +kernel) rfl)⟩
theorem mt_X7_search : gMV yX7_search cX7_search 2 (some .int) 1 := ⟨⟨(gT_at 1578 (by decide +kernel) rfl), (gT_at 130 (by decide +kernel) rfl), by decide +kernel, by decide +kernel, by decide +kernel⟩, (gT_at 1576 (by decide +kernel) rfl), (gT_at 1577 (by decide +kernel) rfl)⟩
theorem mt_X7_takeFrom : gMV yX7_takeFrom cX7_takeFrom 3 none 1 := ⟨⟨(gT_at 1588 (by decide +kernel) rfl), (gT_at 130 (by decide +kernel) rfl), by decide +kernel, by decide +kernel, by decide +kernel⟩, (gT_at 1587 (by decide +kernel) rfl), (gT_at 121 (by decide +kernel) rfl)⟩
theorem mt_X7_image : gMV yX7_image cX7_image 1 (some .int) 0 := ⟨⟨(gT_at 1582 (by decide +kernel) rfl), (gT_at 130 (by decide +kernel) rfl), by decide +kernel, by decide +kernel, by decide +kernel⟩, (gT_at 1580 (by decide +kernel) rfl), (gT_at 1581 (by decide +kernel) rfl)⟩
theorem mt_X7_back : gMV yX7_back cX7_back 1 (some .int) 0 := ⟨⟨(gT_at 1592 (by decide +kernel) rfl), (gT_at 130 (by decide +kernel) rfl), by decide +kernel, by decide +kernel, by decide +kernel⟩, (gT_at 1590 (by decide +kernel) rfl), (gT_at 1591 (by decide +kernel) rfl)⟩
theorem mt_X7_status : gMV yX7_status cX7_status 4 (some .int) 1 := ⟨⟨(gT_at 1596 (by decide +kernel) rfl), (gT_at 130 (by decide +kernel) rfl), by decide +kernel, by decide +kernel, by decide +kernel⟩, (gT_at 1594 (by decide +kernel) rfl), (gT_at 1595 (by decide +kernel) rfl)⟩
theorem mt_J6_bitCount_0f7a4 : gMS yJ6_bitCount_0f7a4 cJ6_bitCount_0f7a4 1 (some .int) 1 := ⟨⟨(gT_at 646 (by decide +kernel) rfl), (gT_at 137 (by decide +kernel) rfl), by decide +kernel, by decide +kernel, by decide +kernel⟩, (gT_at 645 (by decide +kernel) rfl)⟩
theorem mt_J0_length_8abf5 : gMV yJ0_length_8abf5 cJ0_length_8abf5 1 (some .int) 0 := ⟨⟨(gT_at 497 (by decide +kernel) rfl), (gT_at 133 (by decide +kernel) rfl), by decide +kernel, by decide +kernel, by decide +kernel⟩, (gT_at 495 (by decide +kernel) rfl), (gT_at 496 (by decide +kernel) rfl)⟩
theorem mt_J0_charAt_5068e : gMV yJ0_charAt_5068e cJ0_charAt_5068e 2 (some .char) 1 := ⟨⟨(gT_at 507 (by decide +kernel) rfl), (gT_at 133 (by decide +kernel) rfl), by decide +kernel, by decide +kernel, by decide +kernel⟩, (gT_at 505 (by decide +kernel) rfl), (gT_at 506 (by decide +kernel) rfl)⟩
theorem mt_J0_coder_7d493 : gMV yJ0_coder_7d493 cJ0_coder_7d493 1 (some .byte) 0 := ⟨⟨(gT_at 501 (by decide +kernel) rfl), (gT_at 133 (by decide +kernel) rfl), by decide +kernel, by decide +kernel, by decide +kernel⟩, (gT_at 499 (by decide +kernel) rfl), (gT_at 500 (by decide +kernel) rfl)⟩
theorem mt_J0_isLatin1_aae02 : gMV yJ0_isLatin1_aae02 cJ0_isLatin1_aae02 1 (some .boolean) 0 := ⟨⟨(gT_at 511 (by decide +kernel) rfl), (gT_at 133 (by decide +kernel) rfl), by decide +kernel, by decide +kernel, by decide +kernel⟩, (gT_at 509 (by decide +kernel) rfl), (gT_at 510 (by decide +kernel) rfl)⟩
theorem mt_J0_checkIndex_df160 : gMS yJ0_checkIndex_df160 cJ0_checkIndex_df160 2 none 2 := ⟨⟨(gT_at 517 (by decide +kernel) rfl), (gT_at 133 (by decide +kernel) rfl), by decide +kernel, by decide +kernel, by decide +kernel⟩, (gT_at 516 (by decide +kernel) rfl)⟩
theorem mt_J1_charAt_3b067 : gMS yJ1_charAt_3b067 cJ1_charAt_3b067 2 (some .char) 2 := ⟨⟨(gT_at 514 (by decide +kernel) rfl), (gT_at 134 (by decide +kernel) rfl), by decide +kernel, by decide +kernel, by decide +kernel⟩, (gT_at 513 (by decide +kernel) rfl)⟩
theorem mt_J2_getChar_3b067 : gMS yJ2_getChar_3b067 cJ2_getChar_3b067 2 (some .char) 2 := ⟨⟨(gT_at 535 (by decide +kernel) rfl), (gT_at 136 (by decide +kernel) rfl), by decide +kernel, by decide +kernel, by decide +kernel⟩, (gT_at 534 (by decide +kernel) rfl)⟩
theorem mt_J2_length_9d52b : gMS yJ2_length_9d52b cJ2_length_9d52b 1 (some .int) 1 := ⟨⟨(gT_at 531 (by decide +kernel) rfl), (gT_at 136 (by decide +kernel) rfl), by decide +kernel, by decide +kernel, by decide +kernel⟩, (gT_at 530 (by decide +kernel) rfl)⟩
theorem mt_J2_charAt_3b067 : gMS yJ2_charAt_3b067 cJ2_charAt_3b067 2 (some .char) 2 := ⟨⟨(gT_at 525 (by decide +kernel) rfl), (gT_at 136 (by decide +kernel) rfl), by decide +kernel, by decide +kernel, by decide +kernel⟩, (gT_at 524 (by decide +kernel) rfl)⟩
theorem mt_J2_checkIndex_2214a : gMS yJ2_checkIndex_2214a cJ2_checkIndex_2214a 2 none 2 := ⟨⟨(gT_at 528 (by decide +kernel) rfl), (gT_at 136 (by decide +kernel) rfl), by decide +kernel, by decide +kernel, by decide +kernel⟩, (gT_at 527 (by decide +kernel) rfl)⟩
theorem mt_J7_fill_d0a16 : gMS yJ7_fill_d0a16 cJ7_fill_d0a16 5 none 2 := ⟨⟨(gT_at 376 (by decide +kernel) rfl), (gT_at 131 (by decide +kernel) rfl), by decide +kernel, by decide +kernel, by decide +kernel⟩, (gT_at 375 (by decide +kernel) rfl)⟩
theorem mt_J7_fill_53178 : gMS yJ7_fill_53178 cJ7_fill_53178 4 none 2 := ⟨⟨(gT_at 556 (by decide +kernel) rfl), (gT_at 131 (by decide +kernel) rfl), by decide +kernel, by decide +kernel, by decide +kernel⟩, (gT_at 555 (by decide +kernel) rfl)⟩
theorem mt_J3_checkIndex_8e157 : gMS yJ3_checkIndex_8e157 cJ3_checkIndex_8e157 3 (some .int) 3 := ⟨⟨(gT_at 522 (by decide +kernel) rfl), (gT_at 135 (by decide +kernel) rfl), by decide +kernel, by decide +kernel, by decide +kernel⟩, (gT_at 521 (by decide +kernel) rfl)⟩
theorem ml_L_9 : gML RL 9 yX6_init := Or.inl (gT_at 140 (by decide +kernel) rfl)
theorem ml_X6_17 : gML RX6 17 yX1_init := Or.inr ⟨"SomebodyWill", (gN_at 150 (by decide +kernel) rfl)⟩
theorem fl_X1_9 : gFL RX1 9 RX1 "bytes" "[I" := Or.inl (gT_at 154 (by decide +kernel) rfl)
theorem fl_X1_15 : gFL RX1 15 RX1 "size" "I" := Or.inl (gT_at 155 (by decide +kernel) rfl)
theorem fl_X6_117 : gFL RX6 117 RX1 "size" "I" := Or.inr ⟨"SomebodyWill", (gN_at 156 (by decide +kernel) rfl)⟩
theorem fl_X1_44 : gFL RX1 44 RX1 "sort" "I" := Or.inl (gT_at 157 (by decide +kernel) rfl)
theorem fl_X6_135 : gFL RX6 135 RX1 "start" "I" := Or.inr ⟨"SomebodyWill", (gN_at 158 (by decide +kernel) rfl)⟩
theorem fl_X1_129 : gFL RX1 129 RX1 "start" "I" := Or.inl (gT_at 159 (by decide +kernel) rfl)
theorem fl_X1_19 : gFL RX1 19 RX1 "behind" "I" := Or.inl (gT_at 160 (by decide +kernel) rfl)
theorem fl_X1_35 : gFL RX1 35 RX1 "passed" "I" := Or.inl (gT_at 161 (by decide +kernel) rfl)
theorem ml_X6_24 : gML RX6 24 yX5_init := Or.inr ⟨"SomebodyWill", (gN_at 178 (by decide +kernel) rfl)⟩
theorem ml_X5_23 : gML RX5 23 yX2_init := Or.inr ⟨"SomebodyWill", (gN_at 186 (by decide +kernel) rfl)⟩
theorem ml_X2_11 : gML RX2 11 yX4_init := Or.inr ⟨"SomebodyWill", (gN_at 192 (by decide +kernel) rfl)⟩
theorem fl_X4_9 : gFL RX4 9 RX4 "cost" "[I" := Or.inl (gT_at 196 (by decide +kernel) rfl)
theorem fl_X1_53 : gFL RX1 53 RX4 "cost" "[I" := Or.inr ⟨"SomebodyWill", (gN_at 197 (by decide +kernel) rfl)⟩
theorem fl_X6_161 : gFL RX6 161 RX4 "cost" "[I" := Or.inr ⟨"SomebodyWill", (gN_at 198 (by decide +kernel) rfl)⟩
theorem fl_X4_15 : gFL RX4 15 RX4 "worth" "[I" := Or.inl (gT_at 199 (by decide +kernel) rfl)
theorem fl_X1_61 : gFL RX1 61 RX4 "worth" "[I" := Or.inr ⟨"SomebodyWill", (gN_at 200 (by decide +kernel) rfl)⟩
theorem fl_X6_164 : gFL RX6 164 RX4 "worth" "[I" := Or.inr ⟨"SomebodyWill", (gN_at 201 (by decide +kernel) rfl)⟩
theorem fl_X4_18 : gFL RX4 18 RX4 "near" "[I" := Or.inl (gT_at 202 (by decide +kernel) rfl)
theorem fl_X6_167 : gFL RX6 167 RX4 "near" "[I" := Or.inr ⟨"SomebodyWill", (gN_at 203 (by decide +kernel) rfl)⟩
theorem fl_X4_21 : gFL RX4 21 RX4 "wayKind" "[I" := Or.inl (gT_at 204 (by decide +kernel) rfl)
theorem fl_X6_173 : gFL RX6 173 RX4 "wayKind" "[I" := Or.inr ⟨"SomebodyWill", (gN_at 205 (by decide +kernel) rfl)⟩
theorem fl_X4_24 : gFL RX4 24 RX4 "wayTold" "[I" := Or.inl (gT_at 206 (by decide +kernel) rfl)
theorem fl_X4_27 : gFL RX4 27 RX4 "price" "[I" := Or.inl (gT_at 207 (by decide +kernel) rfl)
theorem fl_X4_30 : gFL RX4 30 RX4 "pays" "[I" := Or.inl (gT_at 208 (by decide +kernel) rfl)
theorem fl_X6_176 : gFL RX6 176 RX4 "pays" "[I" := Or.inr ⟨"SomebodyWill", (gN_at 209 (by decide +kernel) rfl)⟩
theorem fl_X4_33 : gFL RX4 33 RX4 "persons" "I" := Or.inl (gT_at 210 (by decide +kernel) rfl)
theorem fl_X1_83 : gFL RX1 83 RX4 "persons" "I" := Or.inr ⟨"SomebodyWill", (gN_at 211 (by decide +kernel) rfl)⟩
theorem fl_X6_143 : gFL RX6 143 RX4 "persons" "I" := Or.inr ⟨"SomebodyWill", (gN_at 212 (by decide +kernel) rfl)⟩
theorem fl_X4_37 : gFL RX4 37 RX4 "more" "I" := Or.inl (gT_at 213 (by decide +kernel) rfl)
theorem fl_X1_102 : gFL RX1 102 RX4 "more" "I" := Or.inr ⟨"SomebodyWill", (gN_at 214 (by decide +kernel) rfl)⟩
theorem fl_X6_149 : gFL RX6 149 RX4 "more" "I" := Or.inr ⟨"SomebodyWill", (gN_at 215 (by decide +kernel) rfl)⟩
theorem fl_X4_40 : gFL RX4 40 RX4 "musts" "I" := Or.inl (gT_at 216 (by decide +kernel) rfl)
theorem fl_X6_152 : gFL RX6 152 RX4 "musts" "I" := Or.inr ⟨"SomebodyWill", (gN_at 217 (by decide +kernel) rfl)⟩
theorem fl_X2_12 : gFL RX2 12 RX2 "street" "LSomebodyWill$Street;" := Or.inl (gT_at 239 (by decide +kernel) rfl)
theorem fl_X2_22 : gFL RX2 22 RX2 "isUnderWay" "Z" := Or.inl (gT_at 240 (by decide +kernel) rfl)
theorem fl_X6_337 : gFL RX6 337 RX2 "isUnderWay" "Z" := Or.inr ⟨"SomebodyWill", (gN_at 241 (by decide +kernel) rfl)⟩
theorem fl_X2_26 : gFL RX2 26 RX2 "streetNumber" "I" := Or.inl (gT_at 242 (by decide +kernel) rfl)
theorem fl_X6_347 : gFL RX6 347 RX2 "streetNumber" "I" := Or.inr ⟨"SomebodyWill", (gN_at 243 (by decide +kernel) rfl)⟩
theorem fl_X2_30 : gFL RX2 30 RX2 "next" "I" := Or.inl (gT_at 244 (by decide +kernel) rfl)
theorem fl_X6_350 : gFL RX6 350 RX2 "next" "I" := Or.inr ⟨"SomebodyWill", (gN_at 245 (by decide +kernel) rfl)⟩
theorem fl_X2_33 : gFL RX2 33 RX2 "found" "I" := Or.inl (gT_at 246 (by decide +kernel) rfl)
theorem fl_X6_353 : gFL RX6 353 RX2 "found" "I" := Or.inr ⟨"SomebodyWill", (gN_at 247 (by decide +kernel) rfl)⟩
theorem fl_X2_36 : gFL RX2 36 RX2 "last" "I" := Or.inl (gT_at 248 (by decide +kernel) rfl)
theorem fl_X6_356 : gFL RX6 356 RX2 "last" "I" := Or.inr ⟨"SomebodyWill", (gN_at 249 (by decide +kernel) rfl)⟩
theorem ml_X5_32 : gML RX5 32 yX4_init := Or.inr ⟨"SomebodyWill", (gN_at 263 (by decide +kernel) rfl)⟩
theorem fl_X5_11 : gFL RX5 11 RX5 "streets" "[LSomebodyWill$Street;" := Or.inl (gT_at 264 (by decide +kernel) rfl)
theorem fl_X5_17 : gFL RX5 17 RX5 "known" "[I" := Or.inl (gT_at 265 (by decide +kernel) rfl)
theorem fl_X6_267 : gFL RX6 267 RX5 "known" "[I" := Or.inr ⟨"SomebodyWill", (gN_at 266 (by decide +kernel) rfl)⟩
theorem fl_X5_24 : gFL RX5 24 RX5 "hunt" "LSomebodyWill$Search;" := Or.inl (gT_at 267 (by decide +kernel) rfl)
theorem fl_X6_326 : gFL RX6 326 RX5 "hunt" "LSomebodyWill$Search;" := Or.inr ⟨"SomebodyWill", (gN_at 268 (by decide +kernel) rfl)⟩
theorem fl_X5_33 : gFL RX5 33 RX5 "size" "I" := Or.inl (gT_at 269 (by decide +kernel) rfl)
theorem fl_X6_138 : gFL RX6 138 RX5 "size" "I" := Or.inr ⟨"SomebodyWill", (gN_at 270 (by decide +kernel) rfl)⟩
theorem fl_X5_28 : gFL RX5 28 RX5 "chanceSeed" "I" := Or.inl (gT_at 271 (by decide +kernel) rfl)
theorem fl_X6_323 : gFL RX6 323 RX5 "chanceSeed" "I" := Or.inr ⟨"SomebodyWill", (gN_at 272 (by decide +kernel) rfl)⟩
theorem ml_X6_34 : gML RX6 34 yX4_init := Or.inr ⟨"SomebodyWill", (gN_at 285 (by decide +kernel) rfl)⟩
theorem ml_X6_41 : gML RX6 41 yX0_init := Or.inr ⟨"SomebodyWill", (gN_at 288 (by decide +kernel) rfl)⟩
theorem fl_X0_11 : gFL RX0 11 RX0 "seen" "[J" := Or.inl (gT_at 292 (by decide +kernel) rfl)
theorem fl_X0_21 : gFL RX0 21 RX0 "end" "I" := Or.inl (gT_at 293 (by decide +kernel) rfl)
theorem fl_X6_249 : gFL RX6 249 RX0 "end" "I" := Or.inr ⟨"SomebodyWill", (gN_at 294 (by decide +kernel) rfl)⟩
theorem fl_X0_25 : gFL RX0 25 RX0 "changes" "I" := Or.inl (gT_at 295 (by decide +kernel) rfl)
theorem fl_X6_252 : gFL RX6 252 RX0 "changes" "I" := Or.inr ⟨"SomebodyWill", (gN_at 296 (by decide +kernel) rfl)⟩
theorem fl_X0_28 : gFL RX0 28 RX0 "ringRounds" "I" := Or.inl (gT_at 297 (by decide +kernel) rfl)
theorem fl_X6_246 : gFL RX6 246 RX0 "ringRounds" "I" := Or.inr ⟨"SomebodyWill", (gN_at 298 (by decide +kernel) rfl)⟩
theorem ml_X6_50 : gML RX6 50 yX3_init := Or.inr ⟨"SomebodyWill", (gN_at 310 (by decide +kernel) rfl)⟩
theorem fl_X3_9 : gFL RX3 9 RX3 "places" "[J" := Or.inl (gT_at 314 (by decide +kernel) rfl)
theorem fl_X6_86 : gFL RX6 86 RX3 "places" "[J" := Or.inr ⟨"SomebodyWill", (gN_at 315 (by decide +kernel) rfl)⟩
theorem fl_X3_15 : gFL RX3 15 RX3 "holding" "I" := Or.inl (gT_at 316 (by decide +kernel) rfl)
theorem fl_X6_82 : gFL RX6 82 RX3 "holding" "I" := Or.inr ⟨"SomebodyWill", (gN_at 317 (by decide +kernel) rfl)⟩
theorem fl_X3_19 : gFL RX3 19 RX3 "size" "I" := Or.inl (gT_at 318 (by decide +kernel) rfl)
theorem fl_X3_28 : gFL RX3 28 RX3 "wayTold" "I" := Or.inl (gT_at 319 (by decide +kernel) rfl)
theorem fl_X6_202 : gFL RX6 202 RX3 "wayTold" "I" := Or.inr ⟨"SomebodyWill", (gN_at 320 (by decide +kernel) rfl)⟩
theorem fl_X6_11 : gFL RX6 11 RX6 "shelves" "[LSomebodyWill$Shelf;" := Or.inl (gT_at 330 (by decide +kernel) rfl)
theorem fl_X6_18 : gFL RX6 18 RX6 "tape" "LSomebodyWill$Reader;" := Or.inl (gT_at 331 (by decide +kernel) rfl)
theorem fl_X6_25 : gFL RX6 25 RX6 "town" "LSomebodyWill$Town;" := Or.inl (gT_at 332 (by decide +kernel) rfl)
theorem fl_X6_29 : gFL RX6 29 RX6 "kept" "LSomebodyWill$Town;" := Or.inl (gT_at 333 (by decide +kernel) rfl)
theorem fl_X6_35 : gFL RX6 35 RX6 "trial" "LSomebodyWill$Street;" := Or.inl (gT_at 334 (by decide +kernel) rfl)
theorem fl_X6_42 : gFL RX6 42 RX6 "course" "LSomebodyWill$Course;" := Or.inl (gT_at 335 (by decide +kernel) rfl)
theorem fl_X6_46 : gFL RX6 46 RX6 "refused" "[I" := Or.inl (gT_at 336 (by decide +kernel) rfl)
theorem fl_X6_362 : gFL RX6 362 RX6 "isKept" "Z" := Or.inl (gT_at 337 (by decide +kernel) rfl)
theorem ml_L_13 : gML RL 13 yX6_row := Or.inl (gT_at 355 (by decide +kernel) rfl)
theorem ml_X6_51 : gML RX6 51 yX6_shelfAt := Or.inl (gT_at 359 (by decide +kernel) rfl)
theorem ml_X6_55 : gML RX6 55 yX6_isWithin := Or.inl (gT_at 363 (by decide +kernel) rfl)
theorem ml_X6_59 : gML RX6 59 yX6_refuse := Or.inl (gT_at 366 (by decide +kernel) rfl)
theorem ml_X6_63 : gML RX6 63 yX3_putRow := Or.inr ⟨"SomebodyWill", (gN_at 370 (by decide +kernel) rfl)⟩
theorem ml_X3_22 : gML RX3 22 yJ7_fill_d0a16 := Or.inl (gT_at 374 (by decide +kernel) rfl)
theorem ml_L_20 : gML RL 20 yX6_set := Or.inl (gT_at 377 (by decide +kernel) rfl)
theorem ml_X6_67 : gML RX6 67 yX3_isWay := Or.inr ⟨"SomebodyWill", (gN_at 381 (by decide +kernel) rfl)⟩
theorem ml_X6_71 : gML RX6 71 yX3_isRow := Or.inr ⟨"SomebodyWill", (gN_at 385 (by decide +kernel) rfl)⟩
theorem ml_X6_74 : gML RX6 74 yX3_hasPlaces := Or.inr ⟨"SomebodyWill", (gN_at 389 (by decide +kernel) rfl)⟩
theorem ml_X6_78 : gML RX6 78 yX3_put := Or.inr ⟨"SomebodyWill", (gN_at 393 (by decide +kernel) rfl)⟩
theorem ml_L_25 : gML RL 25 yX6_copy := Or.inl (gT_at 397 (by decide +kernel) rfl)
theorem ml_L_30 : gML RL 30 yX6_element := Or.inl (gT_at 404 (by decide +kernel) rfl)
theorem ml_X6_96 : gML RX6 96 yX3_told := Or.inr ⟨"SomebodyWill", (gN_at 408 (by decide +kernel) rfl)⟩
theorem ml_X3_31 : gML RX3 31 yX3_isRow := Or.inl (gT_at 412 (by decide +kernel) rfl)
theorem ml_X3_35 : gML RX3 35 yX3_hasPlaces := Or.inl (gT_at 413 (by decide +kernel) rfl)
theorem ml_L_35 : gML RL 35 yX6_holds := Or.inl (gT_at 414 (by decide +kernel) rfl)
theorem ml_L_40 : gML RL 40 yX6_way := Or.inl (gT_at 418 (by decide +kernel) rfl)
theorem ml_X6_100 : gML RX6 100 yX6_isWayToldBy := Or.inl (gT_at 422 (by decide +kernel) rfl)
theorem ml_X6_103 : gML RX6 103 yX3_putWay := Or.inr ⟨"SomebodyWill", (gN_at 425 (by decide +kernel) rfl)⟩
theorem ml_X6_106 : gML RX6 106 yX3_toldSet := Or.inr ⟨"SomebodyWill", (gN_at 429 (by decide +kernel) rfl)⟩
theorem ml_X3_39 : gML RX3 39 yX3_told := Or.inl (gT_at 433 (by decide +kernel) rfl)
theorem ml_L_44 : gML RL 44 yX6_says := Or.inl (gT_at 434 (by decide +kernel) rfl)
theorem ml_X6_110 : gML RX6 110 yX3_isOfKind := Or.inr ⟨"SomebodyWill", (gN_at 438 (by decide +kernel) rfl)⟩
theorem ml_X3_43 : gML RX3 43 yX3_wayKind := Or.inl (gT_at 442 (by decide +kernel) rfl)
theorem ml_X6_114 : gML RX6 114 yX3_saidAs := Or.inr ⟨"SomebodyWill", (gN_at 446 (by decide +kernel) rfl)⟩
theorem ml_L_49 : gML RL 49 yX6_feed := Or.inl (gT_at 450 (by decide +kernel) rfl)
theorem ml_X6_120 : gML RX6 120 yX1_append := Or.inr ⟨"SomebodyWill", (gN_at 454 (by decide +kernel) rfl)⟩
theorem ml_L_53 : gML RL 53 yX6_wipe := Or.inl (gT_at 458 (by decide +kernel) rfl)
theorem ml_X6_124 : gML RX6 124 yX1_empty := Or.inr ⟨"SomebodyWill", (gN_at 462 (by decide +kernel) rfl)⟩
theorem ml_L_58 : gML RL 58 yX6_street := Or.inl (gT_at 466 (by decide +kernel) rfl)
theorem ml_X6_127 : gML RX6 127 yX5_placeForNext := Or.inr ⟨"SomebodyWill", (gN_at 470 (by decide +kernel) rfl)⟩
theorem ml_X6_131 : gML RX6 131 yX1_readStreet := Or.inr ⟨"SomebodyWill", (gN_at 474 (by decide +kernel) rfl)⟩
theorem ml_X1_22 : gML RX1 22 yX1_advance := Or.inl (gT_at 478 (by decide +kernel) rfl)
theorem ml_X1_136 : gML RX1 136 yX1_sortOf := Or.inl (gT_at 482 (by decide +kernel) rfl)
theorem ml_X1_27 : gML RX1 27 yX1_passWord := Or.inl (gT_at 486 (by decide +kernel) rfl)
theorem ml_X1_121 : gML RX1 121 yX1_isWord := Or.inl (gT_at 490 (by decide +kernel) rfl)
theorem ml_X1_124 : gML RX1 124 yJ0_length_8abf5 := Or.inl (gT_at 494 (by decide +kernel) rfl)
theorem ml_J0_335 : gML RJ0 335 yJ0_coder_7d493 := Or.inl (gT_at 498 (by decide +kernel) rfl)
theorem fl_J0_38 : gFL RJ0 38 RJ0 "COMPACT_STRINGS" "Z" := Or.inl (gT_at 502 (by decide +kernel) rfl)
theorem ml_X1_132 : gML RX1 132 yJ0_charAt_5068e := Or.inl (gT_at 504 (by decide +kernel) rfl)
theorem ml_J0_492 : gML RJ0 492 yJ0_isLatin1_aae02 := Or.inl (gT_at 508 (by decide +kernel) rfl)
theorem ml_J0_495 : gML RJ0 495 yJ1_charAt_3b067 := Or.inl (gT_at 512 (by decide +kernel) rfl)
theorem ml_J1_9 : gML RJ1 9 yJ0_checkIndex_df160 := Or.inl (gT_at 515 (by decide +kernel) rfl)
theorem fl_J0_1053 : gFL RJ0 1053 RJ3 "SIOOBE_FORMATTER" "Ljava/util/function/BiFunction;" := Or.inl (gT_at 518 (by decide +kernel) rfl)
theorem ml_J0_1059 : gML RJ0 1059 yJ3_checkIndex_8e157 := Or.inl (gT_at 520 (by decide +kernel) rfl)
theorem ml_J0_498 : gML RJ0 498 yJ2_charAt_3b067 := Or.inl (gT_at 523 (by decide +kernel) rfl)
theorem ml_J2_67 : gML RJ2 67 yJ2_checkIndex_2214a := Or.inl (gT_at 526 (by decide +kernel) rfl)
theorem ml_J2_48 : gML RJ2 48 yJ2_length_9d52b := Or.inl (gT_at 529 (by decide +kernel) rfl)
theorem ml_J2_414 : gML RJ2 414 yJ0_checkIndex_df160 := Or.inl (gT_at 532 (by decide +kernel) rfl)
theorem ml_J2_71 : gML RJ2 71 yJ2_getChar_3b067 := Or.inl (gT_at 533 (by decide +kernel) rfl)
theorem fl_J2_44 : gFL RJ2 44 RJ2 "$assertionsDisabled" "Z" := Or.inl (gT_at 536 (by decide +kernel) rfl)
theorem fl_J2_59 : gFL RJ2 59 RJ2 "HI_BYTE_SHIFT" "I" := Or.inl (gT_at 538 (by decide +kernel) rfl)
theorem fl_J2_63 : gFL RJ2 63 RJ2 "LO_BYTE_SHIFT" "I" := Or.inl (gT_at 540 (by decide +kernel) rfl)
theorem ml_X1_31 : gML RX1 31 yX1_passNumber := Or.inl (gT_at 542 (by decide +kernel) rfl)
theorem ml_X1_108 : gML RX1 108 yX1_numberAtHand := Or.inl (gT_at 546 (by decide +kernel) rfl)
theorem ml_X1_38 : gML RX1 38 yX4_clear := Or.inr ⟨"SomebodyWill", (gN_at 550 (by decide +kernel) rfl)⟩
theorem ml_X4_43 : gML RX4 43 yJ7_fill_53178 := Or.inl (gT_at 554 (by decide +kernel) rfl)
theorem ml_X1_47 : gML RX1 47 yX1_readStatement := Or.inl (gT_at 557 (by decide +kernel) rfl)
theorem ml_X1_55 : gML RX1 55 yX1_readForAll := Or.inl (gT_at 562 (by decide +kernel) rfl)
theorem ml_X1_96 : gML RX1 96 yJ7_fill_53178 := Or.inl (gT_at 566 (by decide +kernel) rfl)
theorem ml_X1_65 : gML RX1 65 yX1_readMore := Or.inl (gT_at 569 (by decide +kernel) rfl)
theorem ml_X1_70 : gML RX1 70 yX1_readOne := Or.inl (gT_at 574 (by decide +kernel) rfl)
theorem ml_X1_104 : gML RX1 104 yX4_value := Or.inr ⟨"SomebodyWill", (gN_at 578 (by decide +kernel) rfl)⟩
theorem ml_X4_55 : gML RX4 55 yX4_hasPerson := Or.inl (gT_at 582 (by decide +kernel) rfl)
theorem ml_X1_75 : gML RX1 75 yX1_readTie := Or.inl (gT_at 587 (by decide +kernel) rfl)
theorem ml_X1_114 : gML RX1 114 yX4_join := Or.inr ⟨"SomebodyWill", (gN_at 592 (by decide +kernel) rfl)⟩
theorem ml_X4_77 : gML RX4 77 yX4_hasPair := Or.inl (gT_at 596 (by decide +kernel) rfl)
theorem ml_X4_83 : gML RX4 83 yX4_priceAt := Or.inl (gT_at 600 (by decide +kernel) rfl)
theorem ml_X1_80 : gML RX1 80 yX1_readMust := Or.inl (gT_at 605 (by decide +kernel) rfl)
theorem ml_X1_117 : gML RX1 117 yX4_setMust := Or.inr ⟨"SomebodyWill", (gN_at 609 (by decide +kernel) rfl)⟩
theorem ml_X1_88 : gML RX1 88 yX4_joinNeighbours := Or.inr ⟨"SomebodyWill", (gN_at 614 (by decide +kernel) rfl)⟩
theorem ml_X4_80 : gML RX4 80 yX4_areNear := Or.inl (gT_at 618 (by decide +kernel) rfl)
theorem ml_X4_63 : gML RX4 63 yX4_isIn := Or.inl (gT_at 622 (by decide +kernel) rfl)
theorem ml_X4_74 : gML RX4 74 yX4_join := Or.inl (gT_at 625 (by decide +kernel) rfl)
theorem ml_X1_93 : gML RX1 93 yX4_joinAll := Or.inr ⟨"SomebodyWill", (gN_at 627 (by decide +kernel) rfl)⟩
theorem ml_L_62 : gML RL 62 yX6_streetOf := Or.inl (gT_at 632 (by decide +kernel) rfl)
theorem ml_X6_139 : gML RX6 139 yX5_streetAt := Or.inr ⟨"SomebodyWill", (gN_at 636 (by decide +kernel) rfl)⟩
theorem ml_X6_146 : gML RX6 146 yX4_ties := Or.inr ⟨"SomebodyWill", (gN_at 640 (by decide +kernel) rfl)⟩
theorem ml_X4_86 : gML RX4 86 yJ6_bitCount_0f7a4 := Or.inl (gT_at 644 (by decide +kernel) rfl)
theorem cn_J6_265 : Cond.constant RJ6 265 (1431655765 : Int32) ∈ gT := (gT_at 647 (by decide +kernel) rfl)
theorem cn_J6_266 : Cond.constant RJ6 266 (858993459 : Int32) ∈ gT := (gT_at 648 (by decide +kernel) rfl)
theorem cn_J6_267 : Cond.constant RJ6 267 (252645135 : Int32) ∈ gT := (gT_at 649 (by decide +kernel) rfl)
theorem ml_X6_155 : gML RX6 155 yX4_prices := Or.inr ⟨"SomebodyWill", (gN_at 650 (by decide +kernel) rfl)⟩
theorem ml_L_66 : gML RL 66 yX6_personOf := Or.inl (gT_at 654 (by decide +kernel) rfl)
theorem ml_X6_158 : gML RX6 158 yX4_hasPerson := Or.inr ⟨"SomebodyWill", (gN_at 658 (by decide +kernel) rfl)⟩
theorem ml_X6_170 : gML RX6 170 yX4_isMust := Or.inr ⟨"SomebodyWill", (gN_at 659 (by decide +kernel) rfl)⟩
theorem ml_L_70 : gML RL 70 yX6_alter := Or.inl (gT_at 663 (by decide +kernel) rfl)
theorem ml_L_75 : gML RL 75 yX6_tie := Or.inl (gT_at 667 (by decide +kernel) rfl)
theorem ml_X6_179 : gML RX6 179 yX4_hasPair := Or.inr ⟨"SomebodyWill", (gN_at 671 (by decide +kernel) rfl)⟩
theorem ml_X6_182 : gML RX6 182 yX4_priceOf := Or.inr ⟨"SomebodyWill", (gN_at 672 (by decide +kernel) rfl)⟩
theorem ml_X6_186 : gML RX6 186 yX4_part := Or.inr ⟨"SomebodyWill", (gN_at 676 (by decide +kernel) rfl)⟩
theorem ml_X6_189 : gML RX6 189 yX4_join := Or.inr ⟨"SomebodyWill", (gN_at 680 (by decide +kernel) rfl)⟩
theorem ml_L_79 : gML RL 79 yX6_must := Or.inl (gT_at 681 (by decide +kernel) rfl)
theorem ml_X6_193 : gML RX6 193 yX4_setMust := Or.inr ⟨"SomebodyWill", (gN_at 685 (by decide +kernel) rfl)⟩
theorem ml_L_84 : gML RL 84 yX6_take := Or.inl (gT_at 686 (by decide +kernel) rfl)
theorem ml_X6_197 : gML RX6 197 yX4_giveWay := Or.inr ⟨"SomebodyWill", (gN_at 690 (by decide +kernel) rfl)⟩
theorem ml_X6_200 : gML RX6 200 yX3_wayKind := Or.inr ⟨"SomebodyWill", (gN_at 694 (by decide +kernel) rfl)⟩
theorem ml_L_88 : gML RL 88 yX6_come := Or.inl (gT_at 695 (by decide +kernel) rfl)
theorem ml_X6_205 : gML RX6 205 yX4_hasSet := Or.inr ⟨"SomebodyWill", (gN_at 699 (by decide +kernel) rfl)⟩
theorem ml_X4_59 : gML RX4 59 yX4_sets := Or.inl (gT_at 703 (by decide +kernel) rfl)
theorem ml_X6_208 : gML RX6 208 yX4_admit := Or.inr ⟨"SomebodyWill", (gN_at 707 (by decide +kernel) rfl)⟩
theorem ml_X4_67 : gML RX4 67 yX4_value := Or.inl (gT_at 711 (by decide +kernel) rfl)
theorem ml_X4_71 : gML RX4 71 yX4_giveWay := Or.inl (gT_at 712 (by decide +kernel) rfl)
theorem ml_L_92 : gML RL 92 yX6_gain := Or.inl (gT_at 713 (by decide +kernel) rfl)
theorem cn_X6_212 : Cond.constant RX6 212 (-1000000 : Int32) ∈ gT := (gT_at 717 (by decide +kernel) rfl)
theorem ml_X6_213 : gML RX6 213 yX4_gainOf := Or.inr ⟨"SomebodyWill", (gN_at 718 (by decide +kernel) rfl)⟩
theorem ml_L_96 : gML RL 96 yX6_total := Or.inl (gT_at 722 (by decide +kernel) rfl)
theorem ml_X6_216 : gML RX6 216 yX6_streetWithSet := Or.inl (gT_at 726 (by decide +kernel) rfl)
theorem ml_X6_220 : gML RX6 220 yX4_goodOf := Or.inr ⟨"SomebodyWill", (gN_at 730 (by decide +kernel) rfl)⟩
theorem ml_X4_92 : gML RX4 92 yX4_gainOf := Or.inl (gT_at 734 (by decide +kernel) rfl)
theorem ml_L_100 : gML RL 100 yX6_judge := Or.inl (gT_at 735 (by decide +kernel) rfl)
theorem ml_X6_223 : gML RX6 223 yX4_firstRestless := Or.inr ⟨"SomebodyWill", (gN_at 739 (by decide +kernel) rfl)⟩
theorem ml_X4_99 : gML RX4 99 yX4_isMust := Or.inl (gT_at 743 (by decide +kernel) rfl)
theorem ml_X4_102 : gML RX4 102 yX4_gainByChange := Or.inl (gT_at 744 (by decide +kernel) rfl)
theorem ml_X4_96 : gML RX4 96 yX4_edge := Or.inl (gT_at 748 (by decide +kernel) rfl)
theorem ml_L_104 : gML RL 104 yX6_count := Or.inl (gT_at 752 (by decide +kernel) rfl)
theorem ml_X6_226 : gML RX6 226 yX4_rests := Or.inr ⟨"SomebodyWill", (gN_at 756 (by decide +kernel) rfl)⟩
theorem ml_X4_111 : gML RX4 111 yX4_isRest := Or.inl (gT_at 760 (by decide +kernel) rfl)
theorem ml_X4_108 : gML RX4 108 yX4_firstRestless := Or.inl (gT_at 764 (by decide +kernel) rfl)
theorem ml_L_108 : gML RL 108 yX6_rest := Or.inl (gT_at 765 (by decide +kernel) rfl)
theorem ml_X6_229 : gML RX6 229 yX4_restNumber := Or.inr ⟨"SomebodyWill", (gN_at 769 (by decide +kernel) rfl)⟩
theorem ml_L_112 : gML RL 112 yX6_fewest := Or.inl (gT_at 773 (by decide +kernel) rfl)
theorem ml_X6_232 : gML RX6 232 yX6_restBy := Or.inl (gT_at 777 (by decide +kernel) rfl)
theorem ml_X6_235 : gML RX6 235 yX4_choose := Or.inr ⟨"SomebodyWill", (gN_at 781 (by decide +kernel) rfl)⟩
theorem ml_X4_114 : gML RX4 114 yX4_hasMustsIn := Or.inl (gT_at 785 (by decide +kernel) rfl)
theorem ml_X4_117 : gML RX4 117 yX4_valueOf := Or.inl (gT_at 789 (by decide +kernel) rfl)
theorem ml_X4_120 : gML RX4 120 yX4_costOf := Or.inl (gT_at 793 (by decide +kernel) rfl)
theorem ml_X4_123 : gML RX4 123 yX4_goodOf := Or.inl (gT_at 797 (by decide +kernel) rfl)
theorem ml_L_116 : gML RL 116 yX6_most := Or.inl (gT_at 798 (by decide +kernel) rfl)
theorem ml_L_120 : gML RL 120 yX6_cheap := Or.inl (gT_at 802 (by decide +kernel) rfl)
theorem ml_L_124 : gML RL 124 yX6_best := Or.inl (gT_at 806 (by decide +kernel) rfl)
theorem ml_L_128 : gML RL 128 yX6_good := Or.inl (gT_at 810 (by decide +kernel) rfl)
theorem ml_L_132 : gML RL 132 yX6_lost := Or.inl (gT_at 814 (by decide +kernel) rfl)
theorem ml_X6_239 : gML RX6 239 yX6_belowGood := Or.inl (gT_at 818 (by decide +kernel) rfl)
theorem ml_L_136 : gML RL 136 yX6_beside := Or.inl (gT_at 822 (by decide +kernel) rfl)
theorem ml_L_140 : gML RL 140 yX6_go := Or.inl (gT_at 826 (by decide +kernel) rfl)
theorem ml_X6_242 : gML RX6 242 yX0_run := Or.inr ⟨"SomebodyWill", (gN_at 830 (by decide +kernel) rfl)⟩
theorem ml_X0_15 : gML RX0 15 yJ7_fill_d0a16 := Or.inl (gT_at 834 (by decide +kernel) rfl)
theorem ml_X0_31 : gML RX0 31 yX0_see := Or.inl (gT_at 835 (by decide +kernel) rfl)
theorem ml_X0_35 : gML RX0 35 yX4_afterRound := Or.inr ⟨"SomebodyWill", (gN_at 839 (by decide +kernel) rfl)⟩
theorem ml_X4_105 : gML RX4 105 yX4_wouldChange := Or.inl (gT_at 843 (by decide +kernel) rfl)
theorem ml_X0_41 : gML RX0 41 yJ6_bitCount_0f7a4 := Or.inl (gT_at 847 (by decide +kernel) rfl)
theorem ml_X0_46 : gML RX0 46 yX0_isSeen := Or.inl (gT_at 848 (by decide +kernel) rfl)
theorem ml_X0_50 : gML RX0 50 yX0_roundsBackTo := Or.inl (gT_at 852 (by decide +kernel) rfl)
theorem ml_L_144 : gML RL 144 yX6_turns := Or.inl (gT_at 855 (by decide +kernel) rfl)
theorem ml_L_148 : gML RL 148 yX6_ring := Or.inl (gT_at 859 (by decide +kernel) rfl)
theorem ml_L_152 : gML RL 152 yX6_lot := Or.inl (gT_at 863 (by decide +kernel) rfl)
theorem ml_X6_255 : gML RX6 255 yX6_isAlike := Or.inl (gT_at 867 (by decide +kernel) rfl)
theorem ml_X6_258 : gML RX6 258 yX6_greatestLot := Or.inl (gT_at 870 (by decide +kernel) rfl)
theorem ml_X6_263 : gML RX6 263 yX6_power := Or.inl (gT_at 873 (by decide +kernel) rfl)
theorem cn_X6_261 : Cond.constantLong RX6 261 (1000 : Int64) ∈ gT := (gT_at 876 (by decide +kernel) rfl)
theorem ml_L_156 : gML RL 156 yX6_nobody := Or.inl (gT_at 877 (by decide +kernel) rfl)
theorem ml_L_160 : gML RL 160 yX6_know := Or.inl (gT_at 881 (by decide +kernel) rfl)
theorem ml_L_164 : gML RL 164 yX6_bar := Or.inl (gT_at 885 (by decide +kernel) rfl)
theorem ml_X6_270 : gML RX6 270 yX5_isBarAtRest := Or.inr ⟨"SomebodyWill", (gN_at 889 (by decide +kernel) rfl)⟩
theorem ml_X5_50 : gML RX5 50 yX5_endsUpTo := Or.inl (gT_at 893 (by decide +kernel) rfl)
theorem ml_X5_54 : gML RX5 54 yX6_power := Or.inr ⟨"SomebodyWill", (gN_at 897 (by decide +kernel) rfl)⟩
theorem ml_L_168 : gML RL 168 yX6_cuts := Or.inl (gT_at 898 (by decide +kernel) rfl)
theorem ml_X6_273 : gML RX6 273 yX4_become := Or.inr ⟨"SomebodyWill", (gN_at 902 (by decide +kernel) rfl)⟩
theorem ml_X6_277 : gML RX6 277 yX4_areNear := Or.inr ⟨"SomebodyWill", (gN_at 907 (by decide +kernel) rfl)⟩
theorem ml_X6_280 : gML RX6 280 yX6_isCut := Or.inl (gT_at 908 (by decide +kernel) rfl)
theorem ml_X6_284 : gML RX6 284 yX6_pairNumber := Or.inl (gT_at 912 (by decide +kernel) rfl)
theorem ml_L_172 : gML RL 172 yX6_adds := Or.inl (gT_at 915 (by decide +kernel) rfl)
theorem ml_X6_287 : gML RX6 287 yX6_isAdded := Or.inl (gT_at 919 (by decide +kernel) rfl)
theorem ml_L_176 : gML RL 176 yX6_less := Or.inl (gT_at 923 (by decide +kernel) rfl)
theorem ml_X6_291 : gML RX6 291 yJ6_bitCount_0f7a4 := Or.inl (gT_at 927 (by decide +kernel) rfl)
theorem ml_X6_296 : gML RX6 296 yX6_isLessened := Or.inl (gT_at 928 (by decide +kernel) rfl)
theorem ml_X6_368 : gML RX6 368 yX4_hasRestBelow := Or.inr ⟨"SomebodyWill", (gN_at 932 (by decide +kernel) rfl)⟩
theorem ml_L_180 : gML RL 180 yX6_need := Or.inl (gT_at 936 (by decide +kernel) rfl)
theorem ml_X6_299 : gML RX6 299 yX4_needOf := Or.inr ⟨"SomebodyWill", (gN_at 940 (by decide +kernel) rfl)⟩
theorem ml_L_184 : gML RL 184 yX6_pay := Or.inl (gT_at 944 (by decide +kernel) rfl)
theorem ml_X6_302 : gML RX6 302 yX4_hasMustsIn := Or.inr ⟨"SomebodyWill", (gN_at 948 (by decide +kernel) rfl)⟩
theorem ml_L_188 : gML RL 188 yX6_few := Or.inl (gT_at 949 (by decide +kernel) rfl)
theorem ml_L_192 : gML RL 192 yX6_rota := Or.inl (gT_at 953 (by decide +kernel) rfl)
theorem ml_X6_305 : gML RX6 305 yX6_isRota := Or.inl (gT_at 957 (by decide +kernel) rfl)
theorem ml_X6_334 : gML RX6 334 yX4_sets := Or.inr ⟨"SomebodyWill", (gN_at 960 (by decide +kernel) rfl)⟩
theorem ml_X6_309 : gML RX6 309 yX6_gainByLeaving := Or.inl (gT_at 961 (by decide +kernel) rfl)
theorem ml_L_196 : gML RL 196 yX6_doers := Or.inl (gT_at 964 (by decide +kernel) rfl)
theorem ml_X6_313 : gML RX6 313 yX4_chanceOf := Or.inr ⟨"SomebodyWill", (gN_at 968 (by decide +kernel) rfl)⟩
theorem ml_X4_126 : gML RX4 126 yX4_doesSurely := Or.inl (gT_at 972 (by decide +kernel) rfl)
theorem ml_X6_316 : gML RX6 316 yX5_draw := Or.inr ⟨"SomebodyWill", (gN_at 976 (by decide +kernel) rfl)⟩
theorem cn_X5_49 : Cond.constant RX5 49 (1103515245 : Int32) ∈ gT := (gT_at 980 (by decide +kernel) rfl)
theorem ml_L_200 : gML RL 200 yX6_light := Or.inl (gT_at 981 (by decide +kernel) rfl)
theorem cn_X6_319 : Cond.constant RX6 319 (1000000 : Int32) ∈ gT := (gT_at 985 (by decide +kernel) rfl)
theorem ml_X6_320 : gML RX6 320 yX4_lightAfter := Or.inr ⟨"SomebodyWill", (gN_at 986 (by decide +kernel) rfl)⟩
theorem ml_X4_129 : gML RX4 129 yX4_chanceOf := Or.inl (gT_at 990 (by decide +kernel) rfl)
theorem ml_L_204 : gML RL 204 yX6_late := Or.inl (gT_at 991 (by decide +kernel) rfl)
theorem ml_L_208 : gML RL 208 yX6_seed := Or.inl (gT_at 995 (by decide +kernel) rfl)
theorem ml_L_212 : gML RL 212 yX6_begin := Or.inl (gT_at 999 (by decide +kernel) rfl)
theorem ml_X6_330 : gML RX6 330 yX2_start := Or.inr ⟨"SomebodyWill", (gN_at 1003 (by decide +kernel) rfl)⟩
theorem ml_X2_18 : gML RX2 18 yX4_become := Or.inr ⟨"SomebodyWill", (gN_at 1007 (by decide +kernel) rfl)⟩
theorem ml_L_216 : gML RL 216 yX6_step := Or.inl (gT_at 1008 (by decide +kernel) rfl)
theorem ml_X6_341 : gML RX6 341 yX2_isDone := Or.inr ⟨"SomebodyWill", (gN_at 1012 (by decide +kernel) rfl)⟩
theorem ml_X2_39 : gML RX2 39 yX4_sets := Or.inr ⟨"SomebodyWill", (gN_at 1016 (by decide +kernel) rfl)⟩
theorem ml_X6_344 : gML RX6 344 yX2_advance := Or.inr ⟨"SomebodyWill", (gN_at 1017 (by decide +kernel) rfl)⟩
theorem ml_X2_43 : gML RX2 43 yX2_isDone := Or.inl (gT_at 1021 (by decide +kernel) rfl)
theorem ml_X2_47 : gML RX2 47 yX4_isRest := Or.inr ⟨"SomebodyWill", (gN_at 1022 (by decide +kernel) rfl)⟩
theorem ml_L_220 : gML RL 220 yX6_search := Or.inl (gT_at 1023 (by decide +kernel) rfl)
theorem ml_L_224 : gML RL 224 yX6_image := Or.inl (gT_at 1027 (by decide +kernel) rfl)
theorem ml_X6_359 : gML RX6 359 yX5_become := Or.inr ⟨"SomebodyWill", (gN_at 1031 (by decide +kernel) rfl)⟩
theorem ml_X5_36 : gML RX5 36 yX4_become := Or.inr ⟨"SomebodyWill", (gN_at 1035 (by decide +kernel) rfl)⟩
theorem ml_X5_46 : gML RX5 46 yX2_become := Or.inr ⟨"SomebodyWill", (gN_at 1037 (by decide +kernel) rfl)⟩
theorem ml_L_228 : gML RL 228 yX6_back := Or.inl (gT_at 1041 (by decide +kernel) rfl)
theorem ml_L_232 : gML RL 232 yX6_status := Or.inl (gT_at 1045 (by decide +kernel) rfl)
theorem ml_X6_365 : gML RX6 365 yX6_shelvesInUse := Or.inl (gT_at 1049 (by decide +kernel) rfl)
theorem ml_L_12 : gML RL 12 yX7_init := Or.inl (gT_at 1055 (by decide +kernel) rfl)
theorem fl_X7_7 : gFL RX7 7 RX7 "shelf" "[I" := Or.inl (gT_at 1063 (by decide +kernel) rfl)
theorem fl_X7_13 : gFL RX7 13 RX7 "rowSort" "[I" := Or.inl (gT_at 1064 (by decide +kernel) rfl)
theorem fl_X7_16 : gFL RX7 16 RX7 "rowSize" "[I" := Or.inl (gT_at 1065 (by decide +kernel) rfl)
theorem fl_X7_21 : gFL RX7 21 RX7 "rows" "[[J" := Or.inl (gT_at 1066 (by decide +kernel) rfl)
theorem fl_X7_24 : gFL RX7 24 RX7 "wayKind" "[I" := Or.inl (gT_at 1067 (by decide +kernel) rfl)
theorem fl_X7_27 : gFL RX7 27 RX7 "wayBy" "[I" := Or.inl (gT_at 1068 (by decide +kernel) rfl)
theorem fl_X7_30 : gFL RX7 30 RX7 "moved" "[J" := Or.inl (gT_at 1069 (by decide +kernel) rfl)
theorem fl_X7_34 : gFL RX7 34 RX7 "tape" "[I" := Or.inl (gT_at 1070 (by decide +kernel) rfl)
theorem fl_X7_128 : gFL RX7 128 RX7 "tapeSize" "I" := Or.inl (gT_at 1071 (by decide +kernel) rfl)
theorem fl_X7_37 : gFL RX7 37 RX7 "refused" "[I" := Or.inl (gT_at 1072 (by decide +kernel) rfl)
theorem fl_X7_85 : gFL RX7 85 RX7 "streets" "I" := Or.inl (gT_at 1073 (by decide +kernel) rfl)
theorem fl_X7_40 : gFL RX7 40 RX7 "people" "[I" := Or.inl (gT_at 1074 (by decide +kernel) rfl)
theorem fl_X7_43 : gFL RX7 43 RX7 "more" "[I" := Or.inl (gT_at 1075 (by decide +kernel) rfl)
theorem fl_X7_46 : gFL RX7 46 RX7 "musts" "[I" := Or.inl (gT_at 1076 (by decide +kernel) rfl)
theorem fl_X7_51 : gFL RX7 51 RX7 "cost" "[[I" := Or.inl (gT_at 1077 (by decide +kernel) rfl)
theorem fl_X7_54 : gFL RX7 54 RX7 "worth" "[[I" := Or.inl (gT_at 1078 (by decide +kernel) rfl)
theorem fl_X7_57 : gFL RX7 57 RX7 "near" "[[I" := Or.inl (gT_at 1079 (by decide +kernel) rfl)
theorem fl_X7_60 : gFL RX7 60 RX7 "price" "[[I" := Or.inl (gT_at 1080 (by decide +kernel) rfl)
theorem fl_X7_63 : gFL RX7 63 RX7 "kindOf" "[[I" := Or.inl (gT_at 1081 (by decide +kernel) rfl)
theorem fl_X7_66 : gFL RX7 66 RX7 "byOf" "[[I" := Or.inl (gT_at 1082 (by decide +kernel) rfl)
theorem fl_X7_69 : gFL RX7 69 RX7 "have" "[I" := Or.inl (gT_at 1083 (by decide +kernel) rfl)
theorem fl_X7_72 : gFL RX7 72 RX7 "seed" "I" := Or.inl (gT_at 1084 (by decide +kernel) rfl)
theorem fl_X7_76 : gFL RX7 76 RX7 "begun" "I" := Or.inl (gT_at 1085 (by decide +kernel) rfl)
theorem fl_X7_329 : gFL RX7 329 RX7 "nextSet" "I" := Or.inl (gT_at 1086 (by decide +kernel) rfl)
theorem fl_X7_332 : gFL RX7 332 RX7 "restsSeen" "I" := Or.inl (gT_at 1087 (by decide +kernel) rfl)
theorem fl_X7_79 : gFL RX7 79 RX7 "lastRest" "I" := Or.inl (gT_at 1088 (by decide +kernel) rfl)
theorem fl_X7_338 : gFL RX7 338 RX7 "kept" "LSomebodyWillModel;" := Or.inl (gT_at 1089 (by decide +kernel) rfl)
theorem fl_X7_131 : gFL RX7 131 RX7 "at" "I" := Or.inl (gT_at 1090 (by decide +kernel) rfl)
theorem fl_X7_141 : gFL RX7 141 RX7 "token" "I" := Or.inl (gT_at 1091 (by decide +kernel) rfl)
theorem fl_X7_134 : gFL RX7 134 RX7 "from" "I" := Or.inl (gT_at 1092 (by decide +kernel) rfl)
theorem fl_X7_137 : gFL RX7 137 RX7 "told" "J" := Or.inl (gT_at 1093 (by decide +kernel) rfl)
theorem fl_X7_156 : gFL RX7 156 RX7 "fault" "I" := Or.inl (gT_at 1094 (by decide +kernel) rfl)
theorem fl_X7_180 : gFL RX7 180 RX7 "number" "I" := Or.inl (gT_at 1095 (by decide +kernel) rfl)
theorem fl_X7_82 : gFL RX7 82 RX7 "behind" "[I" := Or.inl (gT_at 1096 (by decide +kernel) rfl)
theorem fl_X7_286 : gFL RX7 286 RX7 "ends" "I" := Or.inl (gT_at 1097 (by decide +kernel) rfl)
theorem fl_X7_280 : gFL RX7 280 RX7 "changes" "I" := Or.inl (gT_at 1098 (by decide +kernel) rfl)
theorem fl_X7_283 : gFL RX7 283 RX7 "ringOf" "I" := Or.inl (gT_at 1099 (by decide +kernel) rfl)
theorem ml_L_17 : gML RL 17 yX7_row := Or.inl (gT_at 1175 (by decide +kernel) rfl)
theorem cn_X7_100 : Cond.constantLong RX7 100 (7 : Int64) ∈ gT := (gT_at 1179 (by decide +kernel) rfl)
theorem ml_X7_88 : gML RX7 88 yX7_in := Or.inl (gT_at 1180 (by decide +kernel) rfl)
theorem cn_X7_102 : Cond.constantLong RX7 102 (4 : Int64) ∈ gT := (gT_at 1183 (by decide +kernel) rfl)
theorem cn_X7_104 : Cond.constantLong RX7 104 (40 : Int64) ∈ gT := (gT_at 1184 (by decide +kernel) rfl)
theorem ml_X7_106 : gML RX7 106 yX7_refuse := Or.inl (gT_at 1185 (by decide +kernel) rfl)
theorem ml_L_24 : gML RL 24 yX7_set := Or.inl (gT_at 1189 (by decide +kernel) rfl)
theorem ml_X7_109 : gML RX7 109 yX7_fit := Or.inl (gT_at 1193 (by decide +kernel) rfl)
theorem ml_L_29 : gML RL 29 yX7_copy := Or.inl (gT_at 1196 (by decide +kernel) rfl)
theorem ml_L_34 : gML RL 34 yX7_element := Or.inl (gT_at 1200 (by decide +kernel) rfl)
theorem ml_L_39 : gML RL 39 yX7_holds := Or.inl (gT_at 1204 (by decide +kernel) rfl)
theorem ml_L_43 : gML RL 43 yX7_way := Or.inl (gT_at 1208 (by decide +kernel) rfl)
theorem cn_X7_119 : Cond.constantLong RX7 119 (5 : Int64) ∈ gT := (gT_at 1212 (by decide +kernel) rfl)
theorem ml_X7_121 : gML RX7 121 yX7_mayBy := Or.inl (gT_at 1213 (by decide +kernel) rfl)
theorem cn_X7_113 : Cond.constantLong RX7 113 (1000 : Int64) ∈ gT := (gT_at 1216 (by decide +kernel) rfl)
theorem cn_X7_115 : Cond.constantLong RX7 115 (11 : Int64) ∈ gT := (gT_at 1217 (by decide +kernel) rfl)
theorem cn_X7_117 : Cond.constantLong RX7 117 (9 : Int64) ∈ gT := (gT_at 1218 (by decide +kernel) rfl)
theorem ml_L_48 : gML RL 48 yX7_says := Or.inl (gT_at 1219 (by decide +kernel) rfl)
theorem ml_X7_125 : gML RX7 125 yX7_isUnder := Or.inl (gT_at 1223 (by decide +kernel) rfl)
theorem ml_L_52 : gML RL 52 yX7_feed := Or.inl (gT_at 1226 (by decide +kernel) rfl)
theorem ml_L_57 : gML RL 57 yX7_wipe := Or.inl (gT_at 1230 (by decide +kernel) rfl)
theorem ml_L_61 : gML RL 61 yX7_street := Or.inl (gT_at 1234 (by decide +kernel) rfl)
theorem ml_X7_220 : gML RX7 220 yX7_read := Or.inl (gT_at 1238 (by decide +kernel) rfl)
theorem ml_X7_212 : gML RX7 212 yX7_empty := Or.inl (gT_at 1242 (by decide +kernel) rfl)
theorem ml_X7_177 : gML RX7 177 yX7_look := Or.inl (gT_at 1246 (by decide +kernel) rfl)
theorem ml_X7_144 : gML RX7 144 yX7_isLetter := Or.inl (gT_at 1250 (by decide +kernel) rfl)
theorem ml_X7_147 : gML RX7 147 yX7_isDigit := Or.inl (gT_at 1253 (by decide +kernel) rfl)
theorem cn_X7_150 : Cond.constantLong RX7 150 (10 : Int64) ∈ gT := (gT_at 1256 (by decide +kernel) rfl)
theorem cn_X7_152 : Cond.constantLong RX7 152 (48 : Int64) ∈ gT := (gT_at 1257 (by decide +kernel) rfl)
theorem cn_X7_154 : Cond.constantLong RX7 154 (100000 : Int64) ∈ gT := (gT_at 1258 (by decide +kernel) rfl)
theorem ml_X7_194 : gML RX7 194 yX7_word := Or.inl (gT_at 1260 (by decide +kernel) rfl)
theorem ml_X7_169 : gML RX7 169 yX7_isWord := Or.inl (gT_at 1264 (by decide +kernel) rfl)
theorem ml_X7_159 : gML RX7 159 yJ0_length_8abf5 := Or.inl (gT_at 1268 (by decide +kernel) rfl)
theorem ml_X7_165 : gML RX7 165 yJ0_charAt_5068e := Or.inl (gT_at 1269 (by decide +kernel) rfl)
theorem ml_X7_173 : gML RX7 173 yX7_wrong := Or.inl (gT_at 1270 (by decide +kernel) rfl)
theorem ml_X7_189 : gML RX7 189 yX7_number := Or.inl (gT_at 1274 (by decide +kernel) rfl)
theorem ml_X7_217 : gML RX7 217 yX7_statement := Or.inl (gT_at 1278 (by decide +kernel) rfl)
theorem ml_X7_199 : gML RX7 199 yX7_tieTold := Or.inl (gT_at 1287 (by decide +kernel) rfl)
theorem ml_X7_183 : gML RX7 183 yX7_tieThem := Or.inl (gT_at 1292 (by decide +kernel) rfl)
theorem ml_X7_206 : gML RX7 206 yX7_tieNew := Or.inl (gT_at 1298 (by decide +kernel) rfl)
theorem ml_L_65 : gML RL 65 yX7_streetOf := Or.inl (gT_at 1303 (by decide +kernel) rfl)
theorem ml_X7_92 : gML RX7 92 yX7_isStreet := Or.inl (gT_at 1307 (by decide +kernel) rfl)
theorem ml_X7_223 : gML RX7 223 yX7_bits := Or.inl (gT_at 1311 (by decide +kernel) rfl)
theorem ml_X7_226 : gML RX7 226 yX7_pricesOf := Or.inl (gT_at 1314 (by decide +kernel) rfl)
theorem ml_L_69 : gML RL 69 yX7_personOf := Or.inl (gT_at 1318 (by decide +kernel) rfl)
theorem ml_X7_230 : gML RX7 230 yX7_isPerson := Or.inl (gT_at 1322 (by decide +kernel) rfl)
theorem ml_L_74 : gML RL 74 yX7_alter := Or.inl (gT_at 1326 (by decide +kernel) rfl)
theorem cn_X7_233 : Cond.constantLong RX7 233 (99 : Int64) ∈ gT := (gT_at 1330 (by decide +kernel) rfl)
theorem ml_L_78 : gML RL 78 yX7_tie := Or.inl (gT_at 1331 (by decide +kernel) rfl)
theorem cn_X7_235 : Cond.constantLong RX7 235 (-1 : Int64) ∈ gT := (gT_at 1335 (by decide +kernel) rfl)
theorem ml_L_83 : gML RL 83 yX7_must := Or.inl (gT_at 1336 (by decide +kernel) rfl)
theorem ml_L_87 : gML RL 87 yX7_take := Or.inl (gT_at 1340 (by decide +kernel) rfl)
theorem ml_L_91 : gML RL 91 yX7_come := Or.inl (gT_at 1344 (by decide +kernel) rfl)
theorem ml_X7_237 : gML RX7 237 yX7_isSet := Or.inl (gT_at 1348 (by decide +kernel) rfl)
theorem ml_X7_96 : gML RX7 96 yX7_all := Or.inl (gT_at 1352 (by decide +kernel) rfl)
theorem ml_L_95 : gML RL 95 yX7_gain := Or.inl (gT_at 1356 (by decide +kernel) rfl)
theorem cn_X7_249 : Cond.constant RX7 249 (-1000000 : Int32) ∈ gT := (gT_at 1360 (by decide +kernel) rfl)
theorem ml_X7_241 : gML RX7 241 yX7_gainOf := Or.inl (gT_at 1361 (by decide +kernel) rfl)
theorem ml_L_99 : gML RL 99 yX7_total := Or.inl (gT_at 1365 (by decide +kernel) rfl)
theorem ml_X7_250 : gML RX7 250 yX7_goodOf := Or.inl (gT_at 1369 (by decide +kernel) rfl)
theorem ml_L_103 : gML RL 103 yX7_judge := Or.inl (gT_at 1373 (by decide +kernel) rfl)
theorem ml_X7_253 : gML RX7 253 yX7_firstOf := Or.inl (gT_at 1377 (by decide +kernel) rfl)
theorem ml_X7_245 : gML RX7 245 yX7_would := Or.inl (gT_at 1381 (by decide +kernel) rfl)
theorem ml_L_107 : gML RL 107 yX7_count := Or.inl (gT_at 1385 (by decide +kernel) rfl)
theorem ml_X7_259 : gML RX7 259 yX7_countRests := Or.inl (gT_at 1389 (by decide +kernel) rfl)
theorem ml_X7_256 : gML RX7 256 yX7_isRest := Or.inl (gT_at 1393 (by decide +kernel) rfl)
theorem ml_L_111 : gML RL 111 yX7_rest := Or.inl (gT_at 1397 (by decide +kernel) rfl)
theorem ml_L_115 : gML RL 115 yX7_fewest := Or.inl (gT_at 1401 (by decide +kernel) rfl)
theorem ml_X7_271 : gML RX7 271 yX7_sought := Or.inl (gT_at 1405 (by decide +kernel) rfl)
theorem ml_X7_268 : gML RX7 268 yX7_seek := Or.inl (gT_at 1409 (by decide +kernel) rfl)
theorem ml_X7_265 : gML RX7 265 yX7_worthOf := Or.inl (gT_at 1413 (by decide +kernel) rfl)
theorem ml_X7_262 : gML RX7 262 yX7_costOf := Or.inl (gT_at 1417 (by decide +kernel) rfl)
theorem ml_L_119 : gML RL 119 yX7_most := Or.inl (gT_at 1421 (by decide +kernel) rfl)
theorem ml_L_123 : gML RL 123 yX7_cheap := Or.inl (gT_at 1425 (by decide +kernel) rfl)
theorem ml_L_127 : gML RL 127 yX7_best := Or.inl (gT_at 1429 (by decide +kernel) rfl)
theorem ml_L_131 : gML RL 131 yX7_good := Or.inl (gT_at 1433 (by decide +kernel) rfl)
theorem ml_X7_274 : gML RX7 274 yX7_goodSet := Or.inl (gT_at 1437 (by decide +kernel) rfl)
theorem ml_L_135 : gML RL 135 yX7_lost := Or.inl (gT_at 1441 (by decide +kernel) rfl)
theorem ml_X7_277 : gML RX7 277 yX7_below := Or.inl (gT_at 1445 (by decide +kernel) rfl)
theorem ml_L_139 : gML RL 139 yX7_beside := Or.inl (gT_at 1449 (by decide +kernel) rfl)
theorem ml_L_143 : gML RL 143 yX7_go := Or.inl (gT_at 1453 (by decide +kernel) rfl)
theorem ml_X7_289 : gML RX7 289 yX7_inTurn := Or.inl (gT_at 1457 (by decide +kernel) rfl)
theorem ml_L_147 : gML RL 147 yX7_turns := Or.inl (gT_at 1461 (by decide +kernel) rfl)
theorem ml_L_151 : gML RL 151 yX7_ring := Or.inl (gT_at 1465 (by decide +kernel) rfl)
theorem ml_L_155 : gML RL 155 yX7_lot := Or.inl (gT_at 1469 (by decide +kernel) rfl)
theorem ml_X7_296 : gML RX7 296 yX7_areChances := Or.inl (gT_at 1473 (by decide +kernel) rfl)
theorem ml_X7_299 : gML RX7 299 yX7_lotOf := Or.inl (gT_at 1476 (by decide +kernel) rfl)
theorem ml_X7_292 : gML RX7 292 yX7_power := Or.inl (gT_at 1479 (by decide +kernel) rfl)
theorem ml_L_159 : gML RL 159 yX7_nobody := Or.inl (gT_at 1482 (by decide +kernel) rfl)
theorem ml_L_163 : gML RL 163 yX7_know := Or.inl (gT_at 1486 (by decide +kernel) rfl)
theorem cn_X7_302 : Cond.constantLong RX7 302 (20 : Int64) ∈ gT := (gT_at 1490 (by decide +kernel) rfl)
theorem ml_L_167 : gML RL 167 yX7_bar := Or.inl (gT_at 1491 (by decide +kernel) rfl)
theorem ml_L_171 : gML RL 171 yX7_cuts := Or.inl (gT_at 1495 (by decide +kernel) rfl)
theorem ml_X7_304 : gML RX7 304 yX7_tie := Or.inl (gT_at 1499 (by decide +kernel) rfl)
theorem ml_L_175 : gML RL 175 yX7_adds := Or.inl (gT_at 1500 (by decide +kernel) rfl)
theorem ml_L_179 : gML RL 179 yX7_less := Or.inl (gT_at 1504 (by decide +kernel) rfl)
theorem ml_L_183 : gML RL 183 yX7_need := Or.inl (gT_at 1508 (by decide +kernel) rfl)
theorem ml_X7_307 : gML RX7 307 yX7_needOf := Or.inl (gT_at 1512 (by decide +kernel) rfl)
theorem ml_L_187 : gML RL 187 yX7_pay := Or.inl (gT_at 1516 (by decide +kernel) rfl)
theorem ml_L_191 : gML RL 191 yX7_few := Or.inl (gT_at 1520 (by decide +kernel) rfl)
theorem ml_L_195 : gML RL 195 yX7_rota := Or.inl (gT_at 1524 (by decide +kernel) rfl)
theorem ml_L_211 : gML RL 211 yX7_seed := Or.inl (gT_at 1528 (by decide +kernel) rfl)
theorem ml_L_199 : gML RL 199 yX7_doers := Or.inl (gT_at 1532 (by decide +kernel) rfl)
theorem cn_X7_311 : Cond.constantLong RX7 311 (999 : Int64) ∈ gT := (gT_at 1536 (by decide +kernel) rfl)
theorem ml_X7_313 : gML RX7 313 yX7_thousandths := Or.inl (gT_at 1537 (by decide +kernel) rfl)
theorem ml_X7_316 : gML RX7 316 yX7_draw := Or.inl (gT_at 1541 (by decide +kernel) rfl)
theorem cn_X7_310 : Cond.constant RX7 310 (1103515245 : Int32) ∈ gT := (gT_at 1545 (by decide +kernel) rfl)
theorem ml_L_203 : gML RL 203 yX7_light := Or.inl (gT_at 1546 (by decide +kernel) rfl)
theorem cn_X7_319 : Cond.constant RX7 319 (1000000 : Int32) ∈ gT := (gT_at 1550 (by decide +kernel) rfl)
theorem ml_X7_320 : gML RX7 320 yX7_hourOf := Or.inl (gT_at 1551 (by decide +kernel) rfl)
theorem ml_L_207 : gML RL 207 yX7_late := Or.inl (gT_at 1555 (by decide +kernel) rfl)
theorem cn_X7_323 : Cond.constantLong RX7 323 (1000000 : Int64) ∈ gT := (gT_at 1559 (by decide +kernel) rfl)
theorem ml_L_215 : gML RL 215 yX7_begin := Or.inl (gT_at 1560 (by decide +kernel) rfl)
theorem ml_X7_325 : gML RX7 325 yX7_over := Or.inl (gT_at 1564 (by decide +kernel) rfl)
theorem ml_L_219 : gML RL 219 yX7_step := Or.inl (gT_at 1567 (by decide +kernel) rfl)
theorem ml_X7_335 : gML RX7 335 yX7_isDone := Or.inl (gT_at 1571 (by decide +kernel) rfl)
theorem ml_L_223 : gML RL 223 yX7_search := Or.inl (gT_at 1575 (by decide +kernel) rfl)
theorem ml_L_227 : gML RL 227 yX7_image := Or.inl (gT_at 1579 (by decide +kernel) rfl)
theorem ml_X7_342 : gML RX7 342 yX7_init := Or.inl (gT_at 1584 (by decide +kernel) rfl)
theorem ml_X7_343 : gML RX7 343 yX7_takeFrom := Or.inl (gT_at 1585 (by decide +kernel) rfl)
theorem ml_L_231 : gML RL 231 yX7_back := Or.inl (gT_at 1589 (by decide +kernel) rfl)
theorem ml_L_235 : gML RL 235 yX7_status := Or.inl (gT_at 1593 (by decide +kernel) rfl)
theorem cn_X7_347 : Cond.constantLong RX7 347 (12 : Int64) ∈ gT := (gT_at 1597 (by decide +kernel) rfl)
theorem cn_X7_349 : Cond.constantLong RX7 349 (16 : Int64) ∈ gT := (gT_at 1598 (by decide +kernel) rfl)
theorem cn_L_18 : Cond.constantLong RL 18 (4294967295 : Int64) ∈ gT := (gT_at 1599 (by decide +kernel) rfl)
theorem fl_J0_9 : gFL RJ0 9 RJ0 "value" "[B" := Or.inl (gT_at 1600 (by decide +kernel) rfl)
theorem fl_J0_15 : gFL RJ0 15 RJ0 "coder" "B" := Or.inl (gT_at 1601 (by decide +kernel) rfl)
