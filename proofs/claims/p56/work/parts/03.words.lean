/-! ===== words of the tables ===== -/
def gT : List Cond := lw_tbl.filter goodWord
def nestW : Cond → Bool
  | .methodLinkNest .. => true
  | .fieldLinkNest .. => true
  | _ => false
def gN : List Cond := lw_tbl.filter nestW
theorem gT_at (i : Nat) {w : Cond} (h : lw_tbl[i]? = some w) (hg : goodWord w = true) : w ∈ gT := List.mem_filter.mpr ⟨List.mem_of_getElem? h, hg⟩
theorem gN_at (i : Nat) {w : Cond} (h : lw_tbl[i]? = some w) (hg : nestW w = true) : w ∈ gN := List.mem_filter.mpr ⟨List.mem_of_getElem? h, hg⟩
theorem gT_good : ∀ w ∈ gT, (w.onTables && w.keeps) = true ∨ ∃ ty, w = .arrayClass ty := fun _ h => good_of_word (List.mem_filter.mp h).2
theorem gN_on : ∀ w ∈ gN, w.onTables = true := by
  intro w h
  have h2 := (List.mem_filter.mp h).2
  cases w <;> first | rfl | cases h2
theorem gN_warm {s U : State} (hW : s.WarmedH U.vm) : ∀ w ∈ gN, va_Nw w s → va_Nw w U := by
  intro w h
  have h2 := (List.mem_filter.mp h).2
  cases w with
  | methodLinkNest a i x h => exact va_Nw.warmM hW
  | fieldLinkNest a i b n d h => exact va_Nw.warmF hW
  | _ => cases h2
/-- what a call needs of its callee's words -/
def gM (y : MethodName) (cc : ByteArray) (nL : Nat) (ret : Option FieldType) (n : Nat) : Prop := Cond.code y cc nL ret ∈ gT ∧ Cond.initialized y.cls ∈ gT ∧ y.cls ≠ "java/lang/invoke/MethodHandle" ∧ y.cls ≠ "java/lang/invoke/VarHandle" ∧ (parseMethodDescriptor y.desc).map (fun d => d.parameters.length) = some n
def gMV (y : MethodName) (cc : ByteArray) (nL : Nat) (ret : Option FieldType) (n : Nat) : Prop := gM y cc nL ret n ∧ Cond.instanceMethod y ∈ gT ∧ Cond.selects y.cls y y ∈ gT
def gMS (y : MethodName) (cc : ByteArray) (nL : Nat) (ret : Option FieldType) (n : Nat) : Prop := gM y cc nL ret n ∧ Cond.static y ∈ gT
/-- how a class names a method, or a field: by its own pool, in the nest or not -/
def gML (own : String) (index : Nat) (y : MethodName) : Prop := Cond.methodLink own index y ∈ gT ∨ ∃ host, Cond.methodLinkNest own index y host ∈ gN
def gFL (own : String) (index : Nat) (C n d : String) : Prop := Cond.fieldLink own index C n d ∈ gT ∨ ∃ host, Cond.fieldLinkNest own index C n d host ∈ gN

theorem layX0 : ∀ w ∈ u_ws RX0 TX0 4, w ∈ gT := by
  intro w h
  obtain ⟨k, hk, rfl⟩ := List.mem_map.mp h
  have hk := List.mem_range.mp hk
  by_cases e0 : k = 0
  · subst e0; exact (gT_at 248 (by decide +kernel) rfl)
  by_cases e1 : k = 1
  · subst e1; exact (gT_at 250 (by decide +kernel) rfl)
  by_cases e2 : k = 2
  · subst e2; exact (gT_at 252 (by decide +kernel) rfl)
  by_cases e3 : k = 3
  · subst e3; exact (gT_at 254 (by decide +kernel) rfl)
  omega
theorem layX1 : ∀ w ∈ u_ws RX1 TX1 6, w ∈ gT := by
  intro w h
  obtain ⟨k, hk, rfl⟩ := List.mem_map.mp h
  have hk := List.mem_range.mp hk
  by_cases e0 : k = 0
  · subst e0; exact (gT_at 117 (by decide +kernel) rfl)
  by_cases e1 : k = 1
  · subst e1; exact (gT_at 119 (by decide +kernel) rfl)
  by_cases e2 : k = 2
  · subst e2; exact (gT_at 121 (by decide +kernel) rfl)
  by_cases e3 : k = 3
  · subst e3; exact (gT_at 123 (by decide +kernel) rfl)
  by_cases e4 : k = 4
  · subst e4; exact (gT_at 125 (by decide +kernel) rfl)
  by_cases e5 : k = 5
  · subst e5; exact (gT_at 127 (by decide +kernel) rfl)
  omega
theorem layX2 : ∀ w ∈ u_ws RX2 TX2 6, w ∈ gT := by
  intro w h
  obtain ⟨k, hk, rfl⟩ := List.mem_map.mp h
  have hk := List.mem_range.mp hk
  by_cases e0 : k = 0
  · subst e0; exact (gT_at 199 (by decide +kernel) rfl)
  by_cases e1 : k = 1
  · subst e1; exact (gT_at 201 (by decide +kernel) rfl)
  by_cases e2 : k = 2
  · subst e2; exact (gT_at 203 (by decide +kernel) rfl)
  by_cases e3 : k = 3
  · subst e3; exact (gT_at 205 (by decide +kernel) rfl)
  by_cases e4 : k = 4
  · subst e4; exact (gT_at 207 (by decide +kernel) rfl)
  by_cases e5 : k = 5
  · subst e5; exact (gT_at 209 (by decide +kernel) rfl)
  omega
theorem layX3 : ∀ w ∈ u_ws RX3 TX3 4, w ∈ gT := by
  intro w h
  obtain ⟨k, hk, rfl⟩ := List.mem_map.mp h
  have hk := List.mem_range.mp hk
  by_cases e0 : k = 0
  · subst e0; exact (gT_at 269 (by decide +kernel) rfl)
  by_cases e1 : k = 1
  · subst e1; exact (gT_at 271 (by decide +kernel) rfl)
  by_cases e2 : k = 2
  · subst e2; exact (gT_at 273 (by decide +kernel) rfl)
  by_cases e3 : k = 3
  · subst e3; exact (gT_at 275 (by decide +kernel) rfl)
  omega
theorem layX4 : ∀ w ∈ u_ws RX4 TX4 10, w ∈ gT := by
  intro w h
  obtain ⟨k, hk, rfl⟩ := List.mem_map.mp h
  have hk := List.mem_range.mp hk
  by_cases e0 : k = 0
  · subst e0; exact (gT_at 171 (by decide +kernel) rfl)
  by_cases e1 : k = 1
  · subst e1; exact (gT_at 173 (by decide +kernel) rfl)
  by_cases e2 : k = 2
  · subst e2; exact (gT_at 175 (by decide +kernel) rfl)
  by_cases e3 : k = 3
  · subst e3; exact (gT_at 177 (by decide +kernel) rfl)
  by_cases e4 : k = 4
  · subst e4; exact (gT_at 179 (by decide +kernel) rfl)
  by_cases e5 : k = 5
  · subst e5; exact (gT_at 181 (by decide +kernel) rfl)
  by_cases e6 : k = 6
  · subst e6; exact (gT_at 183 (by decide +kernel) rfl)
  by_cases e7 : k = 7
  · subst e7; exact (gT_at 185 (by decide +kernel) rfl)
  by_cases e8 : k = 8
  · subst e8; exact (gT_at 187 (by decide +kernel) rfl)
  by_cases e9 : k = 9
  · subst e9; exact (gT_at 189 (by decide +kernel) rfl)
  omega
theorem layX5 : ∀ w ∈ u_ws RX5 TX5 5, w ∈ gT := by
  intro w h
  obtain ⟨k, hk, rfl⟩ := List.mem_map.mp h
  have hk := List.mem_range.mp hk
  by_cases e0 : k = 0
  · subst e0; exact (gT_at 222 (by decide +kernel) rfl)
  by_cases e1 : k = 1
  · subst e1; exact (gT_at 224 (by decide +kernel) rfl)
  by_cases e2 : k = 2
  · subst e2; exact (gT_at 226 (by decide +kernel) rfl)
  by_cases e3 : k = 3
  · subst e3; exact (gT_at 228 (by decide +kernel) rfl)
  by_cases e4 : k = 4
  · subst e4; exact (gT_at 230 (by decide +kernel) rfl)
  omega
theorem layX6 : ∀ w ∈ u_ws RX6 TX6 8, w ∈ gT := by
  intro w h
  obtain ⟨k, hk, rfl⟩ := List.mem_map.mp h
  have hk := List.mem_range.mp hk
  by_cases e0 : k = 0
  · subst e0; exact (gT_at 286 (by decide +kernel) rfl)
  by_cases e1 : k = 1
  · subst e1; exact (gT_at 288 (by decide +kernel) rfl)
  by_cases e2 : k = 2
  · subst e2; exact (gT_at 290 (by decide +kernel) rfl)
  by_cases e3 : k = 3
  · subst e3; exact (gT_at 292 (by decide +kernel) rfl)
  by_cases e4 : k = 4
  · subst e4; exact (gT_at 294 (by decide +kernel) rfl)
  by_cases e5 : k = 5
  · subst e5; exact (gT_at 296 (by decide +kernel) rfl)
  by_cases e6 : k = 6
  · subst e6; exact (gT_at 298 (by decide +kernel) rfl)
  by_cases e7 : k = 7
  · subst e7; exact (gT_at 300 (by decide +kernel) rfl)
  omega
theorem mt_X0_run : gMV yX0_run cX0_run 5 none 2 := ⟨⟨(gT_at 877 (by decide +kernel) rfl), (gT_at 84 (by decide +kernel) rfl), by decide +kernel, by decide +kernel, by decide +kernel⟩, (gT_at 876 (by decide +kernel) rfl), (gT_at 74 (by decide +kernel) rfl)⟩
theorem mt_X0_roundsBackTo : gMS yX0_roundsBackTo cX0_roundsBackTo 4 (some .int) 2 := ⟨⟨(gT_at 894 (by decide +kernel) rfl), (gT_at 84 (by decide +kernel) rfl), by decide +kernel, by decide +kernel, by decide +kernel⟩, (gT_at 893 (by decide +kernel) rfl)⟩
theorem mt_X0_see : gMV yX0_see cX0_see 2 none 1 := ⟨⟨(gT_at 882 (by decide +kernel) rfl), (gT_at 84 (by decide +kernel) rfl), by decide +kernel, by decide +kernel, by decide +kernel⟩, (gT_at 881 (by decide +kernel) rfl), (gT_at 75 (by decide +kernel) rfl)⟩
theorem mt_X0_isSeen : gMV yX0_isSeen cX0_isSeen 2 (some .boolean) 1 := ⟨⟨(gT_at 891 (by decide +kernel) rfl), (gT_at 84 (by decide +kernel) rfl), by decide +kernel, by decide +kernel, by decide +kernel⟩, (gT_at 890 (by decide +kernel) rfl), (gT_at 77 (by decide +kernel) rfl)⟩
theorem mt_X1_append : gMV yX1_append cX1_append 2 none 1 := ⟨⟨(gT_at 437 (by decide +kernel) rfl), (gT_at 80 (by decide +kernel) rfl), by decide +kernel, by decide +kernel, by decide +kernel⟩, (gT_at 436 (by decide +kernel) rfl), (gT_at 10 (by decide +kernel) rfl)⟩
theorem mt_X1_empty : gMV yX1_empty cX1_empty 1 none 0 := ⟨⟨(gT_at 572 (by decide +kernel) rfl), (gT_at 80 (by decide +kernel) rfl), by decide +kernel, by decide +kernel, by decide +kernel⟩, (gT_at 571 (by decide +kernel) rfl), (gT_at 34 (by decide +kernel) rfl)⟩
theorem mt_X1_readStreet : gMV yX1_readStreet cX1_readStreet 3 (some .boolean) 1 := ⟨⟨(gT_at 464 (by decide +kernel) rfl), (gT_at 80 (by decide +kernel) rfl), by decide +kernel, by decide +kernel, by decide +kernel⟩, (gT_at 463 (by decide +kernel) rfl), (gT_at 12 (by decide +kernel) rfl)⟩
theorem mt_X1_readStatement : gMV yX1_readStatement cX1_readStatement 2 (some .boolean) 1 := ⟨⟨(gT_at 501 (by decide +kernel) rfl), (gT_at 80 (by decide +kernel) rfl), by decide +kernel, by decide +kernel, by decide +kernel⟩, (gT_at 500 (by decide +kernel) rfl), (gT_at 19 (by decide +kernel) rfl)⟩
theorem mt_X1_readForAll : gMV yX1_readForAll cX1_readForAll 2 (some .boolean) 1 := ⟨⟨(gT_at 506 (by decide +kernel) rfl), (gT_at 80 (by decide +kernel) rfl), by decide +kernel, by decide +kernel, by decide +kernel⟩, (gT_at 505 (by decide +kernel) rfl), (gT_at 20 (by decide +kernel) rfl)⟩
theorem mt_X1_readMore : gMV yX1_readMore cX1_readMore 2 (some .boolean) 1 := ⟨⟨(gT_at 513 (by decide +kernel) rfl), (gT_at 80 (by decide +kernel) rfl), by decide +kernel, by decide +kernel, by decide +kernel⟩, (gT_at 512 (by decide +kernel) rfl), (gT_at 21 (by decide +kernel) rfl)⟩
theorem mt_X1_readOne : gMV yX1_readOne cX1_readOne 4 (some .boolean) 1 := ⟨⟨(gT_at 518 (by decide +kernel) rfl), (gT_at 80 (by decide +kernel) rfl), by decide +kernel, by decide +kernel, by decide +kernel⟩, (gT_at 517 (by decide +kernel) rfl), (gT_at 22 (by decide +kernel) rfl)⟩
theorem mt_X1_readTie : gMV yX1_readTie cX1_readTie 5 (some .boolean) 1 := ⟨⟨(gT_at 531 (by decide +kernel) rfl), (gT_at 80 (by decide +kernel) rfl), by decide +kernel, by decide +kernel, by decide +kernel⟩, (gT_at 530 (by decide +kernel) rfl), (gT_at 25 (by decide +kernel) rfl)⟩
theorem mt_X1_readMust : gMV yX1_readMust cX1_readMust 2 (some .boolean) 1 := ⟨⟨(gT_at 549 (by decide +kernel) rfl), (gT_at 80 (by decide +kernel) rfl), by decide +kernel, by decide +kernel, by decide +kernel⟩, (gT_at 548 (by decide +kernel) rfl), (gT_at 29 (by decide +kernel) rfl)⟩
theorem mt_X1_passNumber : gMV yX1_passNumber cX1_passNumber 4 (some .boolean) 2 := ⟨⟨(gT_at 486 (by decide +kernel) rfl), (gT_at 80 (by decide +kernel) rfl), by decide +kernel, by decide +kernel, by decide +kernel⟩, (gT_at 485 (by decide +kernel) rfl), (gT_at 16 (by decide +kernel) rfl)⟩
theorem mt_X1_passWord : gMV yX1_passWord cX1_passWord 2 (some .boolean) 1 := ⟨⟨(gT_at 476 (by decide +kernel) rfl), (gT_at 80 (by decide +kernel) rfl), by decide +kernel, by decide +kernel, by decide +kernel⟩, (gT_at 475 (by decide +kernel) rfl), (gT_at 14 (by decide +kernel) rfl)⟩
theorem mt_X1_isWord : gMV yX1_isWord cX1_isWord 3 (some .boolean) 1 := ⟨⟨(gT_at 480 (by decide +kernel) rfl), (gT_at 80 (by decide +kernel) rfl), by decide +kernel, by decide +kernel, by decide +kernel⟩, (gT_at 479 (by decide +kernel) rfl), (gT_at 15 (by decide +kernel) rfl)⟩
theorem mt_X1_numberAtHand : gMV yX1_numberAtHand cX1_numberAtHand 3 (some .int) 0 := ⟨⟨(gT_at 490 (by decide +kernel) rfl), (gT_at 80 (by decide +kernel) rfl), by decide +kernel, by decide +kernel, by decide +kernel⟩, (gT_at 489 (by decide +kernel) rfl), (gT_at 17 (by decide +kernel) rfl)⟩
theorem mt_X1_advance : gMV yX1_advance cX1_advance 1 none 0 := ⟨⟨(gT_at 468 (by decide +kernel) rfl), (gT_at 80 (by decide +kernel) rfl), by decide +kernel, by decide +kernel, by decide +kernel⟩, (gT_at 467 (by decide +kernel) rfl), (gT_at 13 (by decide +kernel) rfl)⟩
theorem mt_X1_sortOf : gMS yX1_sortOf cX1_sortOf 1 (some .int) 1 := ⟨⟨(gT_at 471 (by decide +kernel) rfl), (gT_at 80 (by decide +kernel) rfl), by decide +kernel, by decide +kernel, by decide +kernel⟩, (gT_at 470 (by decide +kernel) rfl)⟩
theorem mt_X2_start : gMV yX2_start cX2_start 3 none 2 := ⟨⟨(gT_at 691 (by decide +kernel) rfl), (gT_at 82 (by decide +kernel) rfl), by decide +kernel, by decide +kernel, by decide +kernel⟩, (gT_at 690 (by decide +kernel) rfl), (gT_at 51 (by decide +kernel) rfl)⟩
theorem mt_X2_become : gMV yX2_become cX2_become 2 none 1 := ⟨⟨(gT_at 753 (by decide +kernel) rfl), (gT_at 82 (by decide +kernel) rfl), by decide +kernel, by decide +kernel, by decide +kernel⟩, (gT_at 752 (by decide +kernel) rfl), (gT_at 60 (by decide +kernel) rfl)⟩
theorem mt_X2_isDone : gMV yX2_isDone cX2_isDone 1 (some .boolean) 0 := ⟨⟨(gT_at 707 (by decide +kernel) rfl), (gT_at 82 (by decide +kernel) rfl), by decide +kernel, by decide +kernel, by decide +kernel⟩, (gT_at 706 (by decide +kernel) rfl), (gT_at 53 (by decide +kernel) rfl)⟩
theorem mt_X2_advance : gMV yX2_advance cX2_advance 4 (some .int) 1 := ⟨⟨(gT_at 712 (by decide +kernel) rfl), (gT_at 82 (by decide +kernel) rfl), by decide +kernel, by decide +kernel, by decide +kernel⟩, (gT_at 711 (by decide +kernel) rfl), (gT_at 54 (by decide +kernel) rfl)⟩
theorem mt_X3_isRow : gMV yX3_isRow cX3_isRow 1 (some .boolean) 0 := ⟨⟨(gT_at 624 (by decide +kernel) rfl), (gT_at 85 (by decide +kernel) rfl), by decide +kernel, by decide +kernel, by decide +kernel⟩, (gT_at 623 (by decide +kernel) rfl), (gT_at 40 (by decide +kernel) rfl)⟩
theorem mt_X3_isWay : gMV yX3_isWay cX3_isWay 1 (some .boolean) 0 := ⟨⟨(gT_at 620 (by decide +kernel) rfl), (gT_at 85 (by decide +kernel) rfl), by decide +kernel, by decide +kernel, by decide +kernel⟩, (gT_at 619 (by decide +kernel) rfl), (gT_at 39 (by decide +kernel) rfl)⟩
theorem mt_X3_wayKind : gMV yX3_wayKind cX3_wayKind 1 (some .int) 0 := ⟨⟨(gT_at 665 (by decide +kernel) rfl), (gT_at 85 (by decide +kernel) rfl), by decide +kernel, by decide +kernel, by decide +kernel⟩, (gT_at 664 (by decide +kernel) rfl), (gT_at 47 (by decide +kernel) rfl)⟩
theorem mt_X3_putRow : gMV yX3_putRow cX3_putRow 3 none 2 := ⟨⟨(gT_at 609 (by decide +kernel) rfl), (gT_at 85 (by decide +kernel) rfl), by decide +kernel, by decide +kernel, by decide +kernel⟩, (gT_at 608 (by decide +kernel) rfl), (gT_at 38 (by decide +kernel) rfl)⟩
theorem mt_X3_putWay : gMV yX3_putWay cX3_putWay 3 none 2 := ⟨⟨(gT_at 643 (by decide +kernel) rfl), (gT_at 85 (by decide +kernel) rfl), by decide +kernel, by decide +kernel, by decide +kernel⟩, (gT_at 642 (by decide +kernel) rfl), (gT_at 43 (by decide +kernel) rfl)⟩
theorem mt_X3_hasPlaces : gMV yX3_hasPlaces cX3_hasPlaces 3 (some .boolean) 2 := ⟨⟨(gT_at 628 (by decide +kernel) rfl), (gT_at 85 (by decide +kernel) rfl), by decide +kernel, by decide +kernel, by decide +kernel⟩, (gT_at 627 (by decide +kernel) rfl), (gT_at 41 (by decide +kernel) rfl)⟩
theorem mt_X3_put : gMV yX3_put cX3_put 4 none 2 := ⟨⟨(gT_at 632 (by decide +kernel) rfl), (gT_at 85 (by decide +kernel) rfl), by decide +kernel, by decide +kernel, by decide +kernel⟩, (gT_at 631 (by decide +kernel) rfl), (gT_at 42 (by decide +kernel) rfl)⟩
theorem mt_X3_told : gMV yX3_told cX3_told 2 (some .long) 1 := ⟨⟨(gT_at 651 (by decide +kernel) rfl), (gT_at 85 (by decide +kernel) rfl), by decide +kernel, by decide +kernel, by decide +kernel⟩, (gT_at 650 (by decide +kernel) rfl), (gT_at 45 (by decide +kernel) rfl)⟩
theorem mt_X3_toldSet : gMV yX3_toldSet cX3_toldSet 3 (some .int) 0 := ⟨⟨(gT_at 647 (by decide +kernel) rfl), (gT_at 85 (by decide +kernel) rfl), by decide +kernel, by decide +kernel, by decide +kernel⟩, (gT_at 646 (by decide +kernel) rfl), (gT_at 44 (by decide +kernel) rfl)⟩
theorem mt_X4_clear : gMV yX4_clear cX4_clear 2 none 1 := ⟨⟨(gT_at 494 (by decide +kernel) rfl), (gT_at 83 (by decide +kernel) rfl), by decide +kernel, by decide +kernel, by decide +kernel⟩, (gT_at 493 (by decide +kernel) rfl), (gT_at 18 (by decide +kernel) rfl)⟩
theorem mt_X4_become : gMV yX4_become cX4_become 2 none 1 := ⟨⟨(gT_at 695 (by decide +kernel) rfl), (gT_at 83 (by decide +kernel) rfl), by decide +kernel, by decide +kernel, by decide +kernel⟩, (gT_at 694 (by decide +kernel) rfl), (gT_at 52 (by decide +kernel) rfl)⟩
theorem mt_X4_hasPerson : gMV yX4_hasPerson cX4_hasPerson 2 (some .boolean) 1 := ⟨⟨(gT_at 526 (by decide +kernel) rfl), (gT_at 83 (by decide +kernel) rfl), by decide +kernel, by decide +kernel, by decide +kernel⟩, (gT_at 525 (by decide +kernel) rfl), (gT_at 24 (by decide +kernel) rfl)⟩
theorem mt_X4_hasPair : gMV yX4_hasPair cX4_hasPair 3 (some .boolean) 2 := ⟨⟨(gT_at 540 (by decide +kernel) rfl), (gT_at 83 (by decide +kernel) rfl), by decide +kernel, by decide +kernel, by decide +kernel⟩, (gT_at 539 (by decide +kernel) rfl), (gT_at 27 (by decide +kernel) rfl)⟩
theorem mt_X4_sets : gMV yX4_sets cX4_sets 1 (some .int) 0 := ⟨⟨(gT_at 677 (by decide +kernel) rfl), (gT_at 83 (by decide +kernel) rfl), by decide +kernel, by decide +kernel, by decide +kernel⟩, (gT_at 676 (by decide +kernel) rfl), (gT_at 49 (by decide +kernel) rfl)⟩
theorem mt_X4_hasSet : gMV yX4_hasSet cX4_hasSet 2 (some .boolean) 1 := ⟨⟨(gT_at 673 (by decide +kernel) rfl), (gT_at 83 (by decide +kernel) rfl), by decide +kernel, by decide +kernel, by decide +kernel⟩, (gT_at 672 (by decide +kernel) rfl), (gT_at 48 (by decide +kernel) rfl)⟩
theorem mt_X4_hasMustsIn : gMV yX4_hasMustsIn cX4_hasMustsIn 2 (some .boolean) 1 := ⟨⟨(gT_at 786 (by decide +kernel) rfl), (gT_at 83 (by decide +kernel) rfl), by decide +kernel, by decide +kernel, by decide +kernel⟩, (gT_at 785 (by decide +kernel) rfl), (gT_at 64 (by decide +kernel) rfl)⟩
theorem mt_X4_isIn : gMS yX4_isIn cX4_isIn 2 (some .boolean) 2 := ⟨⟨(gT_at 351 (by decide +kernel) rfl), (gT_at 83 (by decide +kernel) rfl), by decide +kernel, by decide +kernel, by decide +kernel⟩, (gT_at 350 (by decide +kernel) rfl)⟩
theorem mt_X4_isMust : gMV yX4_isMust cX4_isMust 2 (some .boolean) 1 := ⟨⟨(gT_at 348 (by decide +kernel) rfl), (gT_at 83 (by decide +kernel) rfl), by decide +kernel, by decide +kernel, by decide +kernel⟩, (gT_at 347 (by decide +kernel) rfl), (gT_at 6 (by decide +kernel) rfl)⟩
theorem mt_X4_setMust : gMV yX4_setMust cX4_setMust 4 none 2 := ⟨⟨(gT_at 553 (by decide +kernel) rfl), (gT_at 83 (by decide +kernel) rfl), by decide +kernel, by decide +kernel, by decide +kernel⟩, (gT_at 552 (by decide +kernel) rfl), (gT_at 30 (by decide +kernel) rfl)⟩
theorem mt_X4_value : gMV yX4_value cX4_value 4 none 3 := ⟨⟨(gT_at 522 (by decide +kernel) rfl), (gT_at 83 (by decide +kernel) rfl), by decide +kernel, by decide +kernel, by decide +kernel⟩, (gT_at 521 (by decide +kernel) rfl), (gT_at 23 (by decide +kernel) rfl)⟩
theorem mt_X4_giveWay : gMV yX4_giveWay cX4_giveWay 4 none 3 := ⟨⟨(gT_at 661 (by decide +kernel) rfl), (gT_at 83 (by decide +kernel) rfl), by decide +kernel, by decide +kernel, by decide +kernel⟩, (gT_at 660 (by decide +kernel) rfl), (gT_at 46 (by decide +kernel) rfl)⟩
theorem mt_X4_admit : gMV yX4_admit cX4_admit 6 (some .int) 3 := ⟨⟨(gT_at 681 (by decide +kernel) rfl), (gT_at 83 (by decide +kernel) rfl), by decide +kernel, by decide +kernel, by decide +kernel⟩, (gT_at 680 (by decide +kernel) rfl), (gT_at 50 (by decide +kernel) rfl)⟩
theorem mt_X4_areNear : gMV yX4_areNear cX4_areNear 3 (some .boolean) 2 := ⟨⟨(gT_at 562 (by decide +kernel) rfl), (gT_at 83 (by decide +kernel) rfl), by decide +kernel, by decide +kernel, by decide +kernel⟩, (gT_at 561 (by decide +kernel) rfl), (gT_at 32 (by decide +kernel) rfl)⟩
theorem mt_X4_priceOf : gMV yX4_priceOf cX4_priceOf 3 (some .int) 2 := ⟨⟨(gT_at 586 (by decide +kernel) rfl), (gT_at 83 (by decide +kernel) rfl), by decide +kernel, by decide +kernel, by decide +kernel⟩, (gT_at 585 (by decide +kernel) rfl), (gT_at 35 (by decide +kernel) rfl)⟩
theorem mt_X4_join : gMV yX4_join cX4_join 4 none 3 := ⟨⟨(gT_at 536 (by decide +kernel) rfl), (gT_at 83 (by decide +kernel) rfl), by decide +kernel, by decide +kernel, by decide +kernel⟩, (gT_at 535 (by decide +kernel) rfl), (gT_at 26 (by decide +kernel) rfl)⟩
theorem mt_X4_part : gMV yX4_part cX4_part 3 none 2 := ⟨⟨(gT_at 590 (by decide +kernel) rfl), (gT_at 83 (by decide +kernel) rfl), by decide +kernel, by decide +kernel, by decide +kernel⟩, (gT_at 589 (by decide +kernel) rfl), (gT_at 36 (by decide +kernel) rfl)⟩
theorem mt_X4_priceAt : gMV yX4_priceAt cX4_priceAt 5 none 3 := ⟨⟨(gT_at 544 (by decide +kernel) rfl), (gT_at 83 (by decide +kernel) rfl), by decide +kernel, by decide +kernel, by decide +kernel⟩, (gT_at 543 (by decide +kernel) rfl), (gT_at 28 (by decide +kernel) rfl)⟩
theorem mt_X4_joinNeighbours : gMV yX4_joinNeighbours cX4_joinNeighbours 3 none 0 := ⟨⟨(gT_at 558 (by decide +kernel) rfl), (gT_at 83 (by decide +kernel) rfl), by decide +kernel, by decide +kernel, by decide +kernel⟩, (gT_at 557 (by decide +kernel) rfl), (gT_at 31 (by decide +kernel) rfl)⟩
theorem mt_X4_joinAll : gMV yX4_joinAll cX4_joinAll 3 none 0 := ⟨⟨(gT_at 568 (by decide +kernel) rfl), (gT_at 83 (by decide +kernel) rfl), by decide +kernel, by decide +kernel, by decide +kernel⟩, (gT_at 567 (by decide +kernel) rfl), (gT_at 33 (by decide +kernel) rfl)⟩
theorem mt_X4_ties : gMV yX4_ties cX4_ties 3 (some .int) 0 := ⟨⟨(gT_at 318 (by decide +kernel) rfl), (gT_at 83 (by decide +kernel) rfl), by decide +kernel, by decide +kernel, by decide +kernel⟩, (gT_at 317 (by decide +kernel) rfl), (gT_at 2 (by decide +kernel) rfl)⟩
theorem mt_X4_prices : gMV yX4_prices cX4_prices 3 (some .int) 0 := ⟨⟨(gT_at 328 (by decide +kernel) rfl), (gT_at 83 (by decide +kernel) rfl), by decide +kernel, by decide +kernel, by decide +kernel⟩, (gT_at 327 (by decide +kernel) rfl), (gT_at 3 (by decide +kernel) rfl)⟩
theorem mt_X4_gainOf : gMV yX4_gainOf cX4_gainOf 6 (some .int) 2 := ⟨⟨(gT_at 802 (by decide +kernel) rfl), (gT_at 83 (by decide +kernel) rfl), by decide +kernel, by decide +kernel, by decide +kernel⟩, (gT_at 801 (by decide +kernel) rfl), (gT_at 68 (by decide +kernel) rfl)⟩
theorem mt_X4_goodOf : gMV yX4_goodOf cX4_goodOf 4 (some .int) 1 := ⟨⟨(gT_at 798 (by decide +kernel) rfl), (gT_at 83 (by decide +kernel) rfl), by decide +kernel, by decide +kernel, by decide +kernel⟩, (gT_at 797 (by decide +kernel) rfl), (gT_at 67 (by decide +kernel) rfl)⟩
theorem mt_X4_edge : gMV yX4_edge cX4_edge 4 (some .int) 2 := ⟨⟨(gT_at 359 (by decide +kernel) rfl), (gT_at 83 (by decide +kernel) rfl), by decide +kernel, by decide +kernel, by decide +kernel⟩, (gT_at 358 (by decide +kernel) rfl), (gT_at 8 (by decide +kernel) rfl)⟩
theorem mt_X4_gainByChange : gMV yX4_gainByChange cX4_gainByChange 4 (some .int) 2 := ⟨⟨(gT_at 725 (by decide +kernel) rfl), (gT_at 83 (by decide +kernel) rfl), by decide +kernel, by decide +kernel, by decide +kernel⟩, (gT_at 724 (by decide +kernel) rfl), (gT_at 57 (by decide +kernel) rfl)⟩
theorem mt_X4_wouldChange : gMV yX4_wouldChange cX4_wouldChange 3 (some .boolean) 2 := ⟨⟨(gT_at 865 (by decide +kernel) rfl), (gT_at 83 (by decide +kernel) rfl), by decide +kernel, by decide +kernel, by decide +kernel⟩, (gT_at 864 (by decide +kernel) rfl), (gT_at 73 (by decide +kernel) rfl)⟩
theorem mt_X4_needOf : gMV yX4_needOf cX4_needOf 3 (some .int) 2 := ⟨⟨(gT_at 861 (by decide +kernel) rfl), (gT_at 83 (by decide +kernel) rfl), by decide +kernel, by decide +kernel, by decide +kernel⟩, (gT_at 860 (by decide +kernel) rfl), (gT_at 72 (by decide +kernel) rfl)⟩
theorem mt_X4_firstRestless : gMV yX4_firstRestless cX4_firstRestless 3 (some .int) 1 := ⟨⟨(gT_at 721 (by decide +kernel) rfl), (gT_at 83 (by decide +kernel) rfl), by decide +kernel, by decide +kernel, by decide +kernel⟩, (gT_at 720 (by decide +kernel) rfl), (gT_at 56 (by decide +kernel) rfl)⟩
theorem mt_X4_isRest : gMV yX4_isRest cX4_isRest 2 (some .boolean) 1 := ⟨⟨(gT_at 717 (by decide +kernel) rfl), (gT_at 83 (by decide +kernel) rfl), by decide +kernel, by decide +kernel, by decide +kernel⟩, (gT_at 716 (by decide +kernel) rfl), (gT_at 55 (by decide +kernel) rfl)⟩
theorem mt_X4_rests : gMV yX4_rests cX4_rests 3 (some .int) 0 := ⟨⟨(gT_at 769 (by decide +kernel) rfl), (gT_at 83 (by decide +kernel) rfl), by decide +kernel, by decide +kernel, by decide +kernel⟩, (gT_at 768 (by decide +kernel) rfl), (gT_at 61 (by decide +kernel) rfl)⟩
theorem mt_X4_restNumber : gMV yX4_restNumber cX4_restNumber 4 (some .int) 1 := ⟨⟨(gT_at 847 (by decide +kernel) rfl), (gT_at 83 (by decide +kernel) rfl), by decide +kernel, by decide +kernel, by decide +kernel⟩, (gT_at 846 (by decide +kernel) rfl), (gT_at 71 (by decide +kernel) rfl)⟩
theorem mt_X4_choose : gMV yX4_choose cX4_choose 7 (some .int) 2 := ⟨⟨(gT_at 782 (by decide +kernel) rfl), (gT_at 83 (by decide +kernel) rfl), by decide +kernel, by decide +kernel, by decide +kernel⟩, (gT_at 781 (by decide +kernel) rfl), (gT_at 63 (by decide +kernel) rfl)⟩
theorem mt_X4_valueOf : gMV yX4_valueOf cX4_valueOf 3 (some .int) 2 := ⟨⟨(gT_at 790 (by decide +kernel) rfl), (gT_at 83 (by decide +kernel) rfl), by decide +kernel, by decide +kernel, by decide +kernel⟩, (gT_at 789 (by decide +kernel) rfl), (gT_at 65 (by decide +kernel) rfl)⟩
theorem mt_X4_costOf : gMV yX4_costOf cX4_costOf 4 (some .int) 1 := ⟨⟨(gT_at 794 (by decide +kernel) rfl), (gT_at 83 (by decide +kernel) rfl), by decide +kernel, by decide +kernel, by decide +kernel⟩, (gT_at 793 (by decide +kernel) rfl), (gT_at 66 (by decide +kernel) rfl)⟩
theorem mt_X4_afterRound : gMV yX4_afterRound cX4_afterRound 4 (some .int) 1 := ⟨⟨(gT_at 886 (by decide +kernel) rfl), (gT_at 83 (by decide +kernel) rfl), by decide +kernel, by decide +kernel, by decide +kernel⟩, (gT_at 885 (by decide +kernel) rfl), (gT_at 76 (by decide +kernel) rfl)⟩
theorem mt_X4_chanceOf : gMV yX4_chanceOf cX4_chanceOf 3 (some .int) 2 := ⟨⟨(gT_at 344 (by decide +kernel) rfl), (gT_at 83 (by decide +kernel) rfl), by decide +kernel, by decide +kernel, by decide +kernel⟩, (gT_at 343 (by decide +kernel) rfl), (gT_at 5 (by decide +kernel) rfl)⟩
theorem mt_X4_doesSurely : gMV yX4_doesSurely cX4_doesSurely 5 (some .boolean) 2 := ⟨⟨(gT_at 355 (by decide +kernel) rfl), (gT_at 83 (by decide +kernel) rfl), by decide +kernel, by decide +kernel, by decide +kernel⟩, (gT_at 354 (by decide +kernel) rfl), (gT_at 7 (by decide +kernel) rfl)⟩
theorem mt_X4_lightAfter : gMV yX4_lightAfter cX4_lightAfter 5 (some .int) 2 := ⟨⟨(gT_at 340 (by decide +kernel) rfl), (gT_at 83 (by decide +kernel) rfl), by decide +kernel, by decide +kernel, by decide +kernel⟩, (gT_at 339 (by decide +kernel) rfl), (gT_at 4 (by decide +kernel) rfl)⟩
theorem mt_X5_become : gMV yX5_become cX5_become 3 none 1 := ⟨⟨(gT_at 747 (by decide +kernel) rfl), (gT_at 81 (by decide +kernel) rfl), by decide +kernel, by decide +kernel, by decide +kernel⟩, (gT_at 746 (by decide +kernel) rfl), (gT_at 59 (by decide +kernel) rfl)⟩
theorem mt_X5_streetAt : gMV yX5_streetAt cX5_streetAt 2 (some (.object RX4)) 1 := ⟨⟨(gT_at 310 (by decide +kernel) rfl), (gT_at 81 (by decide +kernel) rfl), by decide +kernel, by decide +kernel, by decide +kernel⟩, (gT_at 309 (by decide +kernel) rfl), (gT_at 0 (by decide +kernel) rfl)⟩
theorem mt_X5_placeForNext : gMV yX5_placeForNext cX5_placeForNext 1 (some (.object RX4)) 0 := ⟨⟨(gT_at 460 (by decide +kernel) rfl), (gT_at 81 (by decide +kernel) rfl), by decide +kernel, by decide +kernel, by decide +kernel⟩, (gT_at 459 (by decide +kernel) rfl), (gT_at 11 (by decide +kernel) rfl)⟩
theorem mt_X5_draw : gMV yX5_draw cX5_draw 2 (some .int) 1 := ⟨⟨(gT_at 734 (by decide +kernel) rfl), (gT_at 81 (by decide +kernel) rfl), by decide +kernel, by decide +kernel, by decide +kernel⟩, (gT_at 733 (by decide +kernel) rfl), (gT_at 58 (by decide +kernel) rfl)⟩
theorem mt_X6_row : gMV yX6_row cX6_row 5 (some .int) 3 := ⟨⟨(gT_at 601 (by decide +kernel) rfl), (gT_at 79 (by decide +kernel) rfl), by decide +kernel, by decide +kernel, by decide +kernel⟩, (gT_at 599 (by decide +kernel) rfl), (gT_at 600 (by decide +kernel) rfl)⟩
theorem mt_X6_set : gMV yX6_set cX6_set 6 (some .int) 3 := ⟨⟨(gT_at 616 (by decide +kernel) rfl), (gT_at 79 (by decide +kernel) rfl), by decide +kernel, by decide +kernel, by decide +kernel⟩, (gT_at 614 (by decide +kernel) rfl), (gT_at 615 (by decide +kernel) rfl)⟩
theorem mt_X6_way : gMV yX6_way cX6_way 6 (some .int) 3 := ⟨⟨(gT_at 636 (by decide +kernel) rfl), (gT_at 79 (by decide +kernel) rfl), by decide +kernel, by decide +kernel, by decide +kernel⟩, (gT_at 634 (by decide +kernel) rfl), (gT_at 635 (by decide +kernel) rfl)⟩
theorem mt_X6_feed : gMV yX6_feed cX6_feed 4 (some .int) 2 := ⟨⟨(gT_at 433 (by decide +kernel) rfl), (gT_at 79 (by decide +kernel) rfl), by decide +kernel, by decide +kernel, by decide +kernel⟩, (gT_at 431 (by decide +kernel) rfl), (gT_at 432 (by decide +kernel) rfl)⟩
theorem mt_X6_street : gMV yX6_street cX6_street 4 (some .int) 0 := ⟨⟨(gT_at 456 (by decide +kernel) rfl), (gT_at 79 (by decide +kernel) rfl), by decide +kernel, by decide +kernel, by decide +kernel⟩, (gT_at 454 (by decide +kernel) rfl), (gT_at 455 (by decide +kernel) rfl)⟩
theorem mt_X6_streetOf : gMV yX6_streetOf cX6_streetOf 4 (some .int) 2 := ⟨⟨(gT_at 306 (by decide +kernel) rfl), (gT_at 79 (by decide +kernel) rfl), by decide +kernel, by decide +kernel, by decide +kernel⟩, (gT_at 304 (by decide +kernel) rfl), (gT_at 305 (by decide +kernel) rfl)⟩
theorem mt_X6_alter : gMV yX6_alter cX6_alter 8 (some .int) 4 := ⟨⟨(gT_at 576 (by decide +kernel) rfl), (gT_at 79 (by decide +kernel) rfl), by decide +kernel, by decide +kernel, by decide +kernel⟩, (gT_at 574 (by decide +kernel) rfl), (gT_at 575 (by decide +kernel) rfl)⟩
theorem mt_X6_tie : gMV yX6_tie cX6_tie 7 (some .int) 4 := ⟨⟨(gT_at 581 (by decide +kernel) rfl), (gT_at 79 (by decide +kernel) rfl), by decide +kernel, by decide +kernel, by decide +kernel⟩, (gT_at 579 (by decide +kernel) rfl), (gT_at 580 (by decide +kernel) rfl)⟩
theorem mt_X6_must : gMV yX6_must cX6_must 6 (some .int) 3 := ⟨⟨(gT_at 595 (by decide +kernel) rfl), (gT_at 79 (by decide +kernel) rfl), by decide +kernel, by decide +kernel, by decide +kernel⟩, (gT_at 593 (by decide +kernel) rfl), (gT_at 594 (by decide +kernel) rfl)⟩
theorem mt_X6_take : gMV yX6_take cX6_take 6 (some .int) 3 := ⟨⟨(gT_at 657 (by decide +kernel) rfl), (gT_at 79 (by decide +kernel) rfl), by decide +kernel, by decide +kernel, by decide +kernel⟩, (gT_at 655 (by decide +kernel) rfl), (gT_at 656 (by decide +kernel) rfl)⟩
theorem mt_X6_come : gMV yX6_come cX6_come 6 (some .int) 4 := ⟨⟨(gT_at 669 (by decide +kernel) rfl), (gT_at 79 (by decide +kernel) rfl), by decide +kernel, by decide +kernel, by decide +kernel⟩, (gT_at 667 (by decide +kernel) rfl), (gT_at 668 (by decide +kernel) rfl)⟩
theorem mt_X6_total : gMV yX6_total cX6_total 4 (some .int) 2 := ⟨⟨(gT_at 823 (by decide +kernel) rfl), (gT_at 79 (by decide +kernel) rfl), by decide +kernel, by decide +kernel, by decide +kernel⟩, (gT_at 821 (by decide +kernel) rfl), (gT_at 822 (by decide +kernel) rfl)⟩
theorem mt_X6_judge : gMV yX6_judge cX6_judge 4 (some .int) 2 := ⟨⟨(gT_at 851 (by decide +kernel) rfl), (gT_at 79 (by decide +kernel) rfl), by decide +kernel, by decide +kernel, by decide +kernel⟩, (gT_at 849 (by decide +kernel) rfl), (gT_at 850 (by decide +kernel) rfl)⟩
theorem mt_X6_count : gMV yX6_count cX6_count 3 (some .int) 1 := ⟨⟨(gT_at 765 (by decide +kernel) rfl), (gT_at 79 (by decide +kernel) rfl), by decide +kernel, by decide +kernel, by decide +kernel⟩, (gT_at 763 (by decide +kernel) rfl), (gT_at 764 (by decide +kernel) rfl)⟩
theorem mt_X6_rest : gMV yX6_rest cX6_rest 5 (some .int) 2 := ⟨⟨(gT_at 843 (by decide +kernel) rfl), (gT_at 79 (by decide +kernel) rfl), by decide +kernel, by decide +kernel, by decide +kernel⟩, (gT_at 841 (by decide +kernel) rfl), (gT_at 842 (by decide +kernel) rfl)⟩
theorem mt_X6_fewest : gMV yX6_fewest cX6_fewest 2 (some .int) 1 := ⟨⟨(gT_at 832 (by decide +kernel) rfl), (gT_at 79 (by decide +kernel) rfl), by decide +kernel, by decide +kernel, by decide +kernel⟩, (gT_at 830 (by decide +kernel) rfl), (gT_at 831 (by decide +kernel) rfl)⟩
theorem mt_X6_most : gMV yX6_most cX6_most 2 (some .int) 1 := ⟨⟨(gT_at 839 (by decide +kernel) rfl), (gT_at 79 (by decide +kernel) rfl), by decide +kernel, by decide +kernel, by decide +kernel⟩, (gT_at 837 (by decide +kernel) rfl), (gT_at 838 (by decide +kernel) rfl)⟩
theorem mt_X6_best : gMV yX6_best cX6_best 2 (some .int) 1 := ⟨⟨(gT_at 774 (by decide +kernel) rfl), (gT_at 79 (by decide +kernel) rfl), by decide +kernel, by decide +kernel, by decide +kernel⟩, (gT_at 772 (by decide +kernel) rfl), (gT_at 773 (by decide +kernel) rfl)⟩
theorem mt_X6_good : gMV yX6_good cX6_good 3 (some .int) 1 := ⟨⟨(gT_at 806 (by decide +kernel) rfl), (gT_at 79 (by decide +kernel) rfl), by decide +kernel, by decide +kernel, by decide +kernel⟩, (gT_at 804 (by decide +kernel) rfl), (gT_at 805 (by decide +kernel) rfl)⟩
theorem mt_X6_lost : gMV yX6_lost cX6_lost 2 (some .int) 1 := ⟨⟨(gT_at 810 (by decide +kernel) rfl), (gT_at 79 (by decide +kernel) rfl), by decide +kernel, by decide +kernel, by decide +kernel⟩, (gT_at 808 (by decide +kernel) rfl), (gT_at 809 (by decide +kernel) rfl)⟩
theorem mt_X6_beside : gMV yX6_beside cX6_beside 2 (some .int) 1 := ⟨⟨(gT_at 819 (by decide +kernel) rfl), (gT_at 79 (by decide +kernel) rfl), by decide +kernel, by decide +kernel, by decide +kernel⟩, (gT_at 817 (by decide +kernel) rfl), (gT_at 818 (by decide +kernel) rfl)⟩
theorem mt_X6_go : gMV yX6_go cX6_go 4 (some .int) 2 := ⟨⟨(gT_at 873 (by decide +kernel) rfl), (gT_at 79 (by decide +kernel) rfl), by decide +kernel, by decide +kernel, by decide +kernel⟩, (gT_at 871 (by decide +kernel) rfl), (gT_at 872 (by decide +kernel) rfl)⟩
theorem mt_X6_turns : gMV yX6_turns cX6_turns 4 (some .int) 2 := ⟨⟨(gT_at 898 (by decide +kernel) rfl), (gT_at 79 (by decide +kernel) rfl), by decide +kernel, by decide +kernel, by decide +kernel⟩, (gT_at 896 (by decide +kernel) rfl), (gT_at 897 (by decide +kernel) rfl)⟩
theorem mt_X6_ring : gMV yX6_ring cX6_ring 4 (some .int) 2 := ⟨⟨(gT_at 902 (by decide +kernel) rfl), (gT_at 79 (by decide +kernel) rfl), by decide +kernel, by decide +kernel, by decide +kernel⟩, (gT_at 900 (by decide +kernel) rfl), (gT_at 901 (by decide +kernel) rfl)⟩
theorem mt_X6_know : gMV yX6_know cX6_know 4 (some .int) 2 := ⟨⟨(gT_at 739 (by decide +kernel) rfl), (gT_at 79 (by decide +kernel) rfl), by decide +kernel, by decide +kernel, by decide +kernel⟩, (gT_at 737 (by decide +kernel) rfl), (gT_at 738 (by decide +kernel) rfl)⟩
theorem mt_X6_pay : gMV yX6_pay cX6_pay 6 (some .int) 2 := ⟨⟨(gT_at 856 (by decide +kernel) rfl), (gT_at 79 (by decide +kernel) rfl), by decide +kernel, by decide +kernel, by decide +kernel⟩, (gT_at 854 (by decide +kernel) rfl), (gT_at 855 (by decide +kernel) rfl)⟩
theorem mt_X6_few : gMV yX6_few cX6_few 6 (some .int) 2 := ⟨⟨(gT_at 869 (by decide +kernel) rfl), (gT_at 79 (by decide +kernel) rfl), by decide +kernel, by decide +kernel, by decide +kernel⟩, (gT_at 867 (by decide +kernel) rfl), (gT_at 868 (by decide +kernel) rfl)⟩
theorem mt_X6_doers : gMV yX6_doers cX6_doers 8 (some .int) 2 := ⟨⟨(gT_at 729 (by decide +kernel) rfl), (gT_at 79 (by decide +kernel) rfl), by decide +kernel, by decide +kernel, by decide +kernel⟩, (gT_at 727 (by decide +kernel) rfl), (gT_at 728 (by decide +kernel) rfl)⟩
theorem mt_X6_light : gMV yX6_light cX6_light 6 (some .int) 2 := ⟨⟨(gT_at 332 (by decide +kernel) rfl), (gT_at 79 (by decide +kernel) rfl), by decide +kernel, by decide +kernel, by decide +kernel⟩, (gT_at 330 (by decide +kernel) rfl), (gT_at 331 (by decide +kernel) rfl)⟩
theorem mt_X6_begin : gMV yX6_begin cX6_begin 3 (some .int) 1 := ⟨⟨(gT_at 687 (by decide +kernel) rfl), (gT_at 79 (by decide +kernel) rfl), by decide +kernel, by decide +kernel, by decide +kernel⟩, (gT_at 685 (by decide +kernel) rfl), (gT_at 686 (by decide +kernel) rfl)⟩
theorem mt_X6_step : gMV yX6_step cX6_step 2 (some .int) 1 := ⟨⟨(gT_at 703 (by decide +kernel) rfl), (gT_at 79 (by decide +kernel) rfl), by decide +kernel, by decide +kernel, by decide +kernel⟩, (gT_at 701 (by decide +kernel) rfl), (gT_at 702 (by decide +kernel) rfl)⟩
theorem mt_X6_image : gMV yX6_image cX6_image 1 (some .int) 0 := ⟨⟨(gT_at 743 (by decide +kernel) rfl), (gT_at 79 (by decide +kernel) rfl), by decide +kernel, by decide +kernel, by decide +kernel⟩, (gT_at 741 (by decide +kernel) rfl), (gT_at 742 (by decide +kernel) rfl)⟩
theorem mt_X6_back : gMV yX6_back cX6_back 1 (some .int) 0 := ⟨⟨(gT_at 757 (by decide +kernel) rfl), (gT_at 79 (by decide +kernel) rfl), by decide +kernel, by decide +kernel, by decide +kernel⟩, (gT_at 755 (by decide +kernel) rfl), (gT_at 756 (by decide +kernel) rfl)⟩
theorem mt_X6_status : gMV yX6_status cX6_status 2 (some .int) 1 := ⟨⟨(gT_at 363 (by decide +kernel) rfl), (gT_at 79 (by decide +kernel) rfl), by decide +kernel, by decide +kernel, by decide +kernel⟩, (gT_at 361 (by decide +kernel) rfl), (gT_at 362 (by decide +kernel) rfl)⟩
theorem mt_X6_refuse : gMV yX6_refuse cX6_refuse 3 (some .int) 1 := ⟨⟨(gT_at 314 (by decide +kernel) rfl), (gT_at 79 (by decide +kernel) rfl), by decide +kernel, by decide +kernel, by decide +kernel⟩, (gT_at 313 (by decide +kernel) rfl), (gT_at 1 (by decide +kernel) rfl)⟩
theorem mt_X6_isWithin : gMS yX6_isWithin cX6_isWithin 3 (some .boolean) 3 := ⟨⟨(gT_at 335 (by decide +kernel) rfl), (gT_at 79 (by decide +kernel) rfl), by decide +kernel, by decide +kernel, by decide +kernel⟩, (gT_at 334 (by decide +kernel) rfl)⟩
theorem mt_X6_shelfAt : gMV yX6_shelfAt cX6_shelfAt 2 (some (.object RX3)) 1 := ⟨⟨(gT_at 605 (by decide +kernel) rfl), (gT_at 79 (by decide +kernel) rfl), by decide +kernel, by decide +kernel, by decide +kernel⟩, (gT_at 604 (by decide +kernel) rfl), (gT_at 37 (by decide +kernel) rfl)⟩
theorem mt_X6_shelvesInUse : gMV yX6_shelvesInUse cX6_shelvesInUse 3 (some .int) 0 := ⟨⟨(gT_at 367 (by decide +kernel) rfl), (gT_at 79 (by decide +kernel) rfl), by decide +kernel, by decide +kernel, by decide +kernel⟩, (gT_at 366 (by decide +kernel) rfl), (gT_at 9 (by decide +kernel) rfl)⟩
theorem mt_X6_streetWithSet : gMV yX6_streetWithSet cX6_streetWithSet 4 (some (.object RX4)) 2 := ⟨⟨(gT_at 827 (by decide +kernel) rfl), (gT_at 79 (by decide +kernel) rfl), by decide +kernel, by decide +kernel, by decide +kernel⟩, (gT_at 826 (by decide +kernel) rfl), (gT_at 70 (by decide +kernel) rfl)⟩
theorem mt_X6_isWayToldBy : gMS yX6_isWayToldBy cX6_isWayToldBy 2 (some .boolean) 2 := ⟨⟨(gT_at 639 (by decide +kernel) rfl), (gT_at 79 (by decide +kernel) rfl), by decide +kernel, by decide +kernel, by decide +kernel⟩, (gT_at 638 (by decide +kernel) rfl)⟩
theorem mt_X6_restBy : gMV yX6_restBy cX6_restBy 4 (some .int) 2 := ⟨⟨(gT_at 778 (by decide +kernel) rfl), (gT_at 79 (by decide +kernel) rfl), by decide +kernel, by decide +kernel, by decide +kernel⟩, (gT_at 777 (by decide +kernel) rfl), (gT_at 62 (by decide +kernel) rfl)⟩
theorem mt_X6_belowGood : gMV yX6_belowGood cX6_belowGood 5 (some .int) 2 := ⟨⟨(gT_at 814 (by decide +kernel) rfl), (gT_at 79 (by decide +kernel) rfl), by decide +kernel, by decide +kernel, by decide +kernel⟩, (gT_at 813 (by decide +kernel) rfl), (gT_at 69 (by decide +kernel) rfl)⟩
theorem mt_J6_bitCount_0f7a4 : gMS yJ6_bitCount_0f7a4 cJ6_bitCount_0f7a4 1 (some .int) 1 := ⟨⟨(gT_at 321 (by decide +kernel) rfl), (gT_at 91 (by decide +kernel) rfl), by decide +kernel, by decide +kernel, by decide +kernel⟩, (gT_at 320 (by decide +kernel) rfl)⟩
theorem mt_J0_length_8abf5 : gMV yJ0_length_8abf5 cJ0_length_8abf5 1 (some .int) 0 := ⟨⟨(gT_at 385 (by decide +kernel) rfl), (gT_at 86 (by decide +kernel) rfl), by decide +kernel, by decide +kernel, by decide +kernel⟩, (gT_at 383 (by decide +kernel) rfl), (gT_at 384 (by decide +kernel) rfl)⟩
theorem mt_J0_charAt_5068e : gMV yJ0_charAt_5068e cJ0_charAt_5068e 2 (some .char) 1 := ⟨⟨(gT_at 395 (by decide +kernel) rfl), (gT_at 86 (by decide +kernel) rfl), by decide +kernel, by decide +kernel, by decide +kernel⟩, (gT_at 393 (by decide +kernel) rfl), (gT_at 394 (by decide +kernel) rfl)⟩
theorem mt_J0_coder_7d493 : gMV yJ0_coder_7d493 cJ0_coder_7d493 1 (some .byte) 0 := ⟨⟨(gT_at 389 (by decide +kernel) rfl), (gT_at 86 (by decide +kernel) rfl), by decide +kernel, by decide +kernel, by decide +kernel⟩, (gT_at 387 (by decide +kernel) rfl), (gT_at 388 (by decide +kernel) rfl)⟩
theorem mt_J0_isLatin1_aae02 : gMV yJ0_isLatin1_aae02 cJ0_isLatin1_aae02 1 (some .boolean) 0 := ⟨⟨(gT_at 399 (by decide +kernel) rfl), (gT_at 86 (by decide +kernel) rfl), by decide +kernel, by decide +kernel, by decide +kernel⟩, (gT_at 397 (by decide +kernel) rfl), (gT_at 398 (by decide +kernel) rfl)⟩
theorem mt_J0_checkIndex_df160 : gMS yJ0_checkIndex_df160 cJ0_checkIndex_df160 2 none 2 := ⟨⟨(gT_at 405 (by decide +kernel) rfl), (gT_at 86 (by decide +kernel) rfl), by decide +kernel, by decide +kernel, by decide +kernel⟩, (gT_at 404 (by decide +kernel) rfl)⟩
theorem mt_J1_charAt_3b067 : gMS yJ1_charAt_3b067 cJ1_charAt_3b067 2 (some .char) 2 := ⟨⟨(gT_at 402 (by decide +kernel) rfl), (gT_at 87 (by decide +kernel) rfl), by decide +kernel, by decide +kernel, by decide +kernel⟩, (gT_at 401 (by decide +kernel) rfl)⟩
theorem mt_J2_getChar_3b067 : gMS yJ2_getChar_3b067 cJ2_getChar_3b067 2 (some .char) 2 := ⟨⟨(gT_at 423 (by decide +kernel) rfl), (gT_at 89 (by decide +kernel) rfl), by decide +kernel, by decide +kernel, by decide +kernel⟩, (gT_at 422 (by decide +kernel) rfl)⟩
theorem mt_J2_length_9d52b : gMS yJ2_length_9d52b cJ2_length_9d52b 1 (some .int) 1 := ⟨⟨(gT_at 419 (by decide +kernel) rfl), (gT_at 89 (by decide +kernel) rfl), by decide +kernel, by decide +kernel, by decide +kernel⟩, (gT_at 418 (by decide +kernel) rfl)⟩
theorem mt_J2_charAt_3b067 : gMS yJ2_charAt_3b067 cJ2_charAt_3b067 2 (some .char) 2 := ⟨⟨(gT_at 413 (by decide +kernel) rfl), (gT_at 89 (by decide +kernel) rfl), by decide +kernel, by decide +kernel, by decide +kernel⟩, (gT_at 412 (by decide +kernel) rfl)⟩
theorem mt_J2_checkIndex_2214a : gMS yJ2_checkIndex_2214a cJ2_checkIndex_2214a 2 none 2 := ⟨⟨(gT_at 416 (by decide +kernel) rfl), (gT_at 89 (by decide +kernel) rfl), by decide +kernel, by decide +kernel, by decide +kernel⟩, (gT_at 415 (by decide +kernel) rfl)⟩
theorem mt_J7_fill_d0a16 : gMS yJ7_fill_d0a16 cJ7_fill_d0a16 5 none 2 := ⟨⟨(gT_at 612 (by decide +kernel) rfl), (gT_at 90 (by decide +kernel) rfl), by decide +kernel, by decide +kernel, by decide +kernel⟩, (gT_at 611 (by decide +kernel) rfl)⟩
theorem mt_J7_fill_53178 : gMS yJ7_fill_53178 cJ7_fill_53178 4 none 2 := ⟨⟨(gT_at 497 (by decide +kernel) rfl), (gT_at 90 (by decide +kernel) rfl), by decide +kernel, by decide +kernel, by decide +kernel⟩, (gT_at 496 (by decide +kernel) rfl)⟩
theorem mt_J3_checkIndex_8e157 : gMS yJ3_checkIndex_8e157 cJ3_checkIndex_8e157 3 (some .int) 3 := ⟨⟨(gT_at 410 (by decide +kernel) rfl), (gT_at 88 (by decide +kernel) rfl), by decide +kernel, by decide +kernel, by decide +kernel⟩, (gT_at 409 (by decide +kernel) rfl)⟩
theorem mt_L_tell : gMS yL_tell cL_tell 3 none 2 := ⟨⟨(gT_at 381 (by decide +kernel) rfl), (gT_at 78 (by decide +kernel) rfl), by decide +kernel, by decide +kernel, by decide +kernel⟩, (gT_at 380 (by decide +kernel) rfl)⟩
theorem mt_L_number : gMS yL_number cL_number 3 none 2 := ⟨⟨(gT_at 440 (by decide +kernel) rfl), (gT_at 78 (by decide +kernel) rfl), by decide +kernel, by decide +kernel, by decide +kernel⟩, (gT_at 439 (by decide +kernel) rfl)⟩
theorem mt_L_bits : gMS yL_bits cL_bits 3 (some .int) 1 := ⟨⟨(gT_at 835 (by decide +kernel) rfl), (gT_at 78 (by decide +kernel) rfl), by decide +kernel, by decide +kernel, by decide +kernel⟩, (gT_at 834 (by decide +kernel) rfl)⟩
theorem mt_L_cell : gMS yL_cell cL_cell 2 (some .int) 2 := ⟨⟨(gT_at 370 (by decide +kernel) rfl), (gT_at 78 (by decide +kernel) rfl), by decide +kernel, by decide +kernel, by decide +kernel⟩, (gT_at 369 (by decide +kernel) rfl)⟩
theorem mt_L_build : gMS yL_build cL_build 8 (some .int) 4 := ⟨⟨(gT_at 377 (by decide +kernel) rfl), (gT_at 78 (by decide +kernel) rfl), by decide +kernel, by decide +kernel, by decide +kernel⟩, (gT_at 376 (by decide +kernel) rfl)⟩
theorem mt_L_act : gMS yL_act cL_act 7 none 3 := ⟨⟨(gT_at 374 (by decide +kernel) rfl), (gT_at 78 (by decide +kernel) rfl), by decide +kernel, by decide +kernel, by decide +kernel⟩, (gT_at 373 (by decide +kernel) rfl)⟩
theorem mt_L_holds : gMS yL_holds cL_holds 12 (some .boolean) 3 := ⟨⟨(gT_at 761 (by decide +kernel) rfl), (gT_at 78 (by decide +kernel) rfl), by decide +kernel, by decide +kernel, by decide +kernel⟩, (gT_at 760 (by decide +kernel) rfl)⟩
theorem mt_L_refusals : gMS yL_refusals cL_refusals 3 (some .int) 1 := ⟨⟨(gT_at 905 (by decide +kernel) rfl), (gT_at 78 (by decide +kernel) rfl), by decide +kernel, by decide +kernel, by decide +kernel⟩, (gT_at 904 (by decide +kernel) rfl)⟩
theorem ml_L_175 : gML RL 175 yX6_init := Or.inl (gT_at 95 (by decide +kernel) rfl)
theorem ml_X6_17 : gML RX6 17 yX1_init := Or.inr ⟨"SomebodyWill", (gN_at 105 (by decide +kernel) rfl)⟩
theorem fl_X1_9 : gFL RX1 9 RX1 "bytes" "[I" := Or.inl (gT_at 109 (by decide +kernel) rfl)
theorem fl_X1_15 : gFL RX1 15 RX1 "size" "I" := Or.inl (gT_at 110 (by decide +kernel) rfl)
theorem fl_X6_117 : gFL RX6 117 RX1 "size" "I" := Or.inr ⟨"SomebodyWill", (gN_at 111 (by decide +kernel) rfl)⟩
theorem fl_X1_44 : gFL RX1 44 RX1 "sort" "I" := Or.inl (gT_at 112 (by decide +kernel) rfl)
theorem fl_X6_135 : gFL RX6 135 RX1 "start" "I" := Or.inr ⟨"SomebodyWill", (gN_at 113 (by decide +kernel) rfl)⟩
theorem fl_X1_129 : gFL RX1 129 RX1 "start" "I" := Or.inl (gT_at 114 (by decide +kernel) rfl)
theorem fl_X1_19 : gFL RX1 19 RX1 "behind" "I" := Or.inl (gT_at 115 (by decide +kernel) rfl)
theorem fl_X1_35 : gFL RX1 35 RX1 "passed" "I" := Or.inl (gT_at 116 (by decide +kernel) rfl)
theorem ml_X6_24 : gML RX6 24 yX5_init := Or.inr ⟨"SomebodyWill", (gN_at 133 (by decide +kernel) rfl)⟩
theorem ml_X5_23 : gML RX5 23 yX2_init := Or.inr ⟨"SomebodyWill", (gN_at 141 (by decide +kernel) rfl)⟩
theorem ml_X2_11 : gML RX2 11 yX4_init := Or.inr ⟨"SomebodyWill", (gN_at 147 (by decide +kernel) rfl)⟩
theorem fl_X4_9 : gFL RX4 9 RX4 "cost" "[I" := Or.inl (gT_at 151 (by decide +kernel) rfl)
theorem fl_X1_53 : gFL RX1 53 RX4 "cost" "[I" := Or.inr ⟨"SomebodyWill", (gN_at 152 (by decide +kernel) rfl)⟩
theorem fl_X6_161 : gFL RX6 161 RX4 "cost" "[I" := Or.inr ⟨"SomebodyWill", (gN_at 153 (by decide +kernel) rfl)⟩
theorem fl_X4_15 : gFL RX4 15 RX4 "worth" "[I" := Or.inl (gT_at 154 (by decide +kernel) rfl)
theorem fl_X1_61 : gFL RX1 61 RX4 "worth" "[I" := Or.inr ⟨"SomebodyWill", (gN_at 155 (by decide +kernel) rfl)⟩
theorem fl_X6_164 : gFL RX6 164 RX4 "worth" "[I" := Or.inr ⟨"SomebodyWill", (gN_at 156 (by decide +kernel) rfl)⟩
theorem fl_X4_18 : gFL RX4 18 RX4 "near" "[I" := Or.inl (gT_at 157 (by decide +kernel) rfl)
theorem fl_X4_21 : gFL RX4 21 RX4 "wayKind" "[I" := Or.inl (gT_at 158 (by decide +kernel) rfl)
theorem fl_X6_173 : gFL RX6 173 RX4 "wayKind" "[I" := Or.inr ⟨"SomebodyWill", (gN_at 159 (by decide +kernel) rfl)⟩
theorem fl_X4_24 : gFL RX4 24 RX4 "wayTold" "[I" := Or.inl (gT_at 160 (by decide +kernel) rfl)
theorem fl_X4_27 : gFL RX4 27 RX4 "price" "[I" := Or.inl (gT_at 161 (by decide +kernel) rfl)
theorem fl_X4_30 : gFL RX4 30 RX4 "pays" "[I" := Or.inl (gT_at 162 (by decide +kernel) rfl)
theorem fl_X4_33 : gFL RX4 33 RX4 "persons" "I" := Or.inl (gT_at 163 (by decide +kernel) rfl)
theorem fl_X1_83 : gFL RX1 83 RX4 "persons" "I" := Or.inr ⟨"SomebodyWill", (gN_at 164 (by decide +kernel) rfl)⟩
theorem fl_X6_143 : gFL RX6 143 RX4 "persons" "I" := Or.inr ⟨"SomebodyWill", (gN_at 165 (by decide +kernel) rfl)⟩
theorem fl_X4_37 : gFL RX4 37 RX4 "more" "I" := Or.inl (gT_at 166 (by decide +kernel) rfl)
theorem fl_X1_102 : gFL RX1 102 RX4 "more" "I" := Or.inr ⟨"SomebodyWill", (gN_at 167 (by decide +kernel) rfl)⟩
theorem fl_X6_149 : gFL RX6 149 RX4 "more" "I" := Or.inr ⟨"SomebodyWill", (gN_at 168 (by decide +kernel) rfl)⟩
theorem fl_X4_40 : gFL RX4 40 RX4 "musts" "I" := Or.inl (gT_at 169 (by decide +kernel) rfl)
theorem fl_X6_152 : gFL RX6 152 RX4 "musts" "I" := Or.inr ⟨"SomebodyWill", (gN_at 170 (by decide +kernel) rfl)⟩
theorem fl_X2_12 : gFL RX2 12 RX2 "street" "LSomebodyWill$Street;" := Or.inl (gT_at 192 (by decide +kernel) rfl)
theorem fl_X2_22 : gFL RX2 22 RX2 "isUnderWay" "Z" := Or.inl (gT_at 193 (by decide +kernel) rfl)
theorem fl_X6_337 : gFL RX6 337 RX2 "isUnderWay" "Z" := Or.inr ⟨"SomebodyWill", (gN_at 194 (by decide +kernel) rfl)⟩
theorem fl_X2_26 : gFL RX2 26 RX2 "streetNumber" "I" := Or.inl (gT_at 195 (by decide +kernel) rfl)
theorem fl_X2_30 : gFL RX2 30 RX2 "next" "I" := Or.inl (gT_at 196 (by decide +kernel) rfl)
theorem fl_X2_33 : gFL RX2 33 RX2 "found" "I" := Or.inl (gT_at 197 (by decide +kernel) rfl)
theorem fl_X2_36 : gFL RX2 36 RX2 "last" "I" := Or.inl (gT_at 198 (by decide +kernel) rfl)
theorem ml_X5_32 : gML RX5 32 yX4_init := Or.inr ⟨"SomebodyWill", (gN_at 212 (by decide +kernel) rfl)⟩
theorem fl_X5_11 : gFL RX5 11 RX5 "streets" "[LSomebodyWill$Street;" := Or.inl (gT_at 213 (by decide +kernel) rfl)
theorem fl_X5_17 : gFL RX5 17 RX5 "known" "[I" := Or.inl (gT_at 214 (by decide +kernel) rfl)
theorem fl_X6_267 : gFL RX6 267 RX5 "known" "[I" := Or.inr ⟨"SomebodyWill", (gN_at 215 (by decide +kernel) rfl)⟩
theorem fl_X5_24 : gFL RX5 24 RX5 "hunt" "LSomebodyWill$Search;" := Or.inl (gT_at 216 (by decide +kernel) rfl)
theorem fl_X6_326 : gFL RX6 326 RX5 "hunt" "LSomebodyWill$Search;" := Or.inr ⟨"SomebodyWill", (gN_at 217 (by decide +kernel) rfl)⟩
theorem fl_X5_33 : gFL RX5 33 RX5 "size" "I" := Or.inl (gT_at 218 (by decide +kernel) rfl)
theorem fl_X6_138 : gFL RX6 138 RX5 "size" "I" := Or.inr ⟨"SomebodyWill", (gN_at 219 (by decide +kernel) rfl)⟩
theorem fl_X5_28 : gFL RX5 28 RX5 "chanceSeed" "I" := Or.inl (gT_at 220 (by decide +kernel) rfl)
theorem fl_X6_323 : gFL RX6 323 RX5 "chanceSeed" "I" := Or.inr ⟨"SomebodyWill", (gN_at 221 (by decide +kernel) rfl)⟩
theorem ml_X6_34 : gML RX6 34 yX4_init := Or.inr ⟨"SomebodyWill", (gN_at 234 (by decide +kernel) rfl)⟩
theorem ml_X6_41 : gML RX6 41 yX0_init := Or.inr ⟨"SomebodyWill", (gN_at 237 (by decide +kernel) rfl)⟩
theorem fl_X0_11 : gFL RX0 11 RX0 "seen" "[J" := Or.inl (gT_at 241 (by decide +kernel) rfl)
theorem fl_X0_21 : gFL RX0 21 RX0 "end" "I" := Or.inl (gT_at 242 (by decide +kernel) rfl)
theorem fl_X6_249 : gFL RX6 249 RX0 "end" "I" := Or.inr ⟨"SomebodyWill", (gN_at 243 (by decide +kernel) rfl)⟩
theorem fl_X0_25 : gFL RX0 25 RX0 "changes" "I" := Or.inl (gT_at 244 (by decide +kernel) rfl)
theorem fl_X6_252 : gFL RX6 252 RX0 "changes" "I" := Or.inr ⟨"SomebodyWill", (gN_at 245 (by decide +kernel) rfl)⟩
theorem fl_X0_28 : gFL RX0 28 RX0 "ringRounds" "I" := Or.inl (gT_at 246 (by decide +kernel) rfl)
theorem fl_X6_246 : gFL RX6 246 RX0 "ringRounds" "I" := Or.inr ⟨"SomebodyWill", (gN_at 247 (by decide +kernel) rfl)⟩
theorem ml_X6_50 : gML RX6 50 yX3_init := Or.inr ⟨"SomebodyWill", (gN_at 259 (by decide +kernel) rfl)⟩
theorem fl_X3_9 : gFL RX3 9 RX3 "places" "[J" := Or.inl (gT_at 263 (by decide +kernel) rfl)
theorem fl_X3_15 : gFL RX3 15 RX3 "holding" "I" := Or.inl (gT_at 264 (by decide +kernel) rfl)
theorem fl_X6_82 : gFL RX6 82 RX3 "holding" "I" := Or.inr ⟨"SomebodyWill", (gN_at 265 (by decide +kernel) rfl)⟩
theorem fl_X3_19 : gFL RX3 19 RX3 "size" "I" := Or.inl (gT_at 266 (by decide +kernel) rfl)
theorem fl_X3_28 : gFL RX3 28 RX3 "wayTold" "I" := Or.inl (gT_at 267 (by decide +kernel) rfl)
theorem fl_X6_202 : gFL RX6 202 RX3 "wayTold" "I" := Or.inr ⟨"SomebodyWill", (gN_at 268 (by decide +kernel) rfl)⟩
theorem fl_X6_11 : gFL RX6 11 RX6 "shelves" "[LSomebodyWill$Shelf;" := Or.inl (gT_at 278 (by decide +kernel) rfl)
theorem fl_X6_18 : gFL RX6 18 RX6 "tape" "LSomebodyWill$Reader;" := Or.inl (gT_at 279 (by decide +kernel) rfl)
theorem fl_X6_25 : gFL RX6 25 RX6 "town" "LSomebodyWill$Town;" := Or.inl (gT_at 280 (by decide +kernel) rfl)
theorem fl_X6_29 : gFL RX6 29 RX6 "kept" "LSomebodyWill$Town;" := Or.inl (gT_at 281 (by decide +kernel) rfl)
theorem fl_X6_35 : gFL RX6 35 RX6 "trial" "LSomebodyWill$Street;" := Or.inl (gT_at 282 (by decide +kernel) rfl)
theorem fl_X6_42 : gFL RX6 42 RX6 "course" "LSomebodyWill$Course;" := Or.inl (gT_at 283 (by decide +kernel) rfl)
theorem fl_X6_46 : gFL RX6 46 RX6 "refused" "[I" := Or.inl (gT_at 284 (by decide +kernel) rfl)
theorem fl_X6_362 : gFL RX6 362 RX6 "isKept" "Z" := Or.inl (gT_at 285 (by decide +kernel) rfl)
theorem ml_L_100 : gML RL 100 yX6_streetOf := Or.inl (gT_at 303 (by decide +kernel) rfl)
theorem ml_X6_139 : gML RX6 139 yX5_streetAt := Or.inr ⟨"SomebodyWill", (gN_at 307 (by decide +kernel) rfl)⟩
theorem ml_X6_59 : gML RX6 59 yX6_refuse := Or.inl (gT_at 311 (by decide +kernel) rfl)
theorem ml_X6_146 : gML RX6 146 yX4_ties := Or.inr ⟨"SomebodyWill", (gN_at 315 (by decide +kernel) rfl)⟩
theorem ml_X4_86 : gML RX4 86 yJ6_bitCount_0f7a4 := Or.inl (gT_at 319 (by decide +kernel) rfl)
theorem cn_J6_265 : Cond.constant RJ6 265 (1431655765 : Int32) ∈ gT := (gT_at 322 (by decide +kernel) rfl)
theorem cn_J6_266 : Cond.constant RJ6 266 (858993459 : Int32) ∈ gT := (gT_at 323 (by decide +kernel) rfl)
theorem cn_J6_267 : Cond.constant RJ6 267 (252645135 : Int32) ∈ gT := (gT_at 324 (by decide +kernel) rfl)
theorem ml_X6_155 : gML RX6 155 yX4_prices := Or.inr ⟨"SomebodyWill", (gN_at 325 (by decide +kernel) rfl)⟩
theorem ml_L_172 : gML RL 172 yX6_light := Or.inl (gT_at 329 (by decide +kernel) rfl)
theorem ml_X6_55 : gML RX6 55 yX6_isWithin := Or.inl (gT_at 333 (by decide +kernel) rfl)
theorem cn_X6_319 : Cond.constant RX6 319 (1000000 : Int32) ∈ gT := (gT_at 336 (by decide +kernel) rfl)
theorem ml_X6_320 : gML RX6 320 yX4_lightAfter := Or.inr ⟨"SomebodyWill", (gN_at 337 (by decide +kernel) rfl)⟩
theorem ml_X4_129 : gML RX4 129 yX4_chanceOf := Or.inl (gT_at 341 (by decide +kernel) rfl)
theorem ml_X4_99 : gML RX4 99 yX4_isMust := Or.inl (gT_at 345 (by decide +kernel) rfl)
theorem ml_X4_63 : gML RX4 63 yX4_isIn := Or.inl (gT_at 349 (by decide +kernel) rfl)
theorem ml_X4_126 : gML RX4 126 yX4_doesSurely := Or.inl (gT_at 352 (by decide +kernel) rfl)
theorem ml_X4_96 : gML RX4 96 yX4_edge := Or.inl (gT_at 356 (by decide +kernel) rfl)
theorem ml_L_67 : gML RL 67 yX6_status := Or.inl (gT_at 360 (by decide +kernel) rfl)
theorem ml_X6_365 : gML RX6 365 yX6_shelvesInUse := Or.inl (gT_at 364 (by decide +kernel) rfl)
theorem ml_L_24 : gML RL 24 yL_cell := Or.inl (gT_at 368 (by decide +kernel) rfl)
theorem cn_L_23 : Cond.constant RL 23 (65535 : Int32) ∈ gT := (gT_at 371 (by decide +kernel) rfl)
theorem ml_L_176 : gML RL 176 yL_act := Or.inl (gT_at 372 (by decide +kernel) rfl)
theorem ml_L_71 : gML RL 71 yL_build := Or.inl (gT_at 375 (by decide +kernel) rfl)
theorem ml_L_32 : gML RL 32 yL_tell := Or.inl (gT_at 379 (by decide +kernel) rfl)
theorem ml_L_7 : gML RL 7 yJ0_length_8abf5 := Or.inl (gT_at 382 (by decide +kernel) rfl)
theorem ml_J0_335 : gML RJ0 335 yJ0_coder_7d493 := Or.inl (gT_at 386 (by decide +kernel) rfl)
theorem fl_J0_38 : gFL RJ0 38 RJ0 "COMPACT_STRINGS" "Z" := Or.inl (gT_at 390 (by decide +kernel) rfl)
theorem ml_L_13 : gML RL 13 yJ0_charAt_5068e := Or.inl (gT_at 392 (by decide +kernel) rfl)
theorem ml_J0_492 : gML RJ0 492 yJ0_isLatin1_aae02 := Or.inl (gT_at 396 (by decide +kernel) rfl)
theorem ml_J0_495 : gML RJ0 495 yJ1_charAt_3b067 := Or.inl (gT_at 400 (by decide +kernel) rfl)
theorem ml_J1_9 : gML RJ1 9 yJ0_checkIndex_df160 := Or.inl (gT_at 403 (by decide +kernel) rfl)
theorem fl_J0_1053 : gFL RJ0 1053 RJ3 "SIOOBE_FORMATTER" "Ljava/util/function/BiFunction;" := Or.inl (gT_at 406 (by decide +kernel) rfl)
theorem ml_J0_1059 : gML RJ0 1059 yJ3_checkIndex_8e157 := Or.inl (gT_at 408 (by decide +kernel) rfl)
theorem ml_J0_498 : gML RJ0 498 yJ2_charAt_3b067 := Or.inl (gT_at 411 (by decide +kernel) rfl)
theorem ml_J2_67 : gML RJ2 67 yJ2_checkIndex_2214a := Or.inl (gT_at 414 (by decide +kernel) rfl)
theorem ml_J2_48 : gML RJ2 48 yJ2_length_9d52b := Or.inl (gT_at 417 (by decide +kernel) rfl)
theorem ml_J2_414 : gML RJ2 414 yJ0_checkIndex_df160 := Or.inl (gT_at 420 (by decide +kernel) rfl)
theorem ml_J2_71 : gML RJ2 71 yJ2_getChar_3b067 := Or.inl (gT_at 421 (by decide +kernel) rfl)
theorem fl_J2_44 : gFL RJ2 44 RJ2 "$assertionsDisabled" "Z" := Or.inl (gT_at 424 (by decide +kernel) rfl)
theorem fl_J2_59 : gFL RJ2 59 RJ2 "HI_BYTE_SHIFT" "I" := Or.inl (gT_at 426 (by decide +kernel) rfl)
theorem fl_J2_63 : gFL RJ2 63 RJ2 "LO_BYTE_SHIFT" "I" := Or.inl (gT_at 428 (by decide +kernel) rfl)
theorem ml_L_17 : gML RL 17 yX6_feed := Or.inl (gT_at 430 (by decide +kernel) rfl)
theorem ml_X6_120 : gML RX6 120 yX1_append := Or.inr ⟨"SomebodyWill", (gN_at 434 (by decide +kernel) rfl)⟩
theorem ml_L_36 : gML RL 36 yL_number := Or.inl (gT_at 438 (by decide +kernel) rfl)
theorem ml_L_64 : gML RL 64 yX6_street := Or.inl (gT_at 453 (by decide +kernel) rfl)
theorem ml_X6_127 : gML RX6 127 yX5_placeForNext := Or.inr ⟨"SomebodyWill", (gN_at 457 (by decide +kernel) rfl)⟩
theorem ml_X6_131 : gML RX6 131 yX1_readStreet := Or.inr ⟨"SomebodyWill", (gN_at 461 (by decide +kernel) rfl)⟩
theorem ml_X1_22 : gML RX1 22 yX1_advance := Or.inl (gT_at 465 (by decide +kernel) rfl)
theorem ml_X1_136 : gML RX1 136 yX1_sortOf := Or.inl (gT_at 469 (by decide +kernel) rfl)
theorem ml_X1_27 : gML RX1 27 yX1_passWord := Or.inl (gT_at 473 (by decide +kernel) rfl)
theorem ml_X1_121 : gML RX1 121 yX1_isWord := Or.inl (gT_at 477 (by decide +kernel) rfl)
theorem ml_X1_124 : gML RX1 124 yJ0_length_8abf5 := Or.inl (gT_at 481 (by decide +kernel) rfl)
theorem ml_X1_132 : gML RX1 132 yJ0_charAt_5068e := Or.inl (gT_at 482 (by decide +kernel) rfl)
theorem ml_X1_31 : gML RX1 31 yX1_passNumber := Or.inl (gT_at 483 (by decide +kernel) rfl)
theorem ml_X1_108 : gML RX1 108 yX1_numberAtHand := Or.inl (gT_at 487 (by decide +kernel) rfl)
theorem ml_X1_38 : gML RX1 38 yX4_clear := Or.inr ⟨"SomebodyWill", (gN_at 491 (by decide +kernel) rfl)⟩
theorem ml_X4_43 : gML RX4 43 yJ7_fill_53178 := Or.inl (gT_at 495 (by decide +kernel) rfl)
theorem ml_X1_47 : gML RX1 47 yX1_readStatement := Or.inl (gT_at 498 (by decide +kernel) rfl)
theorem ml_X1_55 : gML RX1 55 yX1_readForAll := Or.inl (gT_at 503 (by decide +kernel) rfl)
theorem ml_X1_96 : gML RX1 96 yJ7_fill_53178 := Or.inl (gT_at 507 (by decide +kernel) rfl)
theorem ml_X1_65 : gML RX1 65 yX1_readMore := Or.inl (gT_at 510 (by decide +kernel) rfl)
theorem ml_X1_70 : gML RX1 70 yX1_readOne := Or.inl (gT_at 515 (by decide +kernel) rfl)
theorem ml_X1_104 : gML RX1 104 yX4_value := Or.inr ⟨"SomebodyWill", (gN_at 519 (by decide +kernel) rfl)⟩
theorem ml_X4_55 : gML RX4 55 yX4_hasPerson := Or.inl (gT_at 523 (by decide +kernel) rfl)
theorem ml_X1_75 : gML RX1 75 yX1_readTie := Or.inl (gT_at 528 (by decide +kernel) rfl)
theorem ml_X1_114 : gML RX1 114 yX4_join := Or.inr ⟨"SomebodyWill", (gN_at 533 (by decide +kernel) rfl)⟩
theorem ml_X4_77 : gML RX4 77 yX4_hasPair := Or.inl (gT_at 537 (by decide +kernel) rfl)
theorem ml_X4_83 : gML RX4 83 yX4_priceAt := Or.inl (gT_at 541 (by decide +kernel) rfl)
theorem ml_X1_80 : gML RX1 80 yX1_readMust := Or.inl (gT_at 546 (by decide +kernel) rfl)
theorem ml_X1_117 : gML RX1 117 yX4_setMust := Or.inr ⟨"SomebodyWill", (gN_at 550 (by decide +kernel) rfl)⟩
theorem ml_X1_88 : gML RX1 88 yX4_joinNeighbours := Or.inr ⟨"SomebodyWill", (gN_at 555 (by decide +kernel) rfl)⟩
theorem ml_X4_80 : gML RX4 80 yX4_areNear := Or.inl (gT_at 559 (by decide +kernel) rfl)
theorem ml_X4_74 : gML RX4 74 yX4_join := Or.inl (gT_at 563 (by decide +kernel) rfl)
theorem ml_X1_93 : gML RX1 93 yX4_joinAll := Or.inr ⟨"SomebodyWill", (gN_at 565 (by decide +kernel) rfl)⟩
theorem ml_X6_124 : gML RX6 124 yX1_empty := Or.inr ⟨"SomebodyWill", (gN_at 569 (by decide +kernel) rfl)⟩
theorem ml_L_75 : gML RL 75 yX6_alter := Or.inl (gT_at 573 (by decide +kernel) rfl)
theorem ml_X6_158 : gML RX6 158 yX4_hasPerson := Or.inr ⟨"SomebodyWill", (gN_at 577 (by decide +kernel) rfl)⟩
theorem ml_L_79 : gML RL 79 yX6_tie := Or.inl (gT_at 578 (by decide +kernel) rfl)
theorem ml_X6_179 : gML RX6 179 yX4_hasPair := Or.inr ⟨"SomebodyWill", (gN_at 582 (by decide +kernel) rfl)⟩
theorem ml_X6_182 : gML RX6 182 yX4_priceOf := Or.inr ⟨"SomebodyWill", (gN_at 583 (by decide +kernel) rfl)⟩
theorem ml_X6_186 : gML RX6 186 yX4_part := Or.inr ⟨"SomebodyWill", (gN_at 587 (by decide +kernel) rfl)⟩
theorem ml_X6_189 : gML RX6 189 yX4_join := Or.inr ⟨"SomebodyWill", (gN_at 591 (by decide +kernel) rfl)⟩
theorem ml_L_82 : gML RL 82 yX6_must := Or.inl (gT_at 592 (by decide +kernel) rfl)
theorem ml_X6_170 : gML RX6 170 yX4_isMust := Or.inr ⟨"SomebodyWill", (gN_at 596 (by decide +kernel) rfl)⟩
theorem ml_X6_193 : gML RX6 193 yX4_setMust := Or.inr ⟨"SomebodyWill", (gN_at 597 (by decide +kernel) rfl)⟩
theorem ml_L_86 : gML RL 86 yX6_row := Or.inl (gT_at 598 (by decide +kernel) rfl)
theorem ml_X6_51 : gML RX6 51 yX6_shelfAt := Or.inl (gT_at 602 (by decide +kernel) rfl)
theorem ml_X6_63 : gML RX6 63 yX3_putRow := Or.inr ⟨"SomebodyWill", (gN_at 606 (by decide +kernel) rfl)⟩
theorem ml_X3_22 : gML RX3 22 yJ7_fill_d0a16 := Or.inl (gT_at 610 (by decide +kernel) rfl)
theorem ml_L_90 : gML RL 90 yX6_set := Or.inl (gT_at 613 (by decide +kernel) rfl)
theorem ml_X6_67 : gML RX6 67 yX3_isWay := Or.inr ⟨"SomebodyWill", (gN_at 617 (by decide +kernel) rfl)⟩
theorem ml_X6_71 : gML RX6 71 yX3_isRow := Or.inr ⟨"SomebodyWill", (gN_at 621 (by decide +kernel) rfl)⟩
theorem ml_X6_74 : gML RX6 74 yX3_hasPlaces := Or.inr ⟨"SomebodyWill", (gN_at 625 (by decide +kernel) rfl)⟩
theorem ml_X6_78 : gML RX6 78 yX3_put := Or.inr ⟨"SomebodyWill", (gN_at 629 (by decide +kernel) rfl)⟩
theorem ml_L_94 : gML RL 94 yX6_way := Or.inl (gT_at 633 (by decide +kernel) rfl)
theorem ml_X6_100 : gML RX6 100 yX6_isWayToldBy := Or.inl (gT_at 637 (by decide +kernel) rfl)
theorem ml_X6_103 : gML RX6 103 yX3_putWay := Or.inr ⟨"SomebodyWill", (gN_at 640 (by decide +kernel) rfl)⟩
theorem ml_X6_106 : gML RX6 106 yX3_toldSet := Or.inr ⟨"SomebodyWill", (gN_at 644 (by decide +kernel) rfl)⟩
theorem ml_X3_39 : gML RX3 39 yX3_told := Or.inl (gT_at 648 (by decide +kernel) rfl)
theorem ml_X3_31 : gML RX3 31 yX3_isRow := Or.inl (gT_at 652 (by decide +kernel) rfl)
theorem ml_X3_35 : gML RX3 35 yX3_hasPlaces := Or.inl (gT_at 653 (by decide +kernel) rfl)
theorem ml_L_97 : gML RL 97 yX6_take := Or.inl (gT_at 654 (by decide +kernel) rfl)
theorem ml_X6_197 : gML RX6 197 yX4_giveWay := Or.inr ⟨"SomebodyWill", (gN_at 658 (by decide +kernel) rfl)⟩
theorem ml_X6_200 : gML RX6 200 yX3_wayKind := Or.inr ⟨"SomebodyWill", (gN_at 662 (by decide +kernel) rfl)⟩
theorem ml_L_103 : gML RL 103 yX6_come := Or.inl (gT_at 666 (by decide +kernel) rfl)
theorem ml_X6_205 : gML RX6 205 yX4_hasSet := Or.inr ⟨"SomebodyWill", (gN_at 670 (by decide +kernel) rfl)⟩
theorem ml_X4_59 : gML RX4 59 yX4_sets := Or.inl (gT_at 674 (by decide +kernel) rfl)
theorem ml_X6_208 : gML RX6 208 yX4_admit := Or.inr ⟨"SomebodyWill", (gN_at 678 (by decide +kernel) rfl)⟩
theorem ml_X4_67 : gML RX4 67 yX4_value := Or.inl (gT_at 682 (by decide +kernel) rfl)
theorem ml_X4_71 : gML RX4 71 yX4_giveWay := Or.inl (gT_at 683 (by decide +kernel) rfl)
theorem ml_L_106 : gML RL 106 yX6_begin := Or.inl (gT_at 684 (by decide +kernel) rfl)
theorem ml_X6_330 : gML RX6 330 yX2_start := Or.inr ⟨"SomebodyWill", (gN_at 688 (by decide +kernel) rfl)⟩
theorem ml_X2_18 : gML RX2 18 yX4_become := Or.inr ⟨"SomebodyWill", (gN_at 692 (by decide +kernel) rfl)⟩
theorem ml_X6_334 : gML RX6 334 yX4_sets := Or.inr ⟨"SomebodyWill", (gN_at 699 (by decide +kernel) rfl)⟩
theorem ml_L_109 : gML RL 109 yX6_step := Or.inl (gT_at 700 (by decide +kernel) rfl)
theorem ml_X6_341 : gML RX6 341 yX2_isDone := Or.inr ⟨"SomebodyWill", (gN_at 704 (by decide +kernel) rfl)⟩
theorem ml_X2_39 : gML RX2 39 yX4_sets := Or.inr ⟨"SomebodyWill", (gN_at 708 (by decide +kernel) rfl)⟩
theorem ml_X6_344 : gML RX6 344 yX2_advance := Or.inr ⟨"SomebodyWill", (gN_at 709 (by decide +kernel) rfl)⟩
theorem ml_X2_43 : gML RX2 43 yX2_isDone := Or.inl (gT_at 713 (by decide +kernel) rfl)
theorem ml_X2_47 : gML RX2 47 yX4_isRest := Or.inr ⟨"SomebodyWill", (gN_at 714 (by decide +kernel) rfl)⟩
theorem ml_X4_108 : gML RX4 108 yX4_firstRestless := Or.inl (gT_at 718 (by decide +kernel) rfl)
theorem ml_X4_102 : gML RX4 102 yX4_gainByChange := Or.inl (gT_at 722 (by decide +kernel) rfl)
theorem ml_L_112 : gML RL 112 yX6_doers := Or.inl (gT_at 726 (by decide +kernel) rfl)
theorem ml_X6_313 : gML RX6 313 yX4_chanceOf := Or.inr ⟨"SomebodyWill", (gN_at 730 (by decide +kernel) rfl)⟩
theorem ml_X6_316 : gML RX6 316 yX5_draw := Or.inr ⟨"SomebodyWill", (gN_at 731 (by decide +kernel) rfl)⟩
theorem cn_X5_49 : Cond.constant RX5 49 (1103515245 : Int32) ∈ gT := (gT_at 735 (by decide +kernel) rfl)
theorem ml_L_115 : gML RL 115 yX6_know := Or.inl (gT_at 736 (by decide +kernel) rfl)
theorem ml_L_118 : gML RL 118 yX6_image := Or.inl (gT_at 740 (by decide +kernel) rfl)
theorem ml_X6_359 : gML RX6 359 yX5_become := Or.inr ⟨"SomebodyWill", (gN_at 744 (by decide +kernel) rfl)⟩
theorem ml_X5_36 : gML RX5 36 yX4_become := Or.inr ⟨"SomebodyWill", (gN_at 748 (by decide +kernel) rfl)⟩
theorem ml_X5_46 : gML RX5 46 yX2_become := Or.inr ⟨"SomebodyWill", (gN_at 750 (by decide +kernel) rfl)⟩
theorem ml_L_121 : gML RL 121 yX6_back := Or.inl (gT_at 754 (by decide +kernel) rfl)
theorem ml_L_184 : gML RL 184 yL_holds := Or.inl (gT_at 759 (by decide +kernel) rfl)
theorem ml_L_124 : gML RL 124 yX6_count := Or.inl (gT_at 762 (by decide +kernel) rfl)
theorem ml_X6_226 : gML RX6 226 yX4_rests := Or.inr ⟨"SomebodyWill", (gN_at 766 (by decide +kernel) rfl)⟩
theorem ml_X4_111 : gML RX4 111 yX4_isRest := Or.inl (gT_at 770 (by decide +kernel) rfl)
theorem ml_L_127 : gML RL 127 yX6_best := Or.inl (gT_at 771 (by decide +kernel) rfl)
theorem ml_X6_232 : gML RX6 232 yX6_restBy := Or.inl (gT_at 775 (by decide +kernel) rfl)
theorem ml_X6_235 : gML RX6 235 yX4_choose := Or.inr ⟨"SomebodyWill", (gN_at 779 (by decide +kernel) rfl)⟩
theorem ml_X4_114 : gML RX4 114 yX4_hasMustsIn := Or.inl (gT_at 783 (by decide +kernel) rfl)
theorem ml_X4_117 : gML RX4 117 yX4_valueOf := Or.inl (gT_at 787 (by decide +kernel) rfl)
theorem ml_X4_120 : gML RX4 120 yX4_costOf := Or.inl (gT_at 791 (by decide +kernel) rfl)
theorem ml_X4_123 : gML RX4 123 yX4_goodOf := Or.inl (gT_at 795 (by decide +kernel) rfl)
theorem ml_X4_92 : gML RX4 92 yX4_gainOf := Or.inl (gT_at 799 (by decide +kernel) rfl)
theorem ml_L_130 : gML RL 130 yX6_good := Or.inl (gT_at 803 (by decide +kernel) rfl)
theorem ml_L_133 : gML RL 133 yX6_lost := Or.inl (gT_at 807 (by decide +kernel) rfl)
theorem ml_X6_239 : gML RX6 239 yX6_belowGood := Or.inl (gT_at 811 (by decide +kernel) rfl)
theorem ml_X6_220 : gML RX6 220 yX4_goodOf := Or.inr ⟨"SomebodyWill", (gN_at 815 (by decide +kernel) rfl)⟩
theorem ml_L_136 : gML RL 136 yX6_beside := Or.inl (gT_at 816 (by decide +kernel) rfl)
theorem ml_L_139 : gML RL 139 yX6_total := Or.inl (gT_at 820 (by decide +kernel) rfl)
theorem ml_X6_216 : gML RX6 216 yX6_streetWithSet := Or.inl (gT_at 824 (by decide +kernel) rfl)
theorem cn_X6_212 : Cond.constant RX6 212 (-1000000 : Int32) ∈ gT := (gT_at 828 (by decide +kernel) rfl)
theorem ml_L_142 : gML RL 142 yX6_fewest := Or.inl (gT_at 829 (by decide +kernel) rfl)
theorem ml_L_145 : gML RL 145 yL_bits := Or.inl (gT_at 833 (by decide +kernel) rfl)
theorem ml_L_148 : gML RL 148 yX6_most := Or.inl (gT_at 836 (by decide +kernel) rfl)
theorem ml_L_151 : gML RL 151 yX6_rest := Or.inl (gT_at 840 (by decide +kernel) rfl)
theorem ml_X6_229 : gML RX6 229 yX4_restNumber := Or.inr ⟨"SomebodyWill", (gN_at 844 (by decide +kernel) rfl)⟩
theorem ml_L_154 : gML RL 154 yX6_judge := Or.inl (gT_at 848 (by decide +kernel) rfl)
theorem ml_X6_223 : gML RX6 223 yX4_firstRestless := Or.inr ⟨"SomebodyWill", (gN_at 852 (by decide +kernel) rfl)⟩
theorem ml_L_157 : gML RL 157 yX6_pay := Or.inl (gT_at 853 (by decide +kernel) rfl)
theorem ml_X6_302 : gML RX6 302 yX4_hasMustsIn := Or.inr ⟨"SomebodyWill", (gN_at 857 (by decide +kernel) rfl)⟩
theorem ml_X6_299 : gML RX6 299 yX4_needOf := Or.inr ⟨"SomebodyWill", (gN_at 858 (by decide +kernel) rfl)⟩
theorem ml_X4_105 : gML RX4 105 yX4_wouldChange := Or.inl (gT_at 862 (by decide +kernel) rfl)
theorem ml_L_160 : gML RL 160 yX6_few := Or.inl (gT_at 866 (by decide +kernel) rfl)
theorem ml_L_163 : gML RL 163 yX6_go := Or.inl (gT_at 870 (by decide +kernel) rfl)
theorem ml_X6_242 : gML RX6 242 yX0_run := Or.inr ⟨"SomebodyWill", (gN_at 874 (by decide +kernel) rfl)⟩
theorem ml_X0_15 : gML RX0 15 yJ7_fill_d0a16 := Or.inl (gT_at 878 (by decide +kernel) rfl)
theorem ml_X0_31 : gML RX0 31 yX0_see := Or.inl (gT_at 879 (by decide +kernel) rfl)
theorem ml_X0_35 : gML RX0 35 yX4_afterRound := Or.inr ⟨"SomebodyWill", (gN_at 883 (by decide +kernel) rfl)⟩
theorem ml_X0_41 : gML RX0 41 yJ6_bitCount_0f7a4 := Or.inl (gT_at 887 (by decide +kernel) rfl)
theorem ml_X0_46 : gML RX0 46 yX0_isSeen := Or.inl (gT_at 888 (by decide +kernel) rfl)
theorem ml_X0_50 : gML RX0 50 yX0_roundsBackTo := Or.inl (gT_at 892 (by decide +kernel) rfl)
theorem ml_L_166 : gML RL 166 yX6_turns := Or.inl (gT_at 895 (by decide +kernel) rfl)
theorem ml_L_169 : gML RL 169 yX6_ring := Or.inl (gT_at 899 (by decide +kernel) rfl)
theorem ml_L_180 : gML RL 180 yL_refusals := Or.inl (gT_at 903 (by decide +kernel) rfl)
theorem fl_J0_9 : gFL RJ0 9 RJ0 "value" "[B" := Or.inl (gT_at 906 (by decide +kernel) rfl)
theorem fl_J0_15 : gFL RJ0 15 RJ0 "coder" "B" := Or.inl (gT_at 907 (by decide +kernel) rfl)
