/-! ===== the law's loop ===== -/
theorem lp_in {L k j : Nat} (h : 6 * k + 6 ≤ L) (hL : L ≤ 3072) (hj : j < 6) : vp_in (nI (6 * k) + nI j) L := by
  rw [nI_add]
  exact vp_in_nI (by omega) (by omega)
theorem lp_more {L k : Nat} (hL : L ≤ 3072) (hk : 6 * k ≤ L) (q : ¬ nI L - 6 < nI (6 * k)) : 6 * k + 6 ≤ L := by
  by_cases h : L < 6
  · have h0 : k = 0 := by omega
    subst h0
    exact absurd ((by decide +kernel : ∀ L, L < 6 → nI L - 6 < nI (6 * 0)) L h) q
  · obtain ⟨d, rfl⟩ : ∃ d, L = 6 + d := ⟨L - 6, by omega⟩
    have e : nI (6 + d) - 6 = nI d := nI_subl 6 d
    rw [e] at q
    have h2 : ¬ d < 6 * k := fun h => q ((nI_ltI (a := d) (b := 6 * k) (by omega) (by omega)).mpr h)
    omega
theorem lp_inc (k : Nat) : nI (6 * k) + Int32.ofInt 6 = nI (6 * (k + 1)) := by
  rw [show Int32.ofInt 6 = nI 6 from by decide +kernel, nI_add]
  rfl
set_option maxRecDepth 100000 in
set_option maxHeartbeats 40000000 in
theorem law_loop {p : Program} {l : Launch} {e : Env} {s : State} {m : MethodId} {below : List Frame} {meth : Method} {c : Code} {b L : Nat} {xs : Nat → Int32} {z : gZ} (hL : L ≤ 3072) (hr : meth.sig.returnType = ret) (hlocks : meth.locks = false) (had : ∀ j, gad z j = z.1 + j) (hz : z.1 = s.heap.size) (XX : ∀ g, gX p m c cL_law 4 s #[.ref b] RL (zN z g)) (hX : va_X b L xs s s.heap) (hbl : b < s.heap.size) :
    ∀ (n k : Nat) (kp : Int32) (g sl : Nat) (M : Mem) (H : Heap) (locs : List Loc) (ls : Array Slot), 6 * k ≤ L → L + 6 ≤ 6 * k + 6 * n → ((kp = 0 ∧ g = 178 ∧ sl = 8916) ∨ (kp = 1 ∧ g = 237 ∧ sl = 14697)) → Inv kp 0 119 M → gW (zN z g) M H → va_S (gA z) s.heap H locs → lv_has ls 4 [(0, .ref b), (1, .ref (gad z 0)), (2, .ref (gad z 119)), (3, .int (nI (6 * k)))] → W p l e room_1 s m #[.ref b] below meth c H locs g sl (lw_Z below #[.ref b] s) (F0 m 18 ls []) := by
  have hbA : ¬ gA z b := by
    show ¬ z.1 ≤ b
    omega
  have hN : 4097 < 4098 := Nat.lt_succ_self _
  intro n
  induction n with
  | zero => intro k kp g sl M H locs ls h1 h2; exact absurd h2 (by omega)
  | succ n ih =>
    intro k kp g sl M H locs ls h1 h2 hkp hI hG hS hl
    have X := XX g
    have hx := X.1
    have hb := X.2.1
    have hge : 178 ≤ g ∧ g ≤ 237 ∧ sl ≤ 14697 := by rcases hkp with ⟨-, rfl, rfl⟩ | ⟨-, rfl, rfl⟩ <;> exact ⟨by decide, by decide, by decide⟩
    have n1 : 0 + 119 ≤ gn (zN z g) := by show 0 + 119 ≤ g; omega
    have n2 : 119 + 59 ≤ gn (zN z g) := by show 119 + 59 ≤ g; omega
    have hcs : g ≤ room_1.cells ∧ sl ≤ room_1.slots := ⟨Nat.le_trans hge.2.1 (Nat.le_of_ble_eq_true rfl), Nat.le_trans hge.2.2 (Nat.le_of_ble_eq_true rfl)⟩
    refine lv_iload_n hx hb dL_law_18 rfl (lv_at hl 3 rfl) ?_
    refine lv_aload_n hx hb dL_law_19 rfl (lv_at hl 0 rfl) ?_
    refine va_slen hx hb hX hbl hbA hS dL_law_20 ?_
    refine lv_bipush (v := 6) hx hb dL_law_21 (by decide) ?_
    refine lv_isub hx hb dL_law_23 ?_
    refine lv_icmp_gt (tgt := 2042) hx hb dL_law_24 (by decide) (fun q => ?_) (fun q => ?_)
    · refine lv_iconst (v := 1) hx hb dL_law_2042 (by decide) ?_
      refine va_forget (fun x hq => Nat.le_trans (Nat.le_of_eq hz.symm) (hS.2.2 x hq)) ?_
      refine W.widen (k := 600000) (n := 7302249) (Nat.le_trans hge.2.1 (Nat.le_of_ble_eq_true rfl)) (Nat.le_trans hge.2.2 (Nat.le_of_ble_eq_true rfl)) ?_
      exact lw_ret hx hb hr hlocks dL_law_2043
    · have hm : 6 * k + 6 ≤ L := lp_more hL h1 q
      have tail : ∀ (kp : Int32) (g sl : Nat) (M2 : Mem), ((kp = 0 ∧ g = 178 ∧ sl = 8916) ∨ (kp = 1 ∧ g = 237 ∧ sl = 14697)) → Inv kp 0 119 M2 → ∀ (H : Heap) (locs : List Loc), gW (zN z g) M2 H → va_S (gA z) s.heap H locs → W p l e room_1 s m #[.ref b] below meth c H locs g sl (lw_Z below #[.ref b] s) (F0 m 2036 ls []) := fun kp g sl M2 hkp hI H locs hG hS => by
        refine lv_iinc (v := nI (6 * (k + 1))) (lv' := [(3, .int (nI (6 * (k + 1)))), (0, .ref b), (1, .ref (gad z 0)), (2, .ref (gad z 119))]) hx hb dL_law_2036 hl (k := 3) rfl (lp_inc k) (by decide) rfl (fun ls hl => ?_)
        refine lv_goto (tgt := 18) hx hb dL_law_2039 (by decide) ?_
        exact ih (k + 1) kp g sl M2 H locs ls (by omega) (by omega) hkp hI hG hS (lv_sub hl [1, 2, 3, 0] rfl)
      have g0 : vp_in (nI (6 * k)) L := vp_in_nI (by omega) (by omega)
      have g1 : vp_in (nI (6 * k) + 1) L := lp_in (j := 1) hm hL (by decide)
      have g2 : vp_in (nI (6 * k) + 2) L := lp_in (j := 2) hm hL (by decide)
      have g3 : vp_in (nI (6 * k) + 3) L := lp_in (j := 3) hm hL (by decide)
      have g4 : vp_in (nI (6 * k) + 4) L := lp_in (j := 4) hm hL (by decide)
      have g5 : vp_in (nI (6 * k) + 5) L := lp_in (j := 5) hm hL (by decide)
      refine lv_aload_n hx hb dL_law_27 rfl (lv_at hl 0 rfl) ?_
      refine lv_iload_n hx hb dL_law_28 rfl (lv_at hl 3 rfl) ?_
      refine va_sld hx hb hX hbl hbA hS g0 dL_law_29 ?_
      refine lv_bipush (v := 63) hx hb dL_law_30 (by decide) ?_
      refine lv_iand hx hb dL_law_32 ?_
      obtain ⟨j, hj, ej⟩ := pk_andE (xs (nI (6 * k)).toNatClampNeg) (m := 63) 6 (by decide)
      rw [ej]
      generalize nI (6 * k) = i at hl g1 g2 g3 g4 g5
      match j, hj with
      | 0, _ =>
        have t : (nI 0).toInt = 0 := by decide +kernel
        refine lv_tableIn (tgt := 260) hx hb dL_law_33 (by rw [t]; decide) (by rw [t]; decide) (by rw [t]; rfl) (by decide) ?_
        obtain ⟨r, M1, M2, h1, hu, h2, hI2⟩ := op_row (N := 4098) hI hN (xs (i + 1).toNatClampNeg) (xs (i + 2).toNatClampNeg) (xs (i + 3).toNatClampNeg)
        exact lwc_0 X hX hbl hbA g1 g2 g3 n1 n2 hcs hG hS hl h1 h2 (fun H locs hG hS => tail kp g sl M2 hkp hI2 H locs hG hS)
      | 1, _ =>
        have t : (nI 1).toInt = 1 := by decide +kernel
        refine lv_tableIn (tgt := 303) hx hb dL_law_33 (by rw [t]; decide) (by rw [t]; decide) (by rw [t]; rfl) (by decide) ?_
        obtain ⟨r, M1, M2, h1, hu, h2, hI2⟩ := op_set_ (N := 4098) hI (xs (i + 1).toNatClampNeg) (xs (i + 2).toNatClampNeg) ((((xs (i + 3).toNatClampNeg : Int32).toInt64) <<< ((32 : Int32).toInt64 &&& 63)) ||| (((xs (i + 4).toNatClampNeg : Int32).toInt64) &&& 4294967295))
        exact lwc_1 X hX hbl hbA g1 g2 g3 g4 n1 n2 hcs hG hS hl h1 h2 (fun H locs hG hS => tail kp g sl M2 hkp hI2 H locs hG hS)
      | 2, _ =>
        have t : (nI 2).toInt = 2 := by decide +kernel
        refine lv_tableIn (tgt := 376) hx hb dL_law_33 (by rw [t]; decide) (by rw [t]; decide) (by rw [t]; rfl) (by decide) ?_
        obtain ⟨r, M1, M2, h1, hu, h2, hI2⟩ := op_copy (N := 4098) hI hN (xs (i + 1).toNatClampNeg) (xs (i + 2).toNatClampNeg) (xs (i + 3).toNatClampNeg) (xs (i + 4).toNatClampNeg) (xs (i + 5).toNatClampNeg)
        exact lwc_2 X hX hbl hbA g1 g2 g3 g4 g5 n1 n2 hcs hG hS hl h1 h2 (fun H locs hG hS => tail kp g sl M2 hkp hI2 H locs hG hS)
      | 3, _ =>
        have t : (nI 3).toInt = 3 := by decide +kernel
        refine lv_tableIn (tgt := 439) hx hb dL_law_33 (by rw [t]; decide) (by rw [t]; decide) (by rw [t]; rfl) (by decide) ?_
        obtain ⟨r, h1, h2⟩ := op_element (N := 4098) hI (xs (i + 1).toNatClampNeg) (xs (i + 2).toNatClampNeg)
        exact lwc_3 X hX hbl hbA g1 g2 n1 n2 hcs hG hS hl h1 h2 (fun H locs hG hS => tail kp g sl M hkp hI H locs hG hS)
      | 4, _ =>
        have t : (nI 4).toInt = 4 := by decide +kernel
        refine lv_tableIn (tgt := 473) hx hb dL_law_33 (by rw [t]; decide) (by rw [t]; decide) (by rw [t]; rfl) (by decide) ?_
        obtain ⟨r, h1, h2⟩ := op_holds (N := 4098) hI (xs (i + 1).toNatClampNeg)
        exact lwc_4 X hX hbl hbA g1 n1 n2 hcs hG hS hl h1 h2 (fun H locs hG hS => tail kp g sl M hkp hI H locs hG hS)
      | 5, _ =>
        have t : (nI 5).toInt = 5 := by decide +kernel
        refine lv_tableIn (tgt := 496) hx hb dL_law_33 (by rw [t]; decide) (by rw [t]; decide) (by rw [t]; rfl) (by decide) ?_
        obtain ⟨r, M1, M2, h1, hu, h2, hI2⟩ := op_way (N := 4098) hI hN (xs (i + 1).toNatClampNeg) (xs (i + 2).toNatClampNeg) (xs (i + 3).toNatClampNeg)
        exact lwc_5 X hX hbl hbA g1 g2 g3 n1 n2 hcs hG hS hl h1 h2 (fun H locs hG hS => tail kp g sl M2 hkp hI2 H locs hG hS)
      | 6, _ =>
        have t : (nI 6).toInt = 6 := by decide +kernel
        refine lv_tableIn (tgt := 539) hx hb dL_law_33 (by rw [t]; decide) (by rw [t]; decide) (by rw [t]; rfl) (by decide) ?_
        obtain ⟨r, M1, M2, h1, hu, h2, hI2⟩ := op_says (N := 4098) hI (xs (i + 1).toNatClampNeg) (xs (i + 2).toNatClampNeg)
        exact lwc_6 X hX hbl hbA g1 g2 n1 n2 hcs hG hS hl h1 h2 (fun H locs hG hS => tail kp g sl M2 hkp hI2 H locs hG hS)
      | 7, _ =>
        have t : (nI 7).toInt = 7 := by decide +kernel
        refine lv_tableIn (tgt := 572) hx hb dL_law_33 (by rw [t]; decide) (by rw [t]; decide) (by rw [t]; rfl) (by decide) ?_
        obtain ⟨r, M1, M2, h1, hu, h2, hI2⟩ := op_feed (N := 4098) hI hN (xs (i + 1).toNatClampNeg) (xs (i + 2).toNatClampNeg)
        exact lwc_7 X hX hbl hbA g1 g2 n1 n2 hcs hG hS hl h1 h2 (fun H locs hG hS => tail kp g sl M2 hkp hI2 H locs hG hS)
      | 8, _ =>
        have t : (nI 8).toInt = 8 := by decide +kernel
        refine lv_tableIn (tgt := 605) hx hb dL_law_33 (by rw [t]; decide) (by rw [t]; decide) (by rw [t]; rfl) (by decide) ?_
        obtain ⟨r, M1, M2, h1, hu, h2, hI2⟩ := op_wipe (N := 4098) hI 
        exact lwc_8 X hX hbl hbA  n1 n2 hcs hG hS hl h1 h2 (fun H locs hG hS => tail kp g sl M2 hkp hI2 H locs hG hS)
      | 9, _ =>
        have t : (nI 9).toInt = 9 := by decide +kernel
        refine lv_tableIn (tgt := 618) hx hb dL_law_33 (by rw [t]; decide) (by rw [t]; decide) (by rw [t]; rfl) (by decide) ?_
        obtain ⟨r, M1, M2, h1, hu, h2, hI2⟩ := op_street (N := 4098) hI hN 
        exact lwc_9 X hX hbl hbA  n1 n2 hcs hG hS hl h1 h2 (fun H locs hG hS => tail kp g sl M2 hkp hI2 H locs hG hS)
      | 10, _ =>
        have t : (nI 10).toInt = 10 := by decide +kernel
        refine lv_tableIn (tgt := 631) hx hb dL_law_33 (by rw [t]; decide) (by rw [t]; decide) (by rw [t]; rfl) (by decide) ?_
        obtain ⟨r, M1, M2, h1, hu, h2, hI2⟩ := op_streetOf (N := 4098) hI hN (xs (i + 1).toNatClampNeg) (xs (i + 2).toNatClampNeg)
        exact lwc_10 X hX hbl hbA g1 g2 n1 n2 hcs hG hS hl h1 h2 (fun H locs hG hS => tail kp g sl M2 hkp hI2 H locs hG hS)
      | 11, _ =>
        have t : (nI 11).toInt = 11 := by decide +kernel
        refine lv_tableIn (tgt := 664) hx hb dL_law_33 (by rw [t]; decide) (by rw [t]; decide) (by rw [t]; rfl) (by decide) ?_
        obtain ⟨r, M1, M2, h1, hu, h2, hI2⟩ := op_personOf (N := 4098) hI hN (xs (i + 1).toNatClampNeg) (xs (i + 2).toNatClampNeg) (xs (i + 3).toNatClampNeg)
        exact lwc_11 X hX hbl hbA g1 g2 g3 n1 n2 hcs hG hS hl h1 h2 (fun H locs hG hS => tail kp g sl M2 hkp hI2 H locs hG hS)
      | 12, _ =>
        have t : (nI 12).toInt = 12 := by decide +kernel
        refine lv_tableIn (tgt := 707) hx hb dL_law_33 (by rw [t]; decide) (by rw [t]; decide) (by rw [t]; rfl) (by decide) ?_
        obtain ⟨r, M1, M2, h1, hu, h2, hI2⟩ := op_alter (N := 4098) hI (xs (i + 1).toNatClampNeg) (xs (i + 2).toNatClampNeg) (xs (i + 3).toNatClampNeg) (xs (i + 4).toNatClampNeg)
        exact lwc_12 X hX hbl hbA g1 g2 g3 g4 n1 n2 hcs hG hS hl h1 h2 (fun H locs hG hS => tail kp g sl M2 hkp hI2 H locs hG hS)
      | 13, _ =>
        have t : (nI 13).toInt = 13 := by decide +kernel
        refine lv_tableIn (tgt := 760) hx hb dL_law_33 (by rw [t]; decide) (by rw [t]; decide) (by rw [t]; rfl) (by decide) ?_
        obtain ⟨r, M1, M2, h1, hu, h2, hI2⟩ := op_tie (N := 4098) hI (xs (i + 1).toNatClampNeg) (xs (i + 2).toNatClampNeg) (xs (i + 3).toNatClampNeg) (xs (i + 4).toNatClampNeg)
        exact lwc_13 X hX hbl hbA g1 g2 g3 g4 n1 n2 hcs hG hS hl h1 h2 (fun H locs hG hS => tail kp g sl M2 hkp hI2 H locs hG hS)
      | 14, _ =>
        have t : (nI 14).toInt = 14 := by decide +kernel
        refine lv_tableIn (tgt := 813) hx hb dL_law_33 (by rw [t]; decide) (by rw [t]; decide) (by rw [t]; rfl) (by decide) ?_
        obtain ⟨r, M1, M2, h1, hu, h2, hI2⟩ := op_must (N := 4098) hI (xs (i + 1).toNatClampNeg) (xs (i + 2).toNatClampNeg) (if xs (i + 3).toNatClampNeg = 0 then 0 else 1)
        exact lwc_14 X hX hbl hbA g1 g2 g3 n1 n2 hcs hG hS hl h1 h2 (fun H locs hG hS => tail kp g sl M2 hkp hI2 H locs hG hS)
      | 15, _ =>
        have t : (nI 15).toInt = 15 := by decide +kernel
        refine lv_tableIn (tgt := 872) hx hb dL_law_33 (by rw [t]; decide) (by rw [t]; decide) (by rw [t]; rfl) (by decide) ?_
        obtain ⟨r, M1, M2, h1, hu, h2, hI2⟩ := op_take (N := 4098) hI (xs (i + 1).toNatClampNeg) (xs (i + 2).toNatClampNeg) (xs (i + 3).toNatClampNeg)
        exact lwc_15 X hX hbl hbA g1 g2 g3 n1 n2 hcs hG hS hl h1 h2 (fun H locs hG hS => tail kp g sl M2 hkp hI2 H locs hG hS)
      | 16, _ =>
        have t : (nI 16).toInt = 16 := by decide +kernel
        refine lv_tableIn (tgt := 915) hx hb dL_law_33 (by rw [t]; decide) (by rw [t]; decide) (by rw [t]; rfl) (by decide) ?_
        obtain ⟨r, M1, M2, h1, hu, h2, hI2⟩ := op_come (N := 4098) hI hN (xs (i + 1).toNatClampNeg) (xs (i + 2).toNatClampNeg) (xs (i + 3).toNatClampNeg) (xs (i + 4).toNatClampNeg)
        exact lwc_16 X hX hbl hbA g1 g2 g3 g4 n1 n2 hcs hG hS hl h1 h2 (fun H locs hG hS => tail kp g sl M2 hkp hI2 H locs hG hS)
      | 17, _ =>
        have t : (nI 17).toInt = 17 := by decide +kernel
        refine lv_tableIn (tgt := 968) hx hb dL_law_33 (by rw [t]; decide) (by rw [t]; decide) (by rw [t]; rfl) (by decide) ?_
        obtain ⟨r, M1, M2, h1, hu, h2, hI2⟩ := op_gain (N := 4098) hI hN (xs (i + 1).toNatClampNeg) (xs (i + 2).toNatClampNeg) (xs (i + 3).toNatClampNeg)
        exact lwc_17 X hX hbl hbA g1 g2 g3 n1 n2 hcs hG hS hl h1 h2 (fun H locs hG hS => tail kp g sl M2 hkp hI2 H locs hG hS)
      | 18, _ =>
        have t : (nI 18).toInt = 18 := by decide +kernel
        refine lv_tableIn (tgt := 1011) hx hb dL_law_33 (by rw [t]; decide) (by rw [t]; decide) (by rw [t]; rfl) (by decide) ?_
        obtain ⟨r, M1, M2, h1, hu, h2, hI2⟩ := op_total (N := 4098) hI hN (xs (i + 1).toNatClampNeg) (xs (i + 2).toNatClampNeg)
        exact lwc_18 X hX hbl hbA g1 g2 n1 n2 hcs hG hS hl h1 h2 (fun H locs hG hS => tail kp g sl M2 hkp hI2 H locs hG hS)
      | 19, _ =>
        have t : (nI 19).toInt = 19 := by decide +kernel
        refine lv_tableIn (tgt := 1044) hx hb dL_law_33 (by rw [t]; decide) (by rw [t]; decide) (by rw [t]; rfl) (by decide) ?_
        obtain ⟨r, M1, M2, h1, hu, h2, hI2⟩ := op_judge (N := 4098) hI hN (xs (i + 1).toNatClampNeg) (xs (i + 2).toNatClampNeg)
        exact lwc_19 X hX hbl hbA g1 g2 n1 n2 hcs hG hS hl h1 h2 (fun H locs hG hS => tail kp g sl M2 hkp hI2 H locs hG hS)
      | 20, _ =>
        have t : (nI 20).toInt = 20 := by decide +kernel
        refine lv_tableIn (tgt := 1077) hx hb dL_law_33 (by rw [t]; decide) (by rw [t]; decide) (by rw [t]; rfl) (by decide) ?_
        obtain ⟨r, M1, M2, h1, hu, h2, hI2⟩ := op_count (N := 4098) hI hN (xs (i + 1).toNatClampNeg)
        exact lwc_20 X hX hbl hbA g1 n1 n2 hcs hG hS hl h1 h2 (fun H locs hG hS => tail kp g sl M2 hkp hI2 H locs hG hS)
      | 21, _ =>
        have t : (nI 21).toInt = 21 := by decide +kernel
        refine lv_tableIn (tgt := 1100) hx hb dL_law_33 (by rw [t]; decide) (by rw [t]; decide) (by rw [t]; rfl) (by decide) ?_
        obtain ⟨r, M1, M2, h1, hu, h2, hI2⟩ := op_rest (N := 4098) hI hN (xs (i + 1).toNatClampNeg) (xs (i + 2).toNatClampNeg)
        exact lwc_21 X hX hbl hbA g1 g2 n1 n2 hcs hG hS hl h1 h2 (fun H locs hG hS => tail kp g sl M2 hkp hI2 H locs hG hS)
      | 22, _ =>
        have t : (nI 22).toInt = 22 := by decide +kernel
        refine lv_tableIn (tgt := 1133) hx hb dL_law_33 (by rw [t]; decide) (by rw [t]; decide) (by rw [t]; rfl) (by decide) ?_
        obtain ⟨r, M1, M2, h1, hu, h2, hI2⟩ := op_fewest (N := 4098) hI hN (xs (i + 1).toNatClampNeg)
        exact lwc_22 X hX hbl hbA g1 n1 n2 hcs hG hS hl h1 h2 (fun H locs hG hS => tail kp g sl M2 hkp hI2 H locs hG hS)
      | 23, _ =>
        have t : (nI 23).toInt = 23 := by decide +kernel
        refine lv_tableIn (tgt := 1156) hx hb dL_law_33 (by rw [t]; decide) (by rw [t]; decide) (by rw [t]; rfl) (by decide) ?_
        obtain ⟨r, M1, M2, h1, hu, h2, hI2⟩ := op_most (N := 4098) hI hN (xs (i + 1).toNatClampNeg)
        exact lwc_23 X hX hbl hbA g1 n1 n2 hcs hG hS hl h1 h2 (fun H locs hG hS => tail kp g sl M2 hkp hI2 H locs hG hS)
      | 24, _ =>
        have t : (nI 24).toInt = 24 := by decide +kernel
        refine lv_tableIn (tgt := 1179) hx hb dL_law_33 (by rw [t]; decide) (by rw [t]; decide) (by rw [t]; rfl) (by decide) ?_
        obtain ⟨r, M1, M2, h1, hu, h2, hI2⟩ := op_cheap (N := 4098) hI hN (xs (i + 1).toNatClampNeg)
        exact lwc_24 X hX hbl hbA g1 n1 n2 hcs hG hS hl h1 h2 (fun H locs hG hS => tail kp g sl M2 hkp hI2 H locs hG hS)
      | 25, _ =>
        have t : (nI 25).toInt = 25 := by decide +kernel
        refine lv_tableIn (tgt := 1202) hx hb dL_law_33 (by rw [t]; decide) (by rw [t]; decide) (by rw [t]; rfl) (by decide) ?_
        obtain ⟨r, M1, M2, h1, hu, h2, hI2⟩ := op_best (N := 4098) hI hN (xs (i + 1).toNatClampNeg)
        exact lwc_25 X hX hbl hbA g1 n1 n2 hcs hG hS hl h1 h2 (fun H locs hG hS => tail kp g sl M2 hkp hI2 H locs hG hS)
      | 26, _ =>
        have t : (nI 26).toInt = 26 := by decide +kernel
        refine lv_tableIn (tgt := 1225) hx hb dL_law_33 (by rw [t]; decide) (by rw [t]; decide) (by rw [t]; rfl) (by decide) ?_
        obtain ⟨r, M1, M2, h1, hu, h2, hI2⟩ := op_good (N := 4098) hI hN (xs (i + 1).toNatClampNeg)
        exact lwc_26 X hX hbl hbA g1 n1 n2 hcs hG hS hl h1 h2 (fun H locs hG hS => tail kp g sl M2 hkp hI2 H locs hG hS)
      | 27, _ =>
        have t : (nI 27).toInt = 27 := by decide +kernel
        refine lv_tableIn (tgt := 1248) hx hb dL_law_33 (by rw [t]; decide) (by rw [t]; decide) (by rw [t]; rfl) (by decide) ?_
        obtain ⟨r, M1, M2, h1, hu, h2, hI2⟩ := op_lost (N := 4098) hI hN (xs (i + 1).toNatClampNeg)
        exact lwc_27 X hX hbl hbA g1 n1 n2 hcs hG hS hl h1 h2 (fun H locs hG hS => tail kp g sl M2 hkp hI2 H locs hG hS)
      | 28, _ =>
        have t : (nI 28).toInt = 28 := by decide +kernel
        refine lv_tableIn (tgt := 1271) hx hb dL_law_33 (by rw [t]; decide) (by rw [t]; decide) (by rw [t]; rfl) (by decide) ?_
        obtain ⟨r, M1, M2, h1, hu, h2, hI2⟩ := op_beside (N := 4098) hI hN (xs (i + 1).toNatClampNeg)
        exact lwc_28 X hX hbl hbA g1 n1 n2 hcs hG hS hl h1 h2 (fun H locs hG hS => tail kp g sl M2 hkp hI2 H locs hG hS)
      | 29, _ =>
        have t : (nI 29).toInt = 29 := by decide +kernel
        refine lv_tableIn (tgt := 1294) hx hb dL_law_33 (by rw [t]; decide) (by rw [t]; decide) (by rw [t]; rfl) (by decide) ?_
        obtain ⟨r, M1, M2, h1, hu, h2, hI2⟩ := op_go (N := 4098) hI hN (xs (i + 1).toNatClampNeg) (xs (i + 2).toNatClampNeg)
        exact lwc_29 X hX hbl hbA g1 g2 n1 n2 hcs hG hS hl h1 h2 (fun H locs hG hS => tail kp g sl M2 hkp hI2 H locs hG hS)
      | 30, _ =>
        have t : (nI 30).toInt = 30 := by decide +kernel
        refine lv_tableIn (tgt := 1327) hx hb dL_law_33 (by rw [t]; decide) (by rw [t]; decide) (by rw [t]; rfl) (by decide) ?_
        obtain ⟨r, M1, M2, h1, hu, h2, hI2⟩ := op_turns (N := 4098) hI hN (xs (i + 1).toNatClampNeg) (xs (i + 2).toNatClampNeg)
        exact lwc_30 X hX hbl hbA g1 g2 n1 n2 hcs hG hS hl h1 h2 (fun H locs hG hS => tail kp g sl M2 hkp hI2 H locs hG hS)
      | 31, _ =>
        have t : (nI 31).toInt = 31 := by decide +kernel
        refine lv_tableIn (tgt := 1360) hx hb dL_law_33 (by rw [t]; decide) (by rw [t]; decide) (by rw [t]; rfl) (by decide) ?_
        obtain ⟨r, M1, M2, h1, hu, h2, hI2⟩ := op_ring (N := 4098) hI hN (xs (i + 1).toNatClampNeg) (xs (i + 2).toNatClampNeg)
        exact lwc_31 X hX hbl hbA g1 g2 n1 n2 hcs hG hS hl h1 h2 (fun H locs hG hS => tail kp g sl M2 hkp hI2 H locs hG hS)
      | 32, _ =>
        have t : (nI 32).toInt = 32 := by decide +kernel
        refine lv_tableIn (tgt := 1393) hx hb dL_law_33 (by rw [t]; decide) (by rw [t]; decide) (by rw [t]; rfl) (by decide) ?_
        obtain ⟨r, M1, M2, h1, hu, h2, hI2⟩ := op_lot (N := 4098) hI hN (xs (i + 1).toNatClampNeg) (xs (i + 2).toNatClampNeg) (xs (i + 3).toNatClampNeg)
        exact lwc_32 X hX hbl hbA g1 g2 g3 n1 n2 hcs hG hS hl h1 h2 (fun H locs hG hS => tail kp g sl M2 hkp hI2 H locs hG hS)
      | 33, _ =>
        have t : (nI 33).toInt = 33 := by decide +kernel
        refine lv_tableIn (tgt := 1436) hx hb dL_law_33 (by rw [t]; decide) (by rw [t]; decide) (by rw [t]; rfl) (by decide) ?_
        obtain ⟨r, M1, M2, h1, hu, h2, hI2⟩ := op_nobody (N := 4098) hI hN (xs (i + 1).toNatClampNeg) (xs (i + 2).toNatClampNeg) (xs (i + 3).toNatClampNeg)
        exact lwc_33 X hX hbl hbA g1 g2 g3 n1 n2 hcs hG hS hl h1 h2 (fun H locs hG hS => tail kp g sl M2 hkp hI2 H locs hG hS)
      | 34, _ =>
        have t : (nI 34).toInt = 34 := by decide +kernel
        refine lv_tableIn (tgt := 1479) hx hb dL_law_33 (by rw [t]; decide) (by rw [t]; decide) (by rw [t]; rfl) (by decide) ?_
        obtain ⟨r, M1, M2, h1, hu, h2, hI2⟩ := op_know (N := 4098) hI (xs (i + 1).toNatClampNeg) (xs (i + 2).toNatClampNeg)
        exact lwc_34 X hX hbl hbA g1 g2 n1 n2 hcs hG hS hl h1 h2 (fun H locs hG hS => tail kp g sl M2 hkp hI2 H locs hG hS)
      | 35, _ =>
        have t : (nI 35).toInt = 35 := by decide +kernel
        refine lv_tableIn (tgt := 1512) hx hb dL_law_33 (by rw [t]; decide) (by rw [t]; decide) (by rw [t]; rfl) (by decide) ?_
        obtain ⟨r, M1, M2, h1, hu, h2, hI2⟩ := op_bar (N := 4098) hI hN (xs (i + 1).toNatClampNeg) (xs (i + 2).toNatClampNeg)
        exact lwc_35 X hX hbl hbA g1 g2 n1 n2 hcs hG hS hl h1 h2 (fun H locs hG hS => tail kp g sl M2 hkp hI2 H locs hG hS)
      | 36, _ =>
        have t : (nI 36).toInt = 36 := by decide +kernel
        refine lv_tableIn (tgt := 1545) hx hb dL_law_33 (by rw [t]; decide) (by rw [t]; decide) (by rw [t]; rfl) (by decide) ?_
        obtain ⟨r, M1, M2, h1, hu, h2, hI2⟩ := op_cuts (N := 4098) hI hN (xs (i + 1).toNatClampNeg) (xs (i + 2).toNatClampNeg)
        exact lwc_36 X hX hbl hbA g1 g2 n1 n2 hcs hG hS hl h1 h2 (fun H locs hG hS => tail kp g sl M2 hkp hI2 H locs hG hS)
      | 37, _ =>
        have t : (nI 37).toInt = 37 := by decide +kernel
        refine lv_tableIn (tgt := 1578) hx hb dL_law_33 (by rw [t]; decide) (by rw [t]; decide) (by rw [t]; rfl) (by decide) ?_
        obtain ⟨r, M1, M2, h1, hu, h2, hI2⟩ := op_adds (N := 4098) hI hN (xs (i + 1).toNatClampNeg) (xs (i + 2).toNatClampNeg) (xs (i + 3).toNatClampNeg)
        exact lwc_37 X hX hbl hbA g1 g2 g3 n1 n2 hcs hG hS hl h1 h2 (fun H locs hG hS => tail kp g sl M2 hkp hI2 H locs hG hS)
      | 38, _ =>
        have t : (nI 38).toInt = 38 := by decide +kernel
        refine lv_tableIn (tgt := 1621) hx hb dL_law_33 (by rw [t]; decide) (by rw [t]; decide) (by rw [t]; rfl) (by decide) ?_
        obtain ⟨r, M1, M2, h1, hu, h2, hI2⟩ := op_less (N := 4098) hI hN (xs (i + 1).toNatClampNeg)
        exact lwc_38 X hX hbl hbA g1 n1 n2 hcs hG hS hl h1 h2 (fun H locs hG hS => tail kp g sl M2 hkp hI2 H locs hG hS)
      | 39, _ =>
        have t : (nI 39).toInt = 39 := by decide +kernel
        refine lv_tableIn (tgt := 1644) hx hb dL_law_33 (by rw [t]; decide) (by rw [t]; decide) (by rw [t]; rfl) (by decide) ?_
        obtain ⟨r, M1, M2, h1, hu, h2, hI2⟩ := op_need (N := 4098) hI hN (xs (i + 1).toNatClampNeg) (xs (i + 2).toNatClampNeg) (xs (i + 3).toNatClampNeg)
        exact lwc_39 X hX hbl hbA g1 g2 g3 n1 n2 hcs hG hS hl h1 h2 (fun H locs hG hS => tail kp g sl M2 hkp hI2 H locs hG hS)
      | 40, _ =>
        have t : (nI 40).toInt = 40 := by decide +kernel
        refine lv_tableIn (tgt := 1687) hx hb dL_law_33 (by rw [t]; decide) (by rw [t]; decide) (by rw [t]; rfl) (by decide) ?_
        obtain ⟨r, M1, M2, h1, hu, h2, hI2⟩ := op_pay (N := 4098) hI hN (xs (i + 1).toNatClampNeg) (xs (i + 2).toNatClampNeg)
        exact lwc_40 X hX hbl hbA g1 g2 n1 n2 hcs hG hS hl h1 h2 (fun H locs hG hS => tail kp g sl M2 hkp hI2 H locs hG hS)
      | 41, _ =>
        have t : (nI 41).toInt = 41 := by decide +kernel
        refine lv_tableIn (tgt := 1720) hx hb dL_law_33 (by rw [t]; decide) (by rw [t]; decide) (by rw [t]; rfl) (by decide) ?_
        obtain ⟨r, M1, M2, h1, hu, h2, hI2⟩ := op_few (N := 4098) hI hN (xs (i + 1).toNatClampNeg) (xs (i + 2).toNatClampNeg)
        exact lwc_41 X hX hbl hbA g1 g2 n1 n2 hcs hG hS hl h1 h2 (fun H locs hG hS => tail kp g sl M2 hkp hI2 H locs hG hS)
      | 42, _ =>
        have t : (nI 42).toInt = 42 := by decide +kernel
        refine lv_tableIn (tgt := 1753) hx hb dL_law_33 (by rw [t]; decide) (by rw [t]; decide) (by rw [t]; rfl) (by decide) ?_
        obtain ⟨r, M1, M2, h1, hu, h2, hI2⟩ := op_rota (N := 4098) hI hN (xs (i + 1).toNatClampNeg) (xs (i + 2).toNatClampNeg) (xs (i + 3).toNatClampNeg)
        exact lwc_42 X hX hbl hbA g1 g2 g3 n1 n2 hcs hG hS hl h1 h2 (fun H locs hG hS => tail kp g sl M2 hkp hI2 H locs hG hS)
      | 43, _ =>
        have t : (nI 43).toInt = 43 := by decide +kernel
        refine lv_tableIn (tgt := 1796) hx hb dL_law_33 (by rw [t]; decide) (by rw [t]; decide) (by rw [t]; rfl) (by decide) ?_
        obtain ⟨r, M1, M2, h1, hu, h2, hI2⟩ := op_doers (N := 4098) hI hN (xs (i + 1).toNatClampNeg) (xs (i + 2).toNatClampNeg)
        exact lwc_43 X hX hbl hbA g1 g2 n1 n2 hcs hG hS hl h1 h2 (fun H locs hG hS => tail kp g sl M2 hkp hI2 H locs hG hS)
      | 44, _ =>
        have t : (nI 44).toInt = 44 := by decide +kernel
        refine lv_tableIn (tgt := 1829) hx hb dL_law_33 (by rw [t]; decide) (by rw [t]; decide) (by rw [t]; rfl) (by decide) ?_
        obtain ⟨r, M1, M2, h1, hu, h2, hI2⟩ := op_light (N := 4098) hI hN (xs (i + 1).toNatClampNeg) (xs (i + 2).toNatClampNeg)
        exact lwc_44 X hX hbl hbA g1 g2 n1 n2 hcs hG hS hl h1 h2 (fun H locs hG hS => tail kp g sl M2 hkp hI2 H locs hG hS)
      | 45, _ =>
        have t : (nI 45).toInt = 45 := by decide +kernel
        refine lv_tableIn (tgt := 1862) hx hb dL_law_33 (by rw [t]; decide) (by rw [t]; decide) (by rw [t]; rfl) (by decide) ?_
        obtain ⟨r, M1, M2, h1, hu, h2, hI2⟩ := op_late (N := 4098) hI hN (xs (i + 1).toNatClampNeg) (xs (i + 2).toNatClampNeg)
        exact lwc_45 X hX hbl hbA g1 g2 n1 n2 hcs hG hS hl h1 h2 (fun H locs hG hS => tail kp g sl M2 hkp hI2 H locs hG hS)
      | 46, _ =>
        have t : (nI 46).toInt = 46 := by decide +kernel
        refine lv_tableIn (tgt := 1895) hx hb dL_law_33 (by rw [t]; decide) (by rw [t]; decide) (by rw [t]; rfl) (by decide) ?_
        obtain ⟨r, M1, M2, h1, hu, h2, hI2⟩ := op_seed (N := 4098) hI (xs (i + 1).toNatClampNeg)
        exact lwc_46 X hX hbl hbA g1 n1 n2 hcs hG hS hl h1 h2 (fun H locs hG hS => tail kp g sl M2 hkp hI2 H locs hG hS)
      | 47, _ =>
        have t : (nI 47).toInt = 47 := by decide +kernel
        refine lv_tableIn (tgt := 1918) hx hb dL_law_33 (by rw [t]; decide) (by rw [t]; decide) (by rw [t]; rfl) (by decide) ?_
        obtain ⟨r, M1, M2, h1, hu, h2, hI2⟩ := op_begin (N := 4098) hI hN (xs (i + 1).toNatClampNeg)
        exact lwc_47 X hX hbl hbA g1 n1 n2 hcs hG hS hl h1 h2 (fun H locs hG hS => tail kp g sl M2 hkp hI2 H locs hG hS)
      | 48, _ =>
        have t : (nI 48).toInt = 48 := by decide +kernel
        refine lv_tableIn (tgt := 1941) hx hb dL_law_33 (by rw [t]; decide) (by rw [t]; decide) (by rw [t]; rfl) (by decide) ?_
        obtain ⟨r, M1, M2, h1, hu, h2, hI2⟩ := op_step (N := 4098) hI hN (xs (i + 1).toNatClampNeg)
        exact lwc_48 X hX hbl hbA g1 n1 n2 hcs hG hS hl h1 h2 (fun H locs hG hS => tail kp g sl M2 hkp hI2 H locs hG hS)
      | 49, _ =>
        have t : (nI 49).toInt = 49 := by decide +kernel
        refine lv_tableIn (tgt := 1964) hx hb dL_law_33 (by rw [t]; decide) (by rw [t]; decide) (by rw [t]; rfl) (by decide) ?_
        obtain ⟨r, M1, M2, h1, hu, h2, hI2⟩ := op_search (N := 4098) hI (xs (i + 1).toNatClampNeg)
        exact lwc_49 X hX hbl hbA g1 n1 n2 hcs hG hS hl h1 h2 (fun H locs hG hS => tail kp g sl M2 hkp hI2 H locs hG hS)
      | 50, _ =>
        have t : (nI 50).toInt = 50 := by decide +kernel
        refine lv_tableIn (tgt := 1987) hx hb dL_law_33 (by rw [t]; decide) (by rw [t]; decide) (by rw [t]; rfl) (by decide) ?_
        obtain ⟨k4, hk4, e1, hc, hu⟩ := image_c (N := 4098) hI hN
        obtain ⟨Mi, hMi⟩ : ∃ Mi, Mi = sI (cpR M (0 + 48) (0 + 4) (TB k4)) 0 7 1 := ⟨_, rfl⟩
        rw [← hMi] at hc hu
        refine lv_aload_n hx hb dL_law_1987 rfl (lv_at hl 1 rfl) ?_
        refine g_cVI (a := 0) (ci := 6) (T := TX6) (N := 8) (av := []) (rest := []) X hG hS (ct_X6_image l (zN z g) k_0 n1 hc) mt_X6_image ml_L_224 rfl ⟨rfl, rfl, Nat.le_of_ble_eq_true rfl, Nat.le_of_ble_eq_true rfl⟩ hcs (nx_0 n1) k_0 (by decide) rfl hl.1 (Nat.le_of_ble_eq_true rfl) rfl dL_law_1988 (fun H locs hG hS => ?_)
        have hG : gW (zN z g) Mi H := hG
        refine lv_aload_n hx hb dL_law_1991 rfl (lv_at hl 2 rfl) ?_
        have hi2 : ∀ x i, Mi.2 x i = M.2 x i := fun x i => by rw [hMi]; rfl
        rcases hkp with ⟨rfl, rfl, rfl⟩ | ⟨rfl, rfl, rfl⟩
        · have q1 : Mi.1 119 26 = 0 := by
            rw [(hu 119 26 (Nat.le_refl _)).1]
            rcases hI.2.2.2.2.2 with ⟨-, f2, -⟩ | ⟨-, -, f3, -⟩
            · exact f2
            · exact absurd f3 (by decide)
          obtain ⟨M3, ht, hI3⟩ := image_m (N := 4098) (M2 := sI (mU Mi (119 + 59)) 119 26 1) hI hk4 e1 (fun x i h1 h2 => by
            rw [sI_o (by omega), mU_lo h1, hMi]) (fun x i h1 => by
            show (mU Mi (119 + 59)).2 x i = _
            rw [mU_lo2 h1]; exact hi2 x i) sI_s hN
          refine w_size (fun hsz => ?_)
          refine g_imgB (z := zN z 178) (rest := [.int 1]) X hG hS (w_size_eq (z := zN z 178) (k := 177) hG (fun j => had j) hz rfl rfl hsz) (fun j => had j) k_119 rfl k_178 q1 ht ml_L_227 ⟨Nat.le_of_ble_eq_true rfl, Nat.le_of_ble_eq_true rfl⟩ ⟨Nat.le_of_ble_eq_true rfl, Nat.le_of_ble_eq_true rfl⟩ hl.1 (Nat.le_of_ble_eq_true rfl) dL_law_1992 (fun H locs hG hS => ?_)
          refine lv_icmp_eq (tgt := 2036) hx hb dL_law_1995 (by decide) (fun _ => ?_) (fun q => absurd rfl q)
          exact tail 1 237 14697 M3 (Or.inr ⟨rfl, rfl, rfl⟩) hI3 H locs hG hS
        · have q1 : ¬ Mi.1 119 26 = 0 := by
            rw [(hu 119 26 (Nat.le_refl _)).1]
            rcases hI.2.2.2.2.2 with ⟨-, -, f3⟩ | ⟨-, f2, -, -⟩
            · exact absurd f3 (by decide)
            · rw [f2]; decide
          have q2 : Mi.1 119 26 = 1 := by
            rw [(hu 119 26 (Nat.le_refl _)).1]
            rcases hI.2.2.2.2.2 with ⟨-, -, f3⟩ | ⟨-, f2, -, -⟩
            · exact absurd f3 (by decide)
            · exact f2
          obtain ⟨M3, ht, hI3⟩ := image_m (N := 4098) (M2 := Mi) hI hk4 e1 (fun x i h1 h2 => by rw [hMi]) (fun x i h1 => hi2 x i) q2 hN
          refine g_cVI (a := 119) (ci := 7) (T := TX7) (N := 37) (av := []) (rest := [.int 1]) X hG hS (ct_X7_imageA l (zN z 237) k_119 n2 k_178 q1 (Nat.le_of_ble_eq_true rfl) ht) mt_X7_image ml_L_227 rfl ⟨rfl, rfl, Nat.le_of_ble_eq_true rfl, Nat.le_of_ble_eq_true rfl⟩ hcs (nx_0 n2) k_119 (by decide) rfl hl.1 (Nat.le_of_ble_eq_true rfl) rfl dL_law_1992 (fun H locs hG hS => ?_)
          refine lv_icmp_eq (tgt := 2036) hx hb dL_law_1995 (by decide) (fun _ => ?_) (fun q => absurd rfl q)
          exact tail 1 237 14697 M3 (Or.inr ⟨rfl, rfl, rfl⟩) hI3 H locs hG hS
      | 51, _ =>
        have t : (nI 51).toInt = 51 := by decide +kernel
        refine lv_tableIn (tgt := 2000) hx hb dL_law_33 (by rw [t]; decide) (by rw [t]; decide) (by rw [t]; rfl) (by decide) ?_
        obtain ⟨r, M1, M2, h1, hu, h2, hI2⟩ := op_back (N := 4098) hI hN 
        have n_k : M1.1 119 26 = 0 ∨ 119 + 59 + 59 ≤ gn (zN z g) := by
          rw [(hu 119 26 (Nat.le_refl _)).1]
          rcases hI.2.2.2.2.2 with ⟨-, f2, -⟩ | ⟨-, -, f3, -⟩
          · exact Or.inl f2
          · rcases hkp with ⟨rfl, -, -⟩ | ⟨-, rfl, -⟩
            · exact absurd f3 (by decide)
            · exact Or.inr (Nat.le_of_ble_eq_true rfl)
        exact lwc_51 X hX hbl hbA  n1 n2 hcs hG hS hl h1 n_k h2 (fun H locs hG hS => tail kp g sl M2 hkp hI2 H locs hG hS)
      | 52, _ =>
        have t : (nI 52).toInt = 52 := by decide +kernel
        refine lv_tableIn (tgt := 2013) hx hb dL_law_33 (by rw [t]; decide) (by rw [t]; decide) (by rw [t]; rfl) (by decide) ?_
        obtain ⟨r, h1, h2⟩ := op_status (N := 4098) hI hN (xs (i + 1).toNatClampNeg)
        exact lwc_52 X hX hbl hbA g1 n1 n2 hcs hG hS hl h1 h2 (fun H locs hG hS => tail kp g sl M hkp hI H locs hG hS)
      | j + 53, hj =>
        refine lv_tableOut (tgt := 2036) hx hb dL_law_33 (Or.inr ?_) (by decide) ?_
        · rw [nI_toInt (by omega)]; omega
        · exact tail kp g sl M hkp hI H locs hG hS
