/-! ===== the law itself ===== -/
set_option maxRecDepth 100000 in
set_option maxHeartbeats 4000000 in
theorem law_run {p : Program} {l : Launch} {e : Env} {s : State} {m : MethodId} {below : List Frame} {meth : Method} {c : Code} {z : gZ} (hL : gsl z ≤ 260) (hz0 : z.1 = s.heap.size) (hgn : gn z = 119) (hr : meth.sig.returnType = ret) (hlocks : meth.locks = false) (X : gX p m c cL_law 5 s #[Value.ref (gsb z)] RL z) {M : Mem} {H : Heap} {locs : List Loc} {ls : Array Slot} (hI : LI M) (hG : gW z M H) (hS : va_S (gA z) s.heap H locs) (hl : lv_has ls 5 [(1, .ref (gad z 0)), (0, .ref (gsb z))]) : W p l e room_1 s m #[Value.ref (gsb z)] below meth c H locs 119 3135 (lw_Z below #[Value.ref (gsb z)] s) (F0 m 8 ls []) := by
  have hx := X.1
  have hb := X.2.1
  have n1 : 0 + 119 ≤ gn z := by rw [hgn]; exact Nat.le_refl _
  have hz : gn z ≤ 119 := Nat.le_of_eq hgn
  have hcs : 119 ≤ room_1.cells ∧ 3135 ≤ room_1.slots := ⟨Nat.le_of_ble_eq_true rfl, Nat.le_of_ble_eq_true rfl⟩
  have t147 : ∀ (H : Heap) (locs : List Loc) (ls : Array Slot), va_S (gA z) s.heap H locs → W p l e room_1 s m #[Value.ref (gsb z)] below meth c H locs 119 3135 (lw_Z below #[Value.ref (gsb z)] s) (F0 m 147 ls []) := by
    intro H locs ls hS
    refine lv_iconst (v := 1) hx hb dL_law_147 (by decide) ?_
    refine va_forget (fun x hq => Nat.le_trans (Nat.le_of_eq hz0.symm) (hS.2.2 x hq)) ?_
    refine W.widen (k := 600000) (n := 7302250) (Nat.le_of_ble_eq_true rfl) (Nat.le_of_ble_eq_true rfl) ?_
    exact lw_ret hx hb hr hlocks dL_law_148
  have loop2 : ∀ (k : Nat), k ≤ 4 → ∀ (d t : Nat) (M : Mem) (H : Heap) (locs : List Loc) (ls : Array Slot), t + d = 2 → LI M → M.1 (0 + 4) 3 = nI k → gW z M H → va_S (gA z) s.heap H locs → lv_has ls 5 [(4, .int (nI t)), (1, .ref (gad z 0)), (0, .ref (gsb z))] → W p l e room_1 s m #[Value.ref (gsb z)] below meth c H locs 119 3135 (lw_Z below #[Value.ref (gsb z)] s) (F0 m 103 ls []) := by
    intro k hk4 d
    induction d with
    | zero =>
      intro t M H locs ls et hI ek hG hS hl
      refine lv_iload hx hb dL_law_103 (lv_at hl 0 rfl) ?_
      refine lv_aload_n hx hb dL_law_105 rfl (lv_at hl 1 rfl) ?_
      refine lv_iconst (v := 0) hx hb dL_law_106 (by decide) ?_
      refine g_cVI (a := 0) (ci := 6) (T := TX6) (N := 8) (av := [.int 0]) (rest := [.int (nI t)]) X hG hS (ct_X6_status l z k_0 n1 (q_streets (N := 4098) (a := 0) ek)) mt_X6_status ml_L_67 rfl ⟨rfl, rfl, Nat.le_of_ble_eq_true rfl, Nat.le_of_ble_eq_true rfl⟩ hcs (nx_0 n1) k_0 (by decide) rfl hl.1 (Nat.le_of_ble_eq_true rfl) rfl dL_law_107 (fun H locs hG hS => ?_)
      have hG : gW z M H := hG
      refine lv_icmp_ge (tgt := 147) hx hb dL_law_110 (by decide) (fun q110 => ?_) (fun q110 => ?_)
      · skip
        exact t147 H locs ls hS
      · skip
        refine lv_iload hx hb dL_law_113 (lv_at hl 0 rfl) ?_
        refine lv_iconst (v := 2) hx hb dL_law_115 (by decide) ?_
        refine lv_icmp_ge (tgt := 147) hx hb dL_law_116 (by decide) (fun q => ?_) (fun q => absurd q (fun w => w (show (2 : Int32) ≤ nI t from nI_le (a := 2) (by omega) (by omega))))
        exact t147 H locs ls hS
    | succ d ih =>
      intro t M H locs ls et hI ek hG hS hl
      refine lv_iload hx hb dL_law_103 (lv_at hl 0 rfl) ?_
      refine lv_aload_n hx hb dL_law_105 rfl (lv_at hl 1 rfl) ?_
      refine lv_iconst (v := 0) hx hb dL_law_106 (by decide) ?_
      refine g_cVI (a := 0) (ci := 6) (T := TX6) (N := 8) (av := [.int 0]) (rest := [.int (nI t)]) X hG hS (ct_X6_status l z k_0 n1 (q_streets (N := 4098) (a := 0) ek)) mt_X6_status ml_L_67 rfl ⟨rfl, rfl, Nat.le_of_ble_eq_true rfl, Nat.le_of_ble_eq_true rfl⟩ hcs (nx_0 n1) k_0 (by decide) rfl hl.1 (Nat.le_of_ble_eq_true rfl) rfl dL_law_107 (fun H locs hG hS => ?_)
      have hG : gW z M H := hG
      refine lv_icmp_ge (tgt := 147) hx hb dL_law_110 (by decide) (fun q110 => ?_) (fun q110 => ?_)
      · skip
        exact t147 H locs ls hS
      · skip
        have ht : t < k := Nat.lt_of_not_le (fun w => q110 (nI_le w (by omega)))
        obtain ⟨n, C, hV⟩ := SV_of hI.1.choose_spec hk4 ek ht
        refine lv_iload hx hb dL_law_113 (lv_at hl 0 rfl) ?_
        refine lv_iconst (v := 2) hx hb dL_law_115 (by decide) ?_
        refine lv_icmp_ge (tgt := 147) hx hb dL_law_116 (by decide) (fun q => absurd q (show ¬ (2 : Int32) ≤ nI t from nI_ge (b := 2) (by omega) (by decide))) (fun q => ?_)
        refine lv_aload_n hx hb dL_law_119 rfl (lv_at hl 1 rfl) ?_
        refine lv_iload hx hb dL_law_120 (lv_at hl 0 rfl) ?_
        refine lv_aload_n hx hb dL_law_122 rfl (lv_at hl 2 rfl) ?_
        refine lv_iload hx hb dL_law_123 (lv_at hl 0 rfl) ?_
        refine g_eSI (av := [.ref (gsb z), .int (nI t)]) (rest := [.int (nI t), .ref (gad z 0)]) X hG hS (ct_L_cell l z (M := M) (v1 := (nI t)) hL) mt_L_cell ml_L_24 rfl ⟨rfl, rfl, Nat.le_of_ble_eq_true rfl, Nat.le_of_ble_eq_true rfl⟩ hcs hl.1 (Nat.le_of_ble_eq_true rfl) rfl dL_law_125 (fun rc_1 Ac_1 H locs pc_1 hG hS => ?_)
        have hG : gW z M H := (show M = Ac_1 from pc_1) ▸ hG
        refine lv_iconst (v := 3) hx hb dL_law_128 (by decide) ?_
        refine lv_ishr hx hb dL_law_129 ?_
        refine lv_bipush (v := 63) hx hb dL_law_130 (by decide) ?_
        refine lv_iand hx hb dL_law_132 ?_
        refine g_eSI (av := [.ref (gad z 0), .int (nI t), .int ((rc_1 >>> ((3 : Int32) &&& 31)) &&& 63)]) (rest := []) X hG hS (ct_L_holds l z (M := M) (v2 := ((rc_1 >>> ((3 : Int32) &&& 31)) &&& 63)) n1 hz hI hV) mt_L_holds ml_L_184 rfl ⟨rfl, rfl, Nat.le_of_ble_eq_true rfl, Nat.le_of_ble_eq_true rfl⟩ hcs hl.1 (Nat.le_of_ble_eq_true rfl) rfl dL_law_133 (fun rc_2 Bc_2 H locs pc_2 hG hS => ?_)
        obtain ⟨erc_2, hI, ek⟩ := pc_2
        subst erc_2
        refine lv_if_ne (tgt := 141) hx hb dL_law_136 (by decide) (fun _ => ?_) (fun q => absurd q (show ¬ (1 : Int32) = (0 : Int32) by decide))
        refine lv_iinc (v := (nI (t + 1))) (lv' := [(4, .int (nI (t + 1))), (1, .ref (gad z 0)), (0, .ref (gsb z))]) hx hb dL_law_141 hl (k := 0) rfl (inc_nI _) (by decide) rfl (fun ls hl => ?_)
        refine lv_goto (tgt := 103) hx hb dL_law_144 (by decide) ?_
        exact ih (t + 1) Bc_2 H locs ls (by omega) hI ek hG hS (lv_sub hl [0, 1, 2] rfl)
  have t61 : ∀ (M : Mem) (H : Heap) (locs : List Loc) (ls : Array Slot), LI M → gW z M H → va_S (gA z) s.heap H locs → lv_has ls 5 [(1, .ref (gad z 0)), (0, .ref (gsb z))] → W p l e room_1 s m #[Value.ref (gsb z)] below meth c H locs 119 3135 (lw_Z below #[Value.ref (gsb z)] s) (F0 m 61 ls []) := by
    intro M H locs ls hI hG hS hl
    obtain ⟨k, hk4, ek, -⟩ := LI_k hI
    obtain ⟨vR, eR⟩ : ∃ v, v = refS M 5 := ⟨_, rfl⟩
    have c0 : fL_refusals 4098 M 0 = some vR := by rw [eR]; exact refs_v 4098 M hN0
    have c1 : fX6_streetOf 4098 M 0 4 0 = some (-2, rC 0 M 2) := q_none ek (Or.inr (show nI k ≤ (4 : Int32) from nI_le (b := 4) hk4 (by decide)))
    obtain ⟨hI2, d2⟩ := lm_ref hI
    obtain ⟨M2, eM2⟩ : ∃ M2, M2 = rM 119 (rC 0 M 2) 2 := ⟨_, rfl⟩
    rw [← eM2] at hI2 d2
    obtain ⟨k2, hk42, ek2, -⟩ := LI_k hI2
    have c2 : fX6_light 4098 M2 0 (-1) 1 = some (-2, rC 0 M2 2) := q_dark ek2 (Or.inl (by decide))
    have c3 : fL_refusals 4098 (rC 0 M2 2) 0 = some (vR + 2) := by rw [refs_v 4098 _ hN0, eM2, refs_2, eR]
    obtain ⟨hI3, d3⟩ := lm_ref hI2
    have hk3 := LI_k hI3
    obtain ⟨k3, hk43, ek3, -⟩ := hk3
    refine lv_aload_n hx hb dL_law_61 rfl (lv_at hl 0 rfl) ?_
    refine g_cSI (av := [.ref (gad z 0)]) (rest := []) X hG hS (ct_L_refusals l z k_0 n1 c0) mt_L_refusals ml_L_180 rfl ⟨rfl, rfl, Nat.le_of_ble_eq_true rfl, Nat.le_of_ble_eq_true rfl⟩ hcs hl.1 (Nat.le_of_ble_eq_true rfl) rfl dL_law_62 (fun H locs hG hS => ?_)
    have hG : gW z M H := hG
    refine lv_istore_n (lv' := [(3, .int vR), (1, .ref (gad z 0)), (0, .ref (gsb z))]) hx hb dL_law_65 rfl hl (by decide) rfl (fun ls hl => ?_)
    refine lv_aload_n hx hb dL_law_66 rfl (lv_at hl 1 rfl) ?_
    refine lv_iconst (v := 4) hx hb dL_law_67 (by decide) ?_
    refine lv_iconst (v := 0) hx hb dL_law_68 (by decide) ?_
    refine g_cVI (a := 0) (ci := 6) (T := TX6) (N := 8) (av := [.int 4, .int 0]) (rest := []) X hG hS (ct_X6_streetOf l z k_0 n1 c1) mt_X6_streetOf ml_L_100 rfl ⟨rfl, rfl, Nat.le_of_ble_eq_true rfl, Nat.le_of_ble_eq_true rfl⟩ hcs (nx_0 n1) k_0 (by decide) rfl hl.1 (Nat.le_of_ble_eq_true rfl) rfl dL_law_69 (fun H locs hG hS => ?_)
    have hG : gW z M2 H := gW_sw (M := (rC 0 M 2)) (fun x hx => d2 x (Nat.lt_of_lt_of_le hx hz)) hG
    refine lv_bipush (v := (-2)) hx hb dL_law_72 (by decide) ?_
    refine lv_icmp_ne (tgt := 98) hx hb dL_law_74 (by decide) (fun q => absurd q (show ¬ (¬ (-2 : Int32) = (-2 : Int32)) by decide)) (fun _ => ?_)
    refine lv_aload_n hx hb dL_law_77 rfl (lv_at hl 1 rfl) ?_
    refine lv_iconst (v := (-1)) hx hb dL_law_78 (by decide) ?_
    refine lv_iconst (v := 1) hx hb dL_law_79 (by decide) ?_
    refine g_cVI (a := 0) (ci := 6) (T := TX6) (N := 8) (av := [.int (-1), .int 1]) (rest := []) X hG hS (ct_X6_light l z k_0 n1 c2) mt_X6_light ml_L_172 rfl ⟨rfl, rfl, Nat.le_of_ble_eq_true rfl, Nat.le_of_ble_eq_true rfl⟩ hcs (nx_0 n1) k_0 (by decide) rfl hl.1 (Nat.le_of_ble_eq_true rfl) rfl dL_law_80 (fun H locs hG hS => ?_)
    have hG : gW z (rC 0 M2 2) H := hG
    refine lv_bipush (v := (-2)) hx hb dL_law_83 (by decide) ?_
    refine lv_icmp_ne (tgt := 98) hx hb dL_law_85 (by decide) (fun q => absurd q (show ¬ (¬ (-2 : Int32) = (-2 : Int32)) by decide)) (fun _ => ?_)
    refine lv_aload_n hx hb dL_law_88 rfl (lv_at hl 1 rfl) ?_
    refine g_cSI (av := [.ref (gad z 0)]) (rest := []) X hG hS (ct_L_refusals l z k_0 n1 c3) mt_L_refusals ml_L_180 rfl ⟨rfl, rfl, Nat.le_of_ble_eq_true rfl, Nat.le_of_ble_eq_true rfl⟩ hcs hl.1 (Nat.le_of_ble_eq_true rfl) rfl dL_law_89 (fun H locs hG hS => ?_)
    have hG : gW z (rC 0 M2 2) H := hG
    refine lv_iload_n hx hb dL_law_92 rfl (lv_at hl 0 rfl) ?_
    refine lv_iconst (v := 2) hx hb dL_law_93 (by decide) ?_
    refine lv_iadd hx hb dL_law_94 ?_
    refine lv_icmp_eq (tgt := 100) hx hb dL_law_95 (by decide) (fun q => ?_) (fun q => absurd q (fun w => w rfl))
    refine lv_iconst (v := 0) hx hb dL_law_100 (by decide) ?_
    refine lv_istore (lv' := [(4, .int 0), (3, .int vR), (1, .ref (gad z 0)), (0, .ref (gsb z))]) hx hb dL_law_101 hl (by decide) rfl (fun ls hl => ?_)
    have hG : gW z (rM 119 (rC 0 M2 2) 2) H := gW_sw (M := rC 0 M2 2) (fun x hx => d3 x (Nat.lt_of_lt_of_le hx hz)) hG
    exact loop2 k3 hk43 2 0 _ H locs ls rfl hI3 ek3 hG hS (lv_sub hl [0, 2, 3] rfl)
  have loop1 : ∀ (na : Nat), na ≤ 60 → ∀ (d i : Nat) (M : Mem) (H : Heap) (locs : List Loc) (ls : Array Slot), i + d = na → LI M → gW z M H → va_S (gA z) s.heap H locs → lv_has ls 5 [(3, .int (nI i)), (2, .int (nI na)), (1, .ref (gad z 0)), (0, .ref (gsb z))] → W p l e room_1 s m #[Value.ref (gsb z)] below meth c H locs 119 3135 (lw_Z below #[Value.ref (gsb z)] s) (F0 m 25 ls []) := by
    intro na hna d
    induction d with
    | zero =>
      intro i M H locs ls ei hI hG hS hl
      refine lv_iload_n hx hb dL_law_25 rfl (lv_at hl 0 rfl) ?_
      refine lv_iload_n hx hb dL_law_26 rfl (lv_at hl 1 rfl) ?_
      refine lv_icmp_ge (tgt := 61) hx hb dL_law_27 (by decide) (fun q => ?_) (fun q => absurd q (fun w => w (nI_le (by omega) (by omega))))
      exact t61 M H locs ls hI hG hS (lv_sub hl [2, 3] rfl)
    | succ d ih =>
      intro i M H locs ls ei hI hG hS hl
      refine lv_iload_n hx hb dL_law_25 rfl (lv_at hl 0 rfl) ?_
      refine lv_iload_n hx hb dL_law_26 rfl (lv_at hl 1 rfl) ?_
      refine lv_icmp_ge (tgt := 61) hx hb dL_law_27 (by decide) (fun q => absurd q (nI_ge (by omega) (by omega))) (fun q => ?_)
      refine lv_aload_n hx hb dL_law_30 rfl (lv_at hl 2 rfl) ?_
      refine lv_aload_n hx hb dL_law_31 rfl (lv_at hl 3 rfl) ?_
      refine lv_iload_n hx hb dL_law_32 rfl (lv_at hl 0 rfl) ?_
      refine g_eSV (av := [.ref (gad z 0), .ref (gsb z), .int (nI i)]) (rest := []) X hG hS (ct_L_act l z (M := M) (v2 := (nI i)) n1 hz hL hI) mt_L_act ml_L_176 rfl ⟨rfl, rfl, Nat.le_of_ble_eq_true rfl, Nat.le_of_ble_eq_true rfl⟩ hcs hl.1 (Nat.le_of_ble_eq_true rfl) rfl dL_law_33 (fun Bc_3 H locs hI hG hS => ?_)
      refine lv_aload_n hx hb dL_law_36 rfl (lv_at hl 2 rfl) ?_
      refine lv_iconst (v := 1) hx hb dL_law_37 (by decide) ?_
      have c1 : fX6_status 4098 Bc_3 0 1 = some 0 := by rw [q_tape, LI_tape hI]
      refine g_cVI (a := 0) (ci := 6) (T := TX6) (N := 8) (av := [.int 1]) (rest := []) X hG hS (ct_X6_status l z k_0 n1 c1) mt_X6_status ml_L_67 rfl ⟨rfl, rfl, Nat.le_of_ble_eq_true rfl, Nat.le_of_ble_eq_true rfl⟩ hcs (nx_0 n1) k_0 (by decide) rfl hl.1 (Nat.le_of_ble_eq_true rfl) rfl dL_law_38 (fun H locs hG hS => ?_)
      have hG : gW z Bc_3 H := hG
      refine lv_if_ne (tgt := 53) hx hb dL_law_41 (by decide) (fun q => absurd q (show ¬ (¬ (0 : Int32) = (0 : Int32)) by decide)) (fun _ => ?_)
      refine lv_aload_n hx hb dL_law_44 rfl (lv_at hl 2 rfl) ?_
      refine lv_iconst (v := 0) hx hb dL_law_45 (by decide) ?_
      obtain ⟨k, hk4, ek, -⟩ := LI_k hI
      refine g_cVI (a := 0) (ci := 6) (T := TX6) (N := 8) (av := [.int 0]) (rest := []) X hG hS (ct_X6_status l z k_0 n1 (q_streets (N := 4098) (a := 0) ek)) mt_X6_status ml_L_67 rfl ⟨rfl, rfl, Nat.le_of_ble_eq_true rfl, Nat.le_of_ble_eq_true rfl⟩ hcs (nx_0 n1) k_0 (by decide) rfl hl.1 (Nat.le_of_ble_eq_true rfl) rfl dL_law_46 (fun H locs hG hS => ?_)
      have hG : gW z Bc_3 H := hG
      refine lv_iconst (v := 4) hx hb dL_law_49 (by decide) ?_
      refine lv_icmp_le (tgt := 55) hx hb dL_law_50 (by decide) (fun q => ?_) (fun q => absurd q (fun w => w (show nI k ≤ (4 : Int32) from nI_le (b := 4) hk4 (by decide))))
      refine lv_iinc (v := (nI (i + 1))) (lv' := [(3, .int (nI (i + 1))), (2, .int (nI na)), (1, .ref (gad z 0)), (0, .ref (gsb z))]) hx hb dL_law_55 hl (k := 0) rfl (inc_nI _) (by decide) rfl (fun ls hl => ?_)
      refine lv_goto (tgt := 25) hx hb dL_law_58 (by decide) ?_
      exact ih (i + 1) Bc_3 H locs ls (by omega) hI hG hS (lv_sub hl [0, 1, 2, 3] rfl)
  refine lv_aload_n hx hb dL_law_8 rfl (lv_at hl 1 rfl) ?_
  refine g_slen X hS dL_law_9 ?_
  refine lv_bipush (v := 60) hx hb dL_law_10 (by decide) ?_
  refine lv_icmp_ge (tgt := 20) hx hb dL_law_12 (by decide) (fun q12 => ?_) (fun q12 => ?_)
  · skip
    refine lv_bipush (v := 60) hx hb dL_law_20 (by decide) ?_
    refine lv_istore_n (lv' := [(2, .int 60), (1, .ref (gad z 0)), (0, .ref (gsb z))]) hx hb dL_law_22 rfl hl (by decide) rfl (fun ls hl => ?_)
    refine lv_iconst (v := 0) hx hb dL_law_23 (by decide) ?_
    refine lv_istore_n (lv' := [(3, .int 0), (2, .int 60), (1, .ref (gad z 0)), (0, .ref (gsb z))]) hx hb dL_law_24 rfl hl (by decide) rfl (fun ls hl => ?_)
    exact loop1 60 (Nat.le_refl 60) 60 0 M H locs ls (Nat.zero_add _) hI hG hS (lv_sub hl [0, 1, 2, 3] rfl)
  · skip
    have hna : gsl z ≤ 60 := Nat.le_of_lt (Nat.lt_of_not_le (fun w => q12 (show (60 : Int32) ≤ nI (gsl z) from nI_le (a := 60) w (by omega))))
    refine lv_aload_n hx hb dL_law_15 rfl (lv_at hl 1 rfl) ?_
    refine g_slen X hS dL_law_16 ?_
    refine lv_goto (tgt := 22) hx hb dL_law_17 (by decide) ?_
    refine lv_istore_n (lv' := [(2, .int (nI (gsl z))), (1, .ref (gad z 0)), (0, .ref (gsb z))]) hx hb dL_law_22 rfl hl (by decide) rfl (fun ls hl => ?_)
    refine lv_iconst (v := 0) hx hb dL_law_23 (by decide) ?_
    refine lv_istore_n (lv' := [(3, .int 0), (2, .int (nI (gsl z))), (1, .ref (gad z 0)), (0, .ref (gsb z))]) hx hb dL_law_24 rfl hl (by decide) rfl (fun ls hl => ?_)
    exact loop1 (gsl z) hna (gsl z) 0 M H locs ls (Nat.zero_add _) hI hG hS (lv_sub hl [0, 1, 2, 3] rfl)
