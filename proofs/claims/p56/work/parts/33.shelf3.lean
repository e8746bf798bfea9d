def okW (k c : Nat) : Bool := decide (c = k) || decide (c = 0) || (decide (c = 1) && decide (k = 2)) || (decide (c = 3) && decide (k = 4))
def sdW (k c : Nat) (v : Int32) : Int32 := if c = 0 then 0 else if c = 1 ∧ k = 2 then (if v ≤ 500 then 0 else 1) else if c = 3 ∧ k = 4 then v / 100 else v
theorem kc_cases {P : Nat → Nat → Prop} (h : ∀ c, c ≤ 5 → P 1 c ∧ P 2 c ∧ P 3 c ∧ P 4 c ∧ P 5 c) {k c : Nat} (hk1 : 1 ≤ k) (hk : k ≤ 5) (hc : c ≤ 5) : P k c := by
  have h5 : k = 1 ∨ k = 2 ∨ k = 3 ∨ k = 4 ∨ k = 5 := by omega
  obtain ⟨a1, a2, a3, a4, a5⟩ := h c hc
  rcases h5 with rfl | rfl | rfl | rfl | rfl <;> assumption
theorem c6 {P : Nat → Prop} (h0 : P 0) (h1 : P 1) (h2 : P 2) (h3 : P 3) (h4 : P 4) (h5 : P 5) {c : Nat} (hc : c ≤ 5) : P c := by
  have h6 : c = 0 ∨ c = 1 ∨ c = 2 ∨ c = 3 ∨ c = 4 ∨ c = 5 := by omega
  rcases h6 with rfl | rfl | rfl | rfl | rfl | rfl <;> assumption
theorem kind_c {N : Nat} {M : Mem} {q k c : Nat} (h : M.1 q 1 = nI (10 + k)) (hk1 : 1 ≤ k) (hk : k ≤ 5) (hc : c ≤ 5) : fX3_isOfKind N M q (nI c) = some (b1 (okW k c)) := by
  unfold fX3_isOfKind fX3_wayKind
  rw [h, bd_some, ← nI_add, show nI 10 + nI k - 10 = nI k by rw [show (10 : Int32) = nI 10 from rfl]; grind]
  have h5 : k = 1 ∨ k = 2 ∨ k = 3 ∨ k = 4 ∨ k = 5 := by omega
  have h6 : c = 0 ∨ c = 1 ∨ c = 2 ∨ c = 3 ∨ c = 4 ∨ c = 5 := by omega
  rcases h5 with rfl | rfl | rfl | rfl | rfl <;> rcases h6 with rfl | rfl | rfl | rfl | rfl | rfl <;> rfl
theorem under_m {N : Nat} {M : Mem} {k c : Nat} (hk1 : 1 ≤ k) (hk : k ≤ 5) (hc : c ≤ 5) : fX7_isUnder N M (nI k) (nI c) = some (b1 (okW k c)) := by
  unfold fX7_isUnder
  have h5 : k = 1 ∨ k = 2 ∨ k = 3 ∨ k = 4 ∨ k = 5 := by omega
  have h6 : c = 0 ∨ c = 1 ∨ c = 2 ∨ c = 3 ∨ c = 4 ∨ c = 5 := by omega
  rcases h5 with rfl | rfl | rfl | rfl | rfl <;> rcases h6 with rfl | rfl | rfl | rfl | rfl | rfl <;> rfl
theorem said_c {N : Nat} {M : Mem} {q k c : Nat} (h : M.1 q 1 = nI (10 + k)) (hk1 : 1 ≤ k) (hk : k ≤ 5) (hc : c ≤ 5) : fX3_saidAs N M q (nI c) = some (sdW k c (M.1 q 3)) := by
  unfold fX3_saidAs fX3_wayKind sdW
  rw [h]
  simp only [bd_some]
  rw [← nI_add, show nI 10 + nI k - 10 = nI k by rw [show (10 : Int32) = nI 10 from rfl]; grind]
  have h5 : k = 1 ∨ k = 2 ∨ k = 3 ∨ k = 4 ∨ k = 5 := by omega
  have h6 : c = 0 ∨ c = 1 ∨ c = 2 ∨ c = 3 ∨ c = 4 ∨ c = 5 := by omega
  by_cases q0 : M.1 q 3 ≤ 500
  · simp only [q0, if_true]
    rcases h5 with rfl | rfl | rfl | rfl | rfl <;> rcases h6 with rfl | rfl | rfl | rfl | rfl | rfl <;> rfl
  · simp only [q0, if_false]
    rcases h5 with rfl | rfl | rfl | rfl | rfl <;> rcases h6 with rfl | rfl | rfl | rfl | rfl | rfl <;> rfl
theorem said_m {α : Type} {M : α} {k c : Nat} (v : Int32) (hk1 : 1 ≤ k) (hk : k ≤ 5) (hc : c ≤ 5) :
    (if nI c = 0 then some ((0 : Int32), M) else if nI c = 1 then if nI k = 2 then if v ≤ 500 then some (0, M) else some (1, M) else some (v, M) else if nI c = 2 then some (v, M) else if nI c = 3 then if nI k = 4 then some ((v / 100), M) else some (v, M) else some (v, M)) = some (sdW k c v, M) := by
  unfold sdW
  have h5 : k = 1 ∨ k = 2 ∨ k = 3 ∨ k = 4 ∨ k = 5 := by omega
  have h6 : c = 0 ∨ c = 1 ∨ c = 2 ∨ c = 3 ∨ c = 4 ∨ c = 5 := by omega
  by_cases q0 : v ≤ 500
  · simp only [q0, if_true]
    rcases h5 with rfl | rfl | rfl | rfl | rfl <;> rcases h6 with rfl | rfl | rfl | rfl | rfl | rfl <;> rfl
  · simp only [q0, if_false]
    rcases h5 with rfl | rfl | rfl | rfl | rfl <;> rcases h6 with rfl | rfl | rfl | rfl | rfl | rfl <;> rfl
theorem op_says {kp : Int32} {a b N : Nat} {M : Mem} (hI : Inv kp a b M) (v1 v2 : Int32) : Op kp a b M (fX6_says N M a v1 v2) (fun M1 => fX7_says N M1 b v1 v2) := by
  unfold fX6_says fX7_says
  refine op_sg hI v1 id _ _ ?_
  rintro s hs rfl
  refine op_rng hI v2 0 5 (by decide) (by decide) id _ _ (fun h2 => ?_)
  obtain ⟨c, -, hc, rfl⟩ := rg_nI (x := 0) (y := 5) (by decide) (by decide) h2
  have hab := hI.1
  rcases sh_cases (N := N) (hI.2.1 s hs) with ⟨h1, h2, h3, h4⟩ | ⟨k, z, hk, hz, h1, h2, h3, h4, h5, h6, h7, h8⟩ | ⟨k, hk1, hk, h1, h2, h3, h4, h5, h6, -⟩
  · refine Op.ref hI (w := 4) (by decide) (by decide) (-4) ?_ ?_
    · rw [h2, bd_some, if_pos rfl, h1, bd_some, if_pos rfl, rfC4]; rfl
    · show gd _ _ _ = _
      rw [gd_nI hs (by decide), nI_clamp (by omega), shelf_rC hab (by decide), h4, if_neg (by decide), if_neg (by decide), if_pos rfl, rfM4]; rfl
  · refine Op.ref hI (w := 3) (by decide) (by decide) (-3) ?_ ?_
    · rw [h2, bd_some, if_neg (by decide), rfC3]; rfl
    · show gd _ _ _ = _
      rw [gd_nI hs (by decide), nI_clamp (by omega), shelf_rC hab (by decide), h5, if_pos rfl, rfM3]; rfl
  · cases e : okW k c
    · refine Op.ref hI (w := 3) (by decide) (by decide) (-3) ?_ ?_
      · rw [h2, bd_some, if_pos rfl, h1, bd_some, if_neg (by decide), kind_c h3 hk1 hk hc, e, bd_some, b1_if, if_neg (by decide), rfC3]; rfl
      · show gd _ _ _ = _
        rw [gd_nI hs (by decide), nI_clamp (by omega), shelf_rC hab (by decide), h4, if_neg (by decide), if_pos rfl, shelf_rC hab (by decide), h5, under_m hk1 hk hc, e, bd_some, b1_if, if_neg (by decide), rfM3]; rfl
    · refine Op.same hI (sdW k c (M.1 (a + 1 + 102 + 2 * s) 3)) ?_ ?_
      · rw [h2, bd_some, if_pos rfl, h1, bd_some, if_neg (by decide), kind_c h3 hk1 hk hc, e, bd_some, b1_if, if_pos rfl, said_c h3 hk1 hk hc]; rfl
      · show gd _ _ _ = _
        rw [gd_nI hs (by decide), nI_clamp (by omega), h4, if_neg (by decide), if_pos rfl, h5, under_m hk1 hk hc, e, bd_some, b1_if, if_pos rfl, if_neg (by decide), h6]
        exact said_m _ hk1 hk hc
/-! copy -/
theorem hp_tot {N : Nat} {M : Mem} {q : Nat} (v w : Int32) : ∃ x, fX3_hasPlaces N M q v w = some (b1 x) := by
  unfold fX3_hasPlaces
  by_cases h1 : v < 0
  · exact ⟨false, by rw [if_pos h1]; rfl⟩
  · by_cases h2 : w < 0
    · exact ⟨false, by rw [if_neg h1, if_pos h2]; rfl⟩
    · by_cases h3 : M.1 q 2 < v
      · exact ⟨false, by rw [if_neg h1, if_neg h2, if_pos h3]; rfl⟩
      · by_cases h4 : M.1 q 2 - v < w
        · exact ⟨false, by rw [if_neg h1, if_neg h2, if_neg h3, if_pos h4]; rfl⟩
        · exact ⟨true, by rw [if_neg h1, if_neg h2, if_neg h3, if_neg h4]; rfl⟩
theorem hp_neg {N : Nat} {M : Mem} {q : Nat} {v w : Int32} (h : v < 0 ∨ w < 0) : fX3_hasPlaces N M q v w = some 0 := by
  unfold fX3_hasPlaces
  by_cases h1 : v < 0
  · rw [if_pos h1]
  · rw [if_neg h1, if_pos (h.resolve_left h1)]
theorem hp_nn {N : Nat} {M : Mem} {q z : Nat} (h : M.1 q 2 = nI z) (hz : z ≤ 40) {i n : Nat} (hi : i < 2 ^ 31) (hn : n < 2 ^ 31) : fX3_hasPlaces N M q (nI i) (nI n) = some (b1 (decide (i + n ≤ z))) := by
  unfold fX3_hasPlaces
  rw [h, if_neg (nI_pos hi), if_neg (nI_pos hn)]
  by_cases h1 : z < i
  · rw [if_pos (nI_lt h1 hi), decide_eq_false (by omega)]; rfl
  · rw [if_neg (nI_nlt (by omega) (by omega)), pk_sub (by omega)]
    by_cases h2 : z - i < n
    · rw [if_pos (nI_lt h2 hn), decide_eq_false (by omega)]; rfl
    · rw [if_neg (nI_nlt (by omega) (by omega)), decide_eq_true (by omega)]; rfl
theorem cp_chain {α : Type} {z1 z2 i j n : Nat} (h1 : z1 ≤ 40) (h2 : z2 ≤ 40) (hi : i < 2 ^ 31) (hj : j < 2 ^ 31) (hn : n < 2 ^ 31) (R G : α) :
    (if nI z1 < nI n then R else if nI z2 < nI n then R else if nI z1 - nI n < nI i then R else if nI j ≤ nI z2 - nI n then G else R) = if i + n ≤ z1 ∧ j + n ≤ z2 then G else R := by
  by_cases q1 : z1 < n
  · rw [if_pos (nI_lt q1 hn), if_neg (by omega)]
  · rw [if_neg (nI_nlt (by omega) (by omega))]
    by_cases q2 : z2 < n
    · rw [if_pos (nI_lt q2 hn), if_neg (by omega)]
    · rw [if_neg (nI_nlt (by omega) (by omega)), pk_sub (by omega), pk_sub (by omega)]
      by_cases q3 : z1 - n < i
      · rw [if_pos (nI_lt q3 hi), if_neg (by omega)]
      · rw [if_neg (nI_nlt (by omega) (by omega))]
        by_cases q4 : j ≤ z2 - n
        · rw [if_pos (nI_le q4 (by omega)), if_pos (by omega)]
        · rw [if_neg (nI_ge (by omega) hj), if_neg (by omega)]
theorem i12 : ((1 : Int32) = 2) = False := by simp
theorem i02 : ((0 : Int32) = 2) = False := by simp
theorem i01 : ((0 : Int32) = 1) = False := by simp
theorem i20 : ((2 : Int32) = 0) = False := by simp
theorem i21 : ((2 : Int32) = 1) = False := by simp
theorem i22 : ((2 : Int32) = 2) = True := by simp
theorem i11 : ((1 : Int32) = 1) = True := by simp
theorem Op.refs {kp : Int32} {a b : Nat} {M : Mem} {X : Option (Int32 × Mem)} {Y : Mem → Option (Int32 × Mem)} (hI : Inv kp a b M) {w : Nat} (h2 : 2 ≤ w) (h6 : w ≤ 6) (r : Int32) (hX : X = some (r, rC a M w)) (hY : ∀ M1, (∀ j s, j ≠ 17 → M1.1 (b + j) s = M.1 (b + j) s) → Y M1 = some (r, rM b M1 w)) : Op kp a b M X Y := Op.ref hI h2 h6 r hX (hY _ (fun j s hj => shelf_rC hI.1 hj))
theorem op_copy {kp : Int32} {a b N : Nat} {M : Mem} (hI : Inv kp a b M) (hN : 4097 < N) (v1 v2 v3 v4 v5 : Int32) : Op kp a b M (fX6_copy N M a v1 v2 v3 v4 v5) (fun M1 => fX7_copy N M1 b v1 v2 v3 v4 v5) := by
  unfold fX6_copy fX7_copy
  have hab := hI.1
  have iny : ∀ M' (p : Nat), p < 8 → fX7_in N M' (nI p).toInt64 0 7 = some 1 := fun M' p hp => by rw [in_r N _ (nI p) 0 7 (by decide) (by decide), show rg (nI p) 0 7 = true from rg_t (k := 7) hp (by decide)]; rfl
  have inn : ∀ M' (v : Int32), (v < 0 ∨ nI 8 ≤ v) → fX7_in N M' v.toInt64 0 7 = some 0 := fun M' v h => by rw [in_r N _ v 0 7 (by decide) (by decide), show rg v 0 7 = false from rg_f (k := 7) h (by decide)]; rfl
  rcases tri v1 (show 8 < 2 ^ 31 by decide) with h1 | ⟨p, hp, rfl⟩
  · refine Op.ref hI (w := 2) (by decide) (by decide) (-2) ?_ ?_
    · rw [shelfAt_n h1, bd_some, onO_none]
      rcases tri v2 (show 8 < 2 ^ 31 by decide) with h2 | ⟨q, hq, rfl⟩
      · rw [shelfAt_n h2, bd_some, onO_none, rfC2]; rfl
      · rw [shelfAt_y hq, bd_some, onO_some, gc_of (kd_shelf hab.1 hq), rfC2]; rfl
    · show bd _ _ = _
      rw [inn _ _ h1, bd_some, if_pos rfl, rfM2]; rfl
  rw [shelfAt_y hp, bd_some, onO_some, gc_of (kd_shelf hab.1 hp)]
  rcases tri v2 (show 8 < 2 ^ 31 by decide) with h2 | ⟨q, hq, rfl⟩
  · refine Op.ref hI (w := 2) (by decide) (by decide) (-2) ?_ ?_
    · rw [shelfAt_n h2, bd_some, onO_none, rfC2]; rfl
    · show bd _ _ = _
      rw [iny _ _ hp, bd_some, if_neg (by decide), inn _ _ h2, bd_some, if_pos rfl, rfM2]; rfl
  rw [shelfAt_y hq, bd_some, onO_some, gc_of (kd_shelf hab.1 hq)]
  simp only [iny _ _ hp, iny _ _ hq, bd_some, i10, if_false, gd_nI hp (show 8 < 2 ^ 31 by decide), gd_nI hq (show 8 < 2 ^ 31 by decide), nI_clamp (show p < 2 ^ 31 by omega), nI_clamp (show q < 2 ^ 31 by omega)]
  rcases sh_cases (N := N) (hI.2.1 p hp) with ⟨g1, g2, g3, g4⟩ | ⟨k, z, hk, hz, g1, g2, g3, g4, g5, g6, g7, g8⟩ | ⟨k, hk1, hk, g1, g2, g3, g4, -⟩
  · rcases sh_cases (N := N) (hI.2.1 q hq) with ⟨l1, l2, l3, l4⟩ | ⟨k', z', hk', hz', l1, l2, l3, l4, l5, l6, l7, l8⟩ | ⟨k', hk1', hk', l1, l2, l3, l4, -⟩
    · refine Op.refs hI (w := 4) (by decide) (by decide) (-4) ?_ (fun M1 hM => ?_)
      · simp only [g1, g2, l1, l2, bd_some, i00, if_true, rfC4]
      · simp only [hM 1 _ (by decide), g4, l4, i02, i01, i00, if_false, if_true, rfM4, bd_some]
    · refine Op.refs hI (w := 4) (by decide) (by decide) (-4) ?_ (fun M1 hM => ?_)
      · simp only [g1, g2, l1, l2, bd_some, i00, i10, if_true, if_false, rfC4]
      · simp only [hM 1 _ (by decide), g4, l5, i02, i12, i01, i00, if_false, if_true, rfM4, bd_some]
    · refine Op.refs hI (w := 3) (by decide) (by decide) (-3) ?_ (fun M1 hM => ?_)
      · simp only [g1, g2, l1, l2, bd_some, i00, i10, if_true, if_false, rfC3]
      · simp only [hM 1 _ (by decide), g4, l4, i02, i22, if_false, if_true, rfM3, bd_some]
  · rcases sh_cases (N := N) (hI.2.1 q hq) with ⟨l1, l2, l3, l4⟩ | ⟨k', z', hk', hz', l1, l2, l3, l4, l5, l6, l7, l8⟩ | ⟨k', hk1', hk', l1, l2, l3, l4, -⟩
    · refine Op.refs hI (w := 4) (by decide) (by decide) (-4) ?_ (fun M1 hM => ?_)
      · simp only [g1, g2, l1, l2, bd_some, i00, i10, if_true, if_false, rfC4]
      · simp only [hM 1 _ (by decide), g5, l4, i12, i02, i01, i00, i10, i11, if_false, if_true, rfM4, bd_some]
    · simp only [g1, g2, l1, l2, bd_some, i00, i10, if_true, if_false, g3, l3]
      by_cases qk : nI k = nI k'
      · by_cases n5 : v5 < 0
        · refine Op.refs hI (w := 2) (by decide) (by decide) (-2) ?_ (fun M1 hM => ?_)
          · simp only [qk, if_true, hp_neg (Or.inr n5), bd_some, i00, rfC2]
          · simp only [hM 1 _ (by decide), hM 2 _ (by decide), g5, g6, l5, l6, qk, n5, i12, i11, i10, if_true, if_false, rfM2, bd_some]
        by_cases n3 : v3 < 0
        · refine Op.refs hI (w := 2) (by decide) (by decide) (-2) ?_ (fun M1 hM => ?_)
          · simp only [qk, if_true, hp_neg (Or.inl n3), bd_some, i00, rfC2]
          · simp only [hM 1 _ (by decide), hM 2 _ (by decide), g5, g6, l5, l6, qk, n5, n3, i12, i11, i10, if_true, if_false, rfM2, bd_some]
        by_cases n4 : v4 < 0
        · refine Op.refs hI (w := 2) (by decide) (by decide) (-2) ?_ (fun M1 hM => ?_)
          · obtain ⟨x, ex⟩ := hp_tot (N := N) (M := M) (q := a + 1 + 102 + 2 * p) v3 v5
            simp only [qk, if_true, ex, hp_neg (Or.inl n4), bd_some, i00, b1_if, rfC2]
            cases x <;> rfl
          · simp only [hM 1 _ (by decide), hM 2 _ (by decide), g5, g6, l5, l6, qk, n5, n3, n4, i12, i11, i10, if_true, if_false, rfM2, bd_some]
        obtain ⟨n, hn, rfl⟩ := nI_of n5
        obtain ⟨i, hi, rfl⟩ := nI_of n3
        obtain ⟨j, hj, rfl⟩ := nI_of n4
        by_cases good : i + n ≤ z ∧ j + n ≤ z'
        · let Q := a + 1 + 102 + 2 * q
          let P := a + 1 + 102 + 2 * p
          have hu : Up b M (fJ M (Q + 1) (va_cpy (M.2 (P + 1)) (M.2 (Q + 1)) i j n)) := fun x y h => ⟨rfl, fJ_o (show x ≠ a + 1 + 102 + 2 * q + 1 by omega) y⟩
          refine ⟨nI n, fJ M (Q + 1) (va_cpy (M.2 (P + 1)) (M.2 (Q + 1)) i j n), cpM (fJ M (Q + 1) (va_cpy (M.2 (P + 1)) (M.2 (Q + 1)) i j n)) b p q i j n, ?_, hu, ?_, ?_⟩
          · simp only [qk, if_true, hp_nn g4 hz hi hn, hp_nn l4 hz' hj hn, bd_some, b1_if, decide_eq_true good.1, decide_eq_true good.2, nI_clamp hi, nI_clamp hj, nI_clamp hn]
            rw [gc_of ⟨n3, n4, n5, by omega, by omega⟩]; rfl
          · have hM : ∀ j s, (fJ M (Q + 1) (va_cpy (M.2 (P + 1)) (M.2 (Q + 1)) i j n)).1 (b + j) s = M.1 (b + j) s := fun _ _ => rfl
            show (if M.1 (b + 1) p = 2 then _ else _) = _
            simp only [show ∀ x y, (fJ M (Q + 1) (va_cpy (M.2 (P + 1)) (M.2 (Q + 1)) i j n)).1 x y = M.1 x y from fun _ _ => rfl, g5, g6, g7, l5, l6, l7, qk, n5, n3, n4, i12, i11, i10, if_true, if_false]
            rw [cp_chain hz hz' hi hj hn, if_pos good, copy_m _ hp hq (by omega) (by omega) hN]
          · refine Inv_sh hI hq (fun _ _ _ => rfl) (fun x y h h1 h2 => ?_) (Or.inr (Or.inl ⟨k', z', hk', hz', l3, l4, l5, l6, l7, fun y hy => ?_⟩))
            · unfold JS at h
              unfold cpM
              rw [fJ_o h2, fJ_o (by omega), fJ_o h1]
            · unfold cpM
              rw [fJ_s, fJ_o (by omega), fJ_o (by omega), fJ_s]
              have o1 : ∀ y, (fJ M (Q + 1) (va_cpy (M.2 (P + 1)) (M.2 (Q + 1)) i j n)).2 (b + 4 + 1 + p) y = M.2 (b + 4 + 1 + p) y := fun y => fJ_o (show b + 4 + 1 + p ≠ a + 1 + 102 + 2 * q + 1 by omega) y
              have o2 : ∀ y, (fJ M (Q + 1) (va_cpy (M.2 (P + 1)) (M.2 (Q + 1)) i j n)).2 (b + 4 + 1 + q) y = M.2 (b + 4 + 1 + q) y := fun y => fJ_o (show b + 4 + 1 + q ≠ a + 1 + 102 + 2 * q + 1 by omega) y
              by_cases hin : j ≤ y ∧ y < j + n
              · rw [pk_cpy_in hin.1 hin.2, pk_cpy_in hin.1 hin.2, o1]
                exact g8 _ (by omega)
              · rw [pk_cpy_out (by omega), pk_cpy_out (by omega), o2]
                exact l8 _ hy
        · refine Op.refs hI (w := 2) (by decide) (by decide) (-2) ?_ (fun M1 hM => ?_)
          · simp only [qk, if_true, hp_nn g4 hz hi hn, hp_nn l4 hz' hj hn, bd_some, b1_if, rfC2]
            by_cases x1 : i + n ≤ z
            · rw [decide_eq_true x1, decide_eq_false (fun x2 => good ⟨x1, x2⟩)]; rfl
            · rw [decide_eq_false x1]; rfl
          · simp only [hM 1 _ (by decide), hM 2 _ (by decide), hM 3 _ (by decide), g5, g6, g7, l5, l6, l7, qk, n5, n3, n4, i12, i11, i10, if_true, if_false]
            rw [cp_chain hz hz' hi hj hn, if_neg good, rfM2]; rfl
      · refine Op.refs hI (w := 3) (by decide) (by decide) (-3) ?_ (fun M1 hM => ?_)
        · simp only [qk, if_false, rfC3, bd_some]
        · simp only [hM 1 _ (by decide), hM 2 _ (by decide), g5, g6, l5, l6, qk, i12, i11, i10, if_true, if_false, rfM3, bd_some]
    · refine Op.refs hI (w := 3) (by decide) (by decide) (-3) ?_ (fun M1 hM => ?_)
      · simp only [g1, g2, l1, l2, bd_some, i00, i10, if_true, if_false, rfC3]
      · simp only [hM 1 _ (by decide), g5, l4, i12, i22, if_false, if_true, rfM3, bd_some]
  · refine Op.refs hI (w := 3) (by decide) (by decide) (-3) ?_ (fun M1 hM => ?_)
    · simp only [g1, bd_some, i10, if_false, rfC3]
    · simp only [hM 1 _ (by decide), g4, i22, if_true, rfM3, bd_some]
