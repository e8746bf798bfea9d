/-! ===== ways taken; one who comes ===== -/
theorem give_c {N : Nat} {M : Mem} {c n p : Nat} {C : Nat → Nat → Int32} (hV : CV M c C) (hC : RC n C) (hp : p < n) (k v : Int32) : fX4_giveWay N M c (nI p) k v = some (sI (sI M (c + 4) p k) (c + 5) p v) := by
  have hn := hC.1.2
  unfold fX4_giveWay
  rw [hasP_y N hV hC hp, bd_some, if_neg (by decide), gd_nI (by omega) (by decide), nm_eq, nm_eq, nI_clamp (by omega)]
theorem RC_45 {n : Nat} {C C' : Nat → Nat → Int32} (hC : RC n C) (h : ∀ j i, j ≠ 4 → j ≠ 5 → C' j i = C j i) : RC n C' := by
  obtain ⟨h1, h2, h3, h4, h5, h6, h7, h8⟩ := hC
  refine ⟨h1, by rw [h _ _ (by omega) (by omega), h2], by rw [h _ _ (by omega) (by omega)]; exact h3, fun q => by rw [h _ _ (by omega) (by omega)]; exact h4 q, fun r hr => by rw [h _ _ (by omega) (by omega), h _ _ (by omega) (by omega)]; exact h5 r hr, fun r hr s => by rw [h _ _ (by omega) (by omega), h _ _ (by omega) (by omega)]; exact h6 r hr s, fun r hr s hs => by rw [h _ _ (by omega) (by omega), h _ _ (by omega) (by omega), h _ _ (by omega) (by omega)]; exact h7 r hr s hs, fun r hr => ?_⟩
  rw [h _ _ (by omega) (by omega), h8 r hr]
  exact isum_cong (fun s hs => by rw [h _ _ (by omega) (by omega)])
theorem MV_45 {M : Mem} {m t n : Nat} {C C' : Nat → Nat → Int32} (hM : MV M m t n C) (h : ∀ j i, j ≠ 4 → j ≠ 5 → C' j i = C j i) : MV M m t n C' := by
  obtain ⟨h1, h2, h3, h4, h5, h6⟩ := hM
  exact ⟨h1, by rw [h _ _ (by omega) (by omega), h2], by rw [h _ _ (by omega) (by omega), h3], fun p hp => by rw [h _ _ (by omega) (by omega), h _ _ (by omega) (by omega)]; exact h4 p hp, fun p hp => by rw [h _ _ (by omega) (by omega)]; exact h5 p hp, fun k hk => by rw [h _ _ (by omega) (by omega)]; exact h6 k hk⟩
theorem take_inv {kp : Int32} {a b k t n p : Nat} {M : Mem} {C : Nat → Nat → Int32} {x y x' : Int32} {M2 : Mem} (hI : Inv kp a b M) (e1 : M.1 (a + 4) 3 = nI k) (hk : k ≤ 4) (ht : t < k) (hC : RC n C) (hV : CV M (a + 4 + 1 + 11 + 8 * t) C) (hM : MV M b t n C) (hW : WV M b t n C) (hp : p < n)
    (h0 : ∀ z i, z ≠ a + 4 + 1 + 11 + 8 * t + 4 → z ≠ a + 4 + 1 + 11 + 8 * t + 5 → z ≠ b + 45 + 1 + t → z ≠ b + 51 + 1 + t → M2.1 z i = M.1 z i) (hJ : ∀ z i, M2.2 z i = M.2 z i)
    (h4 : ∀ i, M2.1 (a + 4 + 1 + 11 + 8 * t + 4) i = if i = p then x else M.1 (a + 4 + 1 + 11 + 8 * t + 4) i) (h5 : ∀ i, M2.1 (a + 4 + 1 + 11 + 8 * t + 5) i = if i = p then y else M.1 (a + 4 + 1 + 11 + 8 * t + 5) i)
    (h6 : ∀ i, M2.1 (b + 45 + 1 + t) i = if i = p then x' else M.1 (b + 45 + 1 + t) i) (h7 : ∀ i, i ≠ p → M2.1 (b + 51 + 1 + t) i = M.1 (b + 51 + 1 + t) i) (h8 : (x = -1 ∧ x' = 0) ∨ (x' = x ∧ M2.1 (b + 51 + 1 + t) p = y ∧ wok x y)) : Inv kp a b M2 := by
  have hab := hI.1
  have hn := hC.1.2
  have hs : ∀ j i, j ≠ 4 → j ≠ 5 → vs (vs C 4 p x) 5 p y j i = C j i := fun j i h1 h2 => by rw [vs_o (Or.inl h2), vs_o (Or.inl h1)]
  refine Inv_st hI e1 hk ht (fun z i hz => ?_) hJ ⟨n, vs (vs C 4 p x) 5 p y, RC_45 hC hs, ?_, MV_45 (MV_fr2 (fun z i hz => ?_) hM) hs, ?_⟩
  · unfold EX at hz
    exact h0 z i (by omega) (by omega) (by omega) (by omega)
  · intro j hj i
    by_cases q4 : j = 4
    · subst q4
      rw [h4, vs_o (by omega)]
      by_cases q : i = p
      · subst q; rw [if_pos rfl, vs_s]
      · rw [if_neg q, vs_o (by omega)]; exact hV 4 (by decide) i
    · by_cases q5 : j = 5
      · subst q5
        rw [h5]
        by_cases q : i = p
        · subst q; rw [if_pos rfl, vs_s]
        · rw [if_neg q, vs_o (by omega), vs_o (by omega)]; exact hV 5 (by decide) i
      · rw [hs j i q4 q5, h0 _ _ (by omega) (by omega) (by omega) (by omega)]; exact hV j hj i
  · exact h0 z i (by omega) (by omega) (by omega) (by omega)
  · intro r hr
    by_cases q : r = p
    · subst q
      rw [h6, if_pos rfl, vs_s, vs_o (by omega), vs_s]
      exact h8
    · rw [h6, if_neg q, h7 r q, vs_o (by omega), vs_o (by omega), vs_o (by omega), vs_o (by omega)]
      exact hW r hr
theorem op_take {kp : Int32} {a b N : Nat} {M : Mem} (hI : Inv kp a b M) (v1 v2 v3 : Int32) : Op kp a b M (fX6_take N M a v1 v2 v3) (fun M1 => fX7_take N M1 b v1 v2 v3) := by
  unfold fX6_take fX7_take
  refine op_sp hI v1 v2 id _ _ ?_
  rintro k t n C p hk ht e1 e2 rfl rfl hp hC hV hM hW
  have hab := hI.1
  have hn := hC.1.2
  by_cases q : v3 = -1
  · subst q
    refine ⟨1, sI (sI M (a + 4 + 1 + 11 + 8 * t + 4) p (-1)) (a + 4 + 1 + 11 + 8 * t + 5) p 0, sI (sI (sI M (a + 4 + 1 + 11 + 8 * t + 4) p (-1)) (a + 4 + 1 + 11 + 8 * t + 5) p 0) (b + 45 + 1 + t) p 0, ?_, ?_, ?_, ?_⟩
    · rw [if_pos rfl, give_c hV hC hp]; rfl
    · exact fun x i h => ⟨by rw [sI_o (by omega), sI_o (by omega)], rfl⟩
    · show bd _ _ = _
      rw [in_r N _ (-1) (-1) 7 (by decide) (by decide), show rg (-1) (-1) 7 = true by decide, bd_some, b1_if, if_pos rfl, if_pos rfl, gd_nI (by omega) (by decide), gd_nI (by omega) (by decide), nm_eq, nI_clamp (by omega), nI_clamp (by omega)]
    · refine take_inv hI e1 hk ht hC hV hM hW hp (fun z i h1 h2 h3 h4 => by rw [sI_o (Or.inl h3), sI_o (Or.inl h2), sI_o (Or.inl h1)]) (fun _ _ => rfl) (x := -1) (y := 0) (x' := 0) (fun i => ?_) (fun i => ?_) (fun i => ?_) (fun i hi => ?_) (Or.inl ⟨rfl, rfl⟩)
      · rw [sI_o (by omega), sI_o (by omega)]
        by_cases h : i = p
        · subst h; rw [sI_s, if_pos rfl]
        · rw [sI_o (Or.inr h), if_neg h]
      · rw [sI_o (by omega)]
        by_cases h : i = p
        · subst h; rw [sI_s, if_pos rfl]
        · rw [sI_o (Or.inr h), sI_o (by omega), if_neg h]
      · by_cases h : i = p
        · subst h; rw [sI_s, if_pos rfl]
        · rw [sI_o (Or.inr h), sI_o (by omega), sI_o (by omega), if_neg h]
      · rw [sI_o (by omega), sI_o (by omega), sI_o (by omega)]
  rw [if_neg q]
  rcases tri v3 (show 8 < 2 ^ 31 by decide) with h | ⟨s, hs, rfl⟩
  · refine Op.ref hI (w := 2) (by decide) (by decide) (-2) ?_ ?_
    · rw [shelfAt_n h, bd_some, onO_none, rfC2]; rfl
    · show bd _ _ = _
      have ef : rg v3 (-1) 7 = false := by
        cases e : rg v3 (-1) 7
        · rfl
        · exfalso
          unfold rg at e
          rw [Bool.and_eq_true, decide_eq_true_eq, decide_eq_true_eq] at e
          rw [fa_le, fa_le] at e
          rw [fa_eq] at q
          have a1 : (-1 : Int32).toInt = -1 := by decide
          have a2 : (0 : Int32).toInt = 0 := by decide
          have a3 : (7 : Int32).toInt = 7 := by decide
          have a4 : (nI 8).toInt = 8 := by decide
          rcases h with h | h
          · rw [fa_lt] at h; omega
          · rw [fa_le] at h; omega
      rw [in_r N _ v3 (-1) 7 (by decide) (by decide), ef, bd_some, b1_if, if_neg (by decide), rfM2]; rfl
  have ein : ∀ M', fX7_in N M' (nI s).toInt64 (-1) 7 = some 1 := fun M' => by
    rw [in_r N _ (nI s) (-1) 7 (by decide) (by decide)]
    have : rg (nI s) (-1) 7 = true := by
      unfold rg
      rw [decide_eq_true (show nI s ≤ 7 from nI_le (b := 7) (by omega) (by decide)), Bool.and_true, decide_eq_true_eq, fa_le, nI_toInt (by omega)]
      have a1 : (-1 : Int32).toInt = -1 := by decide
      omega
    rw [this]; rfl
  rw [shelfAt_y hs, bd_some, onO_some, gc_of (kd_shelf hab.1 hs)]
  simp only [ein, bd_some, i10, if_false, q]
  rcases sh_cases (N := N) (hI.2.1 s hs) with ⟨g1, g2, g3, g4⟩ | ⟨kk, z, hkk, hz, g1, g2, g3, g4, g5, g6, g7, g8⟩ | ⟨kk, hk1, hkk, g1, g2, g3, g4, g5, g6, g7⟩
  · refine Op.refs hI (w := 4) (by decide) (by decide) (-4) ?_ (fun M1 hM1 => ?_)
    · rw [g2, bd_some, if_pos rfl, g1, bd_some, if_pos rfl, rfC4]; rfl
    · show gd _ _ _ = _
      rw [gd_nI hs (by decide), nI_clamp (by omega), hM1 1 _ (by decide), g4, if_neg (by decide), if_pos rfl, rfM4]; rfl
  · refine Op.refs hI (w := 3) (by decide) (by decide) (-3) ?_ (fun M1 hM1 => ?_)
    · rw [g2, bd_some, if_neg (by decide), rfC3]; rfl
    · show gd _ _ _ = _
      rw [gd_nI hs (by decide), nI_clamp (by omega), hM1 1 _ (by decide), g5, if_pos rfl, rfM3]; rfl
  · let v := M.1 (a + 1 + 102 + 2 * s) 3
    have hu : Up b M (sI (sI M (a + 4 + 1 + 11 + 8 * t + 4) p (nI kk)) (a + 4 + 1 + 11 + 8 * t + 5) p v) := fun x i h => ⟨by rw [sI_o (by omega), sI_o (by omega)], rfl⟩
    refine ⟨1, sI (sI M (a + 4 + 1 + 11 + 8 * t + 4) p (nI kk)) (a + 4 + 1 + 11 + 8 * t + 5) p v, sI (sI (sI (sI M (a + 4 + 1 + 11 + 8 * t + 4) p (nI kk)) (a + 4 + 1 + 11 + 8 * t + 5) p v) (b + 45 + 1 + t) p (nI kk)) (b + 51 + 1 + t) p v, ?_, hu, ?_, ?_⟩
    · rw [g2, bd_some, if_pos rfl, g1, bd_some, if_neg (by decide)]
      unfold fX3_wayKind
      rw [g3, bd_some, ← nI_add, show nI 10 + nI kk - 10 = nI kk by rw [show (10 : Int32) = nI 10 from rfl]; grind, give_c hV hC hp]; rfl
    · show gd _ _ _ = _
      rw [gd_nI hs (by decide), nI_clamp (n := s) (by omega), (hu (b + 1) s (by omega)).1, g4, if_neg (by decide), if_neg (by decide), gd_nI (by omega) (by decide), gd_nI (by omega) (by decide), nm_eq, nm_eq, nI_clamp (n := t) (by omega), nI_clamp (n := p) (by omega), sI_o (x := b + 14) (by omega), (hu (b + 13) s (by omega)).1, (hu (b + 14) s (by omega)).1, g5, g6]
    · refine take_inv hI e1 hk ht hC hV hM hW hp (fun z i h1 h2 h3 h4 => by rw [sI_o (Or.inl h4), sI_o (Or.inl h3), sI_o (Or.inl h2), sI_o (Or.inl h1)]) (fun _ _ => rfl) (x := nI kk) (y := v) (x' := nI kk) (fun i => ?_) (fun i => ?_) (fun i => ?_) (fun i hi => ?_) (Or.inr ⟨rfl, sI_s, g7⟩)
      · rw [sI_o (by omega), sI_o (by omega), sI_o (by omega)]
        by_cases h : i = p
        · subst h; rw [sI_s, if_pos rfl]
        · rw [sI_o (Or.inr h), if_neg h]
      · rw [sI_o (by omega), sI_o (by omega)]
        by_cases h : i = p
        · subst h; rw [sI_s, if_pos rfl]
        · rw [sI_o (Or.inr h), sI_o (by omega), if_neg h]
      · rw [sI_o (by omega)]
        by_cases h : i = p
        · subst h; rw [sI_s, if_pos rfl]
        · rw [sI_o (Or.inr h), sI_o (by omega), sI_o (by omega), if_neg h]
      · rw [sI_o (Or.inr hi), sI_o (by omega), sI_o (by omega), sI_o (by omega)]
/-! the reference's person made empty -/
def emF (f : Nat → Int32) (p r : Nat) : Nat → Int32 := fun i => if (i / 12 = p ∧ i % 12 < r) ∨ (i % 12 = p ∧ i / 12 < r) then 0 else f i
def emM (M : Mem) (m t p : Nat) : Mem := fI (sI (sI (sI (sI (sI M (m + 21 + 1 + t) p 0) (m + 27 + 1 + t) p 0) (m + 33 + 1 + t) p 0) (m + 45 + 1 + t) p 0) (m + 51 + 1 + t) p 0) (m + 39 + 1 + t) (emF (M.1 (m + 39 + 1 + t)) p 12)
theorem empty_m {N : Nat} (M : Mem) {m t p : Nat} (ht : t < 5) (hp : p < 12) (hN : 4097 < N) : fX7_empty N M m (nI t) (nI p) = some (emM M m t p) := by
  unfold fX7_empty emM
  rw [gd_nI ht (by decide), gd_nI hp (by decide), nm_eq, nm_eq, nm_eq, nm_eq, nm_eq, nI_clamp (n := t) (by omega), nI_clamp (n := p) (by omega)]
  have e0 : ∀ r, nI p * (12 : Int32) + nI r = nI (12 * p + r) := fun r => by rw [show (12 : Int32) = nI 12 from rfl, pk_mul, nI_add, Nat.mul_comm]
  have e1 : ∀ r, nI r * (12 : Int32) + nI p = nI (12 * r + p) := fun r => by rw [show (12 : Int32) = nI 12 from rfl, pk_mul, nI_add, Nat.mul_comm]
  let M5 := sI (sI (sI (sI (sI M (m + 21 + 1 + t) p 0) (m + 27 + 1 + t) p 0) (m + 33 + 1 + t) p 0) (m + 45 + 1 + t) p 0) (m + 51 + 1 + t) p 0
  obtain ⟨k, hk⟩ := lp (fun k (s : Mem × Int32) => fX7_empty_47 N m (nI t) (nI p) k s.1 s.2) (fun r => (fI M5 (m + 39 + 1 + t) (emF (M.1 (m + 39 + 1 + t)) p r), nI r)) 12 (fun k r hr => by
    show fX7_empty_47 N m (nI t) (nI p) (k + 1) _ (nI r) = fX7_empty_47 N m (nI t) (nI p) k _ (nI (r + 1))
    rw [fX7_empty_47, if_neg (show ¬ (12 : Int32) ≤ nI r from nI_ge (b := 12) hr (by decide)), gd_nI ht (by decide), e0, e1, gd_nI (by omega) (by decide), nm_eq, gd_nI (by omega) (by decide), nm_eq, nI_clamp (n := t) (by omega), nI_clamp (by omega), nI_clamp (by omega), nI_1, sI_fI, sI_fI]
    congr 2
    funext i
    unfold emF
    by_cases h1 : i = 12 * r + p
    · rw [if_pos h1, if_pos (by omega)]
    · rw [if_neg h1]
      by_cases h2 : i = 12 * p + r
      · rw [if_pos h2, if_pos (by omega)]
      · rw [if_neg h2]
        by_cases h3 : (i / 12 = p ∧ i % 12 < r) ∨ (i % 12 = p ∧ i / 12 < r)
        · rw [if_pos h3, if_pos (by omega)]
        · rw [if_neg h3, if_neg (by omega)]) (N := N) (by omega)
  have e : M5 = fI M5 (m + 39 + 1 + t) (emF (M.1 (m + 39 + 1 + t)) p 0) := (fI_same (fun i => by
    unfold emF
    rw [if_neg (by omega)]
    show _ = (sI (sI (sI (sI (sI M (m + 21 + 1 + t) p 0) (m + 27 + 1 + t) p 0) (m + 33 + 1 + t) p 0) (m + 45 + 1 + t) p 0) (m + 51 + 1 + t) p 0).1 (m + 39 + 1 + t) i
    rw [sI_o (by omega), sI_o (by omega), sI_o (by omega), sI_o (by omega), sI_o (by omega)])).symm
  refine Eq.trans ?_ (hk.trans ?_)
  · show fX7_empty_47 N m (nI t) (nI p) N M5 0 = fX7_empty_47 N m (nI t) (nI p) N (fI M5 (m + 39 + 1 + t) (emF (M.1 (m + 39 + 1 + t)) p 0)) (nI 0)
    rw [← e]; rfl
  · show fX7_empty_47 N m (nI t) (nI p) (k + 1) _ (nI 12) = _
    rw [fX7_empty_47, if_pos (by decide)]
theorem em_o {M : Mem} {m t p x i : Nat} (h : x ≠ m + 21 + 1 + t ∧ x ≠ m + 27 + 1 + t ∧ x ≠ m + 33 + 1 + t ∧ x ≠ m + 39 + 1 + t ∧ x ≠ m + 45 + 1 + t ∧ x ≠ m + 51 + 1 + t) : (emM M m t p).1 x i = M.1 x i := by
  unfold emM
  rw [fI_o (by omega), sI_o (by omega), sI_o (by omega), sI_o (by omega), sI_o (by omega), sI_o (by omega)]
theorem em_a {M : Mem} {m t p i : Nat} {x : Nat} (h : x = m + 21 + 1 + t ∨ x = m + 27 + 1 + t ∨ x = m + 33 + 1 + t ∨ x = m + 45 + 1 + t ∨ x = m + 51 + 1 + t) (ht : t < 5) : (emM M m t p).1 x i = if i = p then 0 else M.1 x i := by
  unfold emM
  rw [fI_o (by omega)]
  by_cases q : i = p
  · subst q
    rw [if_pos rfl]
    rcases h with rfl | rfl | rfl | rfl | rfl
    · rw [sI_o (by omega), sI_o (by omega), sI_o (by omega), sI_o (by omega), sI_s]
    · rw [sI_o (by omega), sI_o (by omega), sI_o (by omega), sI_s]
    · rw [sI_o (by omega), sI_o (by omega), sI_s]
    · rw [sI_o (by omega), sI_s]
    · rw [sI_s]
  · rw [sI_o (by omega), sI_o (by omega), sI_o (by omega), sI_o (by omega), sI_o (by omega), if_neg q]
theorem em_6 {M : Mem} {m t p i : Nat} : (emM M m t p).1 (m + 39 + 1 + t) i = emF (M.1 (m + 39 + 1 + t)) p 12 i := by
  unfold emM; rw [fI_s]
theorem near_none {n p : Nat} {C : Nat → Nat → Int32} (hC : RC n C) (hp : p < 12) (h : n ≤ p) : C 3 p = 0 := by
  apply b_ext; intro i _
  rw [b_0]
  cases e : bt (C 3 p) i
  · rfl
  · exact absurd (hC.2.2.2.2.2.1 p hp i e).1 (by omega)
/-- the class's street with one more, before his ties -/
def moC (C : Nat → Nat → Int32) (n : Nat) (c w : Int32) : Nat → Nat → Int32 := vs (vs (vs (vs (vs C 0 7 (nI (n + 1))) 1 n c) 2 n w) 4 n (-1)) 5 n 0
theorem mo_3 {C : Nat → Nat → Int32} {n : Nat} {c w : Int32} {j i : Nat} (h : j = 3 ∨ j = 6 ∨ j = 7) : moC C n c w j i = C j i := by
  unfold moC; rw [vs_o (by omega), vs_o (by omega), vs_o (by omega), vs_o (by omega), vs_o (by omega)]
theorem mo_0 {C : Nat → Nat → Int32} {n : Nat} {c w : Int32} {i : Nat} (h : i ≠ 7) : moC C n c w 0 i = C 0 i := by
  unfold moC; rw [vs_o (by omega), vs_o (by omega), vs_o (by omega), vs_o (by omega), vs_o (by omega)]
theorem mo_07 {C : Nat → Nat → Int32} {n : Nat} {c w : Int32} : moC C n c w 0 7 = nI (n + 1) := by
  unfold moC; rw [vs_o (by omega), vs_o (by omega), vs_o (by omega), vs_o (by omega), vs_s]
theorem mo_1 {C : Nat → Nat → Int32} {n : Nat} {c w : Int32} {i : Nat} : moC C n c w 1 i = if i = n then c else C 1 i := by
  unfold moC; rw [vs_o (by omega), vs_o (by omega), vs_o (by omega)]
  by_cases h : i = n
  · subst h; rw [vs_s, if_pos rfl]
  · rw [vs_o (by omega), vs_o (by omega), if_neg h]
theorem mo_2 {C : Nat → Nat → Int32} {n : Nat} {c w : Int32} {i : Nat} : moC C n c w 2 i = if i = n then w else C 2 i := by
  unfold moC; rw [vs_o (by omega), vs_o (by omega)]
  by_cases h : i = n
  · subst h; rw [vs_s, if_pos rfl]
  · rw [vs_o (by omega), vs_o (by omega), vs_o (by omega), if_neg h]
theorem mo_4 {C : Nat → Nat → Int32} {n : Nat} {c w : Int32} {i : Nat} : moC C n c w 4 i = if i = n then -1 else C 4 i := by
  unfold moC; rw [vs_o (by omega)]
  by_cases h : i = n
  · subst h; rw [vs_s, if_pos rfl]
  · rw [vs_o (by omega), vs_o (by omega), vs_o (by omega), vs_o (by omega), if_neg h]
theorem mo_5 {C : Nat → Nat → Int32} {n : Nat} {c w : Int32} {i : Nat} : moC C n c w 5 i = if i = n then 0 else C 5 i := by
  unfold moC
  by_cases h : i = n
  · subst h; rw [vs_s, if_pos rfl]
  · rw [vs_o (by omega), vs_o (by omega), vs_o (by omega), vs_o (by omega), vs_o (by omega), if_neg h]
theorem RC_mo {n kc kw : Nat} {C : Nat → Nat → Int32} (hC : RC n C) (h12 : n < 12) (hc : kc ≤ 99) (hw : kw ≤ 99) : RC (n + 1) (moC C n (nI kc) (nI kw)) := by
  obtain ⟨⟨hn1, hn⟩, h2, h3, h4, h5, h6, h7, h8⟩ := hC
  refine ⟨⟨by omega, by omega⟩, mo_07, by rw [mo_0 (by omega)]; exact h3, fun q hq => ?_, fun r hr => ?_, fun r hr s hs => ?_, fun r hr s hs => ?_, fun r hr => ?_⟩
  · rw [mo_0 (by omega)] at hq; have := h4 q hq; omega
  · rw [mo_1, mo_2]
    by_cases q : r = n
    · rw [if_pos q, if_pos q]; exact ⟨⟨kc, hc, rfl⟩, ⟨kw, hw, rfl⟩⟩
    · rw [if_neg q, if_neg q]; exact h5 r (by omega)
  · rw [mo_3 (by omega)] at hs ⊢
    obtain ⟨a1, a2, a3, a4⟩ := h6 r hr s hs
    exact ⟨by omega, by omega, a3, a4⟩
  · rw [mo_3 (by omega), mo_3 (by omega), mo_3 (by omega)]; exact h7 r hr s hs
  · rw [mo_3 (by omega), h8 r hr]
    exact isum_cong (fun s hs => by rw [mo_3 (by omega)])
/-- with the ties to those below p of a set -/
def adC (C : Nat → Nat → Int32) (n : Nat) (d : Int32) : Nat → Nat → Nat → Int32
  | 0 => C
  | p + 1 => if bt d p = true then jnC (adC C n d p) n p 0 else adC C n d p
theorem RC_ad {n : Nat} {C : Nat → Nat → Int32} {d : Int32} (hC : RC (n + 1) C) : ∀ p, p ≤ n → RC (n + 1) (adC C n d p)
  | 0, _ => hC
  | p + 1, h => by
    rw [adC]
    by_cases q : bt d p = true
    · rw [if_pos q]
      exact RC_jn (RC_ad hC p (by omega)) (by omega) (by omega) (by omega) ⟨0, by omega, rfl⟩
    · rw [if_neg q]; exact RC_ad hC p (by omega)
theorem ad_45 {n : Nat} {C : Nat → Nat → Int32} {d : Int32} {j i : Nat} (h : j = 4 ∨ j = 5) : ∀ p, adC C n d p j i = C j i
  | 0 => rfl
  | p + 1 => by
    rw [adC]
    by_cases q : bt d p = true
    · rw [if_pos q]
      unfold jnC
      rw [tg_0 (by omega), ad_45 h p]
    · rw [if_neg q]; exact ad_45 h p
theorem admit_c {N : Nat} {M : Mem} {c n kc kw : Nat} {C : Nat → Nat → Int32} (hV : CV M c C) (hC : RC n C) (h12 : n < 12) (hc : kc ≤ 99) (hw : kw ≤ 99) (d : Int32) (hN : 4097 < N) :
    fX4_admit N M c d (nI kc) (nI kw) = some (nI n, wC M c (adC (moC C n (nI kc) (nI kw)) n d n)) := by
  unfold fX4_admit
  have hR := RC_mo (kc := kc) (kw := kw) hC h12 hc hw
  rw [nm_eq, CV0 hV, hC.2.1, if_pos (show nI n < 12 from nI_lt (b := 12) h12 (by decide)), nm_eq, nI_1]
  have v1 := CV_vs hV (j := 0) 7 (nI (n + 1))
  rw [Nat.add_zero] at v1
  have hp : fX4_hasPerson N (sI M c 7 (nI (n + 1))) c (nI n) = some 1 := by
    unfold fX4_hasPerson
    rw [CV0 v1, vs_s, if_neg (nI_pos (by omega)), if_neg (nI_ge (by omega) (by omega)), if_neg (show ¬ (12 : Int32) ≤ nI n from nI_ge (b := 12) h12 (by decide))]
  have hval : fX4_value N (sI M c 7 (nI (n + 1))) c (nI n) (nI kc) (nI kw) = some (sI (sI (sI M c 7 (nI (n + 1))) (c + 1) n (nI kc)) (c + 2) n (nI kw)) := by
    unfold fX4_value
    rw [hp, bd_some, if_neg (by decide), gd_nI (by omega) (by decide), nm_eq, nm_eq, nI_clamp (by omega)]
  rw [hval, bd_some]
  have v3 := CV_vs (CV_vs v1 (j := 1) n (nI kc)) (j := 2) n (nI kw)
  have hp3 : fX4_hasPerson N (sI (sI (sI M c 7 (nI (n + 1))) (c + 1) n (nI kc)) (c + 2) n (nI kw)) c (nI n) = some 1 := by
    unfold fX4_hasPerson
    rw [CV0 v3, vs_o (by omega), vs_o (by omega), vs_s, if_neg (nI_pos (by omega)), if_neg (nI_ge (by omega) (by omega)), if_neg (show ¬ (12 : Int32) ≤ nI n from nI_ge (b := 12) h12 (by decide))]
  have hg : fX4_giveWay N (sI (sI (sI M c 7 (nI (n + 1))) (c + 1) n (nI kc)) (c + 2) n (nI kw)) c (nI n) (-1) 0 = some (sI (sI (sI (sI (sI M c 7 (nI (n + 1))) (c + 1) n (nI kc)) (c + 2) n (nI kw)) (c + 4) n (-1)) (c + 5) n 0) := by
    unfold fX4_giveWay
    rw [hp3, bd_some, if_neg (by decide), gd_nI (by omega) (by decide), nm_eq, nm_eq, nI_clamp (by omega)]
  rw [hg, bd_some]
  have v5 : CV _ c (moC C n (nI kc) (nI kw)) := CV_vs (CV_vs v3 (j := 4) n (-1)) (j := 5) n 0
  have e5 := wC_is (M := M) v5 (fun x i h => by rw [sI_o (by omega), sI_o (by omega), sI_o (by omega), sI_o (by omega), sI_o (by omega)]) (fun _ _ => rfl)
  rw [e5]
  obtain ⟨k, hk⟩ := lp (fun k (s : Mem × Int32) => fX4_admit_44 N c d (nI n) k s.1 s.2) (fun p => (wC M c (adC (moC C n (nI kc) (nI kw)) n d p), nI p)) n (fun k p hp => by
    show fX4_admit_44 N c d (nI n) (k + 1) _ (nI p) = fX4_admit_44 N c d (nI n) k _ (nI (p + 1))
    rw [fX4_admit_44, if_neg (nI_ge hp (by omega)), isIn_s _ _ _ (by omega), bd_some, b1_if, join_c (wC_CV M c _) (RC_ad hR p (by omega)) (by omega) (by omega) (by omega) 0, bd_some, wC_twice, nI_1, adC]
    by_cases q : bt d p = true
    · rw [if_pos q, if_pos q]
    · rw [if_neg q, if_neg q]) (N := N) (by omega)
  refine hk.trans ?_
  show fX4_admit_44 N c d (nI n) (k + 1) _ (nI n) = _
  rw [fX4_admit_44, if_pos (nI_le (Nat.le_refl n) (by omega))]
