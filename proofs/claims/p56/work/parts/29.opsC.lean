/-! ===== ranges; what is known; bars; a street's numbers ===== -/
theorem op_rng {kp : Int32} {a b N : Nat} {M : Mem} (hI : Inv kp a b M) (v lo hi : Int32) {A B : Int64} (hA : A = lo.toInt64) (hB : B = hi.toInt64) (g : Int32 → Int32) (X : Option (Int32 × Mem)) (Y : Mem → Option (Int32 × Mem)) (h : rg v lo hi = true → Op kp a b M X Y) :
    Op kp a b M (bd (fX6_isWithin N M v lo hi) (fun r1 => if r1 = 0 then bd (fX6_refuse N M a (-2)) (fun r3 => some (g r3.1, r3.2)) else X))
      (fun M1 => bd (fX7_in N M1 v.toInt64 A B) (fun r1 => if r1 = 0 then bd (fX7_refuse N M1 b (-2)) (fun r3 => some (g r3.1, r3.2)) else Y M1)) := by
  cases e : rg v lo hi
  · refine Op.ref hI (w := 2) (by decide) (by decide) (g (-2)) ?_ ?_
    · rw [within_r, e, bd_some, b1_if, if_neg (by decide), rfC2]; rfl
    · show bd _ _ = _
      rw [in_r N _ v lo hi hA hB, e, bd_some, b1_if, if_neg (by decide), rfM2]; rfl
  · obtain ⟨r, M1, M2, h1, h2, h3, h4⟩ := h e
    refine ⟨r, M1, M2, ?_, h2, ?_, h4⟩
    · rw [within_r, e, bd_some, b1_if, if_pos rfl, h1]
    · show bd _ _ = _
      rw [in_r N _ v lo hi hA hB, e, bd_some, b1_if, if_pos rfl, h3]
def IT (a b x i : Nat) : Prop := (x = a ∧ i = 7) ∨ x = a + 2 ∨ x = a + 3 ∨ (a + 48 ≤ x ∧ x ≤ a + 91) ∨ (a + 102 ≤ x ∧ x < a + 119) ∨ (x = b ∧ (i = 8 ∨ i = 26)) ∨ (b + 1 ≤ x ∧ x ≤ b + 14) ∨ x = b + 16 ∨ x = b + 17 ∨ b + 59 ≤ x
theorem Inv_tw {kp : Int32} {a b : Nat} {M M' : Mem} (hI : Inv kp a b M) (h : ∀ x i, IT a b x i → M'.1 x i = M.1 x i) (hJ : ∀ x i, JS a b x → M'.2 x i = M.2 x i) (hT : TWr M' (a + 4) b) : Inv kp a b M' := by
  obtain ⟨⟨ha, hb⟩, hs, ht, hr, -, hk⟩ := hI
  refine ⟨⟨ha, hb⟩, fun s hs2 => SHr_fr (fun i => h _ _ (by unfold IT; omega)) (fun i => hJ _ _ (by unfold JS; omega)) (fun j hj => h _ _ (by unfold IT; omega)) (fun i => hJ _ _ (by unfold JS; omega)) (hs s hs2), TPr_fr (h _ _ (by unfold IT; omega)) (h _ _ (by unfold IT; omega)) (fun i => h _ _ (by unfold IT; omega)) (fun i => h _ _ (by unfold IT; omega)) ht, fun i hi => ?_, hT, KPr_fr (h _ _ (by unfold IT; omega)) (h _ _ (by unfold IT; omega)) (fun x i p q => h _ _ (by unfold IT; omega)) (fun x i p => h _ _ (by unfold IT; omega)) hk⟩
  rw [h _ _ (by unfold IT; omega), h _ _ (by unfold IT; omega)]
  exact hr i hi
theorem op_know {kp : Int32} {a b N : Nat} {M : Mem} (hI : Inv kp a b M) (v1 v2 : Int32) : Op kp a b M (fX6_know N M a v1 v2) (fun M1 => fX7_know N M1 b v1 v2) := by
  unfold fX6_know fX7_know
  refine op_rng hI v1 0 5 (by decide) (by decide) id _ _ (fun h1 => ?_)
  refine op_rng hI v2 0 20 (by decide) (by decide) id _ _ (fun h2 => ?_)
  obtain ⟨d, -, hd, rfl⟩ := rg_nI (x := 0) (y := 5) (by decide) (by decide) h1
  obtain ⟨j, -, hj, rfl⟩ := rg_nI (x := 0) (y := 20) (by decide) (by decide) h2
  have hab := hI.1
  obtain ⟨hst, hkn, hse, hhn⟩ := hI.2.2.2.2.1
  refine ⟨M.1 (a + 4 + 2) d, sI M (a + 4 + 2) d (nI j), sI (sI M (a + 4 + 2) d (nI j)) (b + 57) d (nI j), ?_, ?_, ?_, ?_⟩
  · rw [gd_nI (by omega) (by decide), nI_clamp (by omega)]; rfl
  · exact fun x i h => ⟨sI_o (by omega), rfl⟩
  · show gd _ _ _ = _
    rw [gd_nI (by omega) (by decide), nI_clamp (by omega), nm_eq, nm_eq, sI_o (by omega), (hkn d (by omega)).1]
  · have f : ∀ x i, x ≠ a + 4 + 2 → x ≠ b + 57 → (sI (sI M (a + 4 + 2) d (nI j)) (b + 57) d (nI j)).1 x i = M.1 x i := fun x i h1 h2 => by rw [sI_o (by omega), sI_o (by omega)]
    refine Inv_tw hI (fun x i h => f _ _ (by unfold IT at h; omega) (by unfold IT at h; omega)) (fun _ _ _ => rfl) ?_
    obtain ⟨k, hk, e1, e2, hs⟩ := hst
    refine ⟨⟨k, hk, by rw [f _ _ (by omega) (by omega), e1], by rw [f _ _ (by omega) (by omega), e2], fun t ht => STr_fr (by omega) (fun x i p q => f _ _ (by omega) (by omega)) (fun x i p q => f _ _ (by omega) (by omega)) (hs t ht)⟩, fun d2 hd2 => ?_, by rw [f _ _ (by omega) (by omega), f _ _ (by omega) (by omega), hse], HNr_fr (fun x i p q => f _ _ (by omega) (by omega)) (fun x i p q => f _ _ (by omega) (by omega)) (fun i p q => f _ _ (by omega) (by omega)) hhn⟩
    by_cases q : d2 = d
    · subst q
      rw [sI_s, sI_o (by omega), sI_s]
      exact ⟨rfl, j, by omega, rfl⟩
    · rw [sI_o (by omega), sI_o (by omega), sI_o (by omega), sI_o (by omega)]
      exact hkn d2 hd2
theorem op_bar {kp : Int32} {a b N : Nat} {M : Mem} (hI : Inv kp a b M) (hN : 4097 < N) (v1 v2 : Int32) : Op kp a b M (fX6_bar N M a v1 v2) (fun M1 => fX7_bar N M1 b v1 v2) := by
  unfold fX6_bar fX7_bar
  refine op_rng hI v1 1 99 (by decide) (by decide) id _ _ (fun h1 => ?_)
  refine op_rng hI v2 1 99 (by decide) (by decide) id _ _ (fun h2 => ?_)
  obtain ⟨-, hkn, -, -⟩ := hI.2.2.2.2.1
  have hg : ∃ g : Nat → Nat, ∀ d, d < 6 → M.1 (a + 4 + 2) d = nI (g d) ∧ g d ≤ 20 := by
    refine ⟨fun d => (M.1 (a + 4 + 2) d).toNatClampNeg, fun d hd => ?_⟩
    obtain ⟨-, j, hj, e⟩ := hkn d hd
    show M.1 (a + 4 + 2) d = nI (M.1 (a + 4 + 2) d).toNatClampNeg ∧ (M.1 (a + 4 + 2) d).toNatClampNeg ≤ 20
    rw [e, nI_clamp (by omega)]
    exact ⟨rfl, hj⟩
  obtain ⟨g, hg⟩ := hg
  refine Op.same hI (barR g v1 v2) ?_ ?_
  · exact bar_c (fun d hd => (hg d hd).1) (fun d hd => (hg d hd).2) v1 v2 (by omega)
  · exact bar36 (fun d hd => by rw [← (hkn d hd).1]; exact (hg d hd).1) (fun d hd => (hg d hd).2) v1 v2 (by omega)
/-! a street's numbers -/
theorem ties_c {N : Nat} {M : Mem} {c n : Nat} {C : Nat → Nat → Int32} (hV : CV M c C) (hC : RC n C) (hN : 100 < N) : fX4_ties N M c = some (isum (fun p => nI (cntN (C 3 p))) n / 2) := by
  have hn := hC.1.2
  unfold fX4_ties
  obtain ⟨k, hk⟩ := lp (fun k (s : Int32 × Int32) => fX4_ties_4 N M c k s.1 s.2) (fun p => (isum (fun p => nI (cntN (C 3 p))) p, nI p)) n (fun k p hp => by
    show fX4_ties_4 N M c (k + 1) _ (nI p) = fX4_ties_4 N M c k _ (nI (p + 1))
    rw [fX4_ties_4, CV0 hV, hC.2.1, if_neg (nI_ge hp (by omega)), gd_nI (by omega) (by decide), nI_clamp (by omega), hV 3 (by decide), bc_s N M (fun i hi => Nat.lt_of_lt_of_le (hC.2.2.2.2.2.1 p (by omega) i hi).2.1 hn), bd_some, nm_eq, nI_1]; rfl) (N := N) (by omega)
  refine hk.trans ?_
  show fX4_ties_4 N M c (k + 1) _ (nI n) = _
  rw [fX4_ties_4, CV0 hV, hC.2.1, if_pos (nI_le (Nat.le_refl n) (by omega))]
theorem prices_c {N : Nat} {M : Mem} {c n : Nat} {C : Nat → Nat → Int32} (hV : CV M c C) (hC : RC n C) (hN : 100 < N) : fX4_prices N M c = some (isum (fun p => C 7 p) n / 2) := by
  have hn := hC.1.2
  unfold fX4_prices
  obtain ⟨k, hk⟩ := lp (fun k (s : Int32 × Int32) => fX4_prices_4 N M c k s.1 s.2) (fun p => (isum (fun p => C 7 p) p, nI p)) n (fun k p hp => by
    show fX4_prices_4 N M c (k + 1) _ (nI p) = fX4_prices_4 N M c k _ (nI (p + 1))
    rw [fX4_prices_4, CV0 hV, hC.2.1, if_neg (nI_ge hp (by omega)), gd_nI (by omega) (by decide), nI_clamp (by omega), hV 7 (by decide), nm_eq, nI_1]; rfl) (N := N) (by omega)
  refine hk.trans ?_
  show fX4_prices_4 N M c (k + 1) _ (nI n) = _
  rw [fX4_prices_4, CV0 hV, hC.2.1, if_pos (nI_le (Nat.le_refl n) (by omega))]
theorem stOf_m {N : Nat} {M : Mem} {m t n : Nat} {C : Nat → Nat → Int32} (hM : MV M m t n C) (hC : RC n C) (ht : t < 5) {w : Nat} (hw : w < 5) (hN : 4097 < N) :
    fX7_streetOf_35 N M m (nI t) (nI w) N 0 0 0 = some ((if w = 0 then nI n else if w = 1 then isum (fun p => nI (cntN (C 3 p))) n / 2 else if w = 2 then C 0 8 else if w = 3 then C 0 9 else isum (fun p => C 7 p) n / 2), M) := by
  have hn := hC.1.2
  obtain ⟨k, hk⟩ := lp (fun k (s : Int32 × Int32 × Int32) => fX7_streetOf_35 N M m (nI t) (nI w) k s.1 s.2.1 s.2.2) (fun p => (isum (fun p => nI (cntN (C 3 p))) p, isum (fun p => C 7 p) p, nI p)) n (fun k p hp => by
    show fX7_streetOf_35 N M m (nI t) (nI w) (k + 1) _ _ (nI p) = fX7_streetOf_35 N M m (nI t) (nI w) k _ _ (nI (p + 1))
    rw [fX7_streetOf_35, gd_nI ht (by decide), nI_clamp (n := t) (by omega), hM.1, if_neg (nI_ge hp (by omega)), gd_nI (p := p) (by omega) (by decide), nI_clamp (n := p) (by omega), hM.2.2.2.2.1 p (by omega), bits_s N M _ (by omega), bd_some, nm_eq, prices_m N hM hC ht hp (by omega), bd_some, nm_eq, nI_1]; rfl) (N := N) (by omega)
  refine hk.trans ?_
  show fX7_streetOf_35 N M m (nI t) (nI w) (k + 1) _ _ (nI n) = _
  rw [fX7_streetOf_35, gd_nI ht (by decide), nI_clamp (n := t) (by omega), hM.1, if_pos (nI_le (Nat.le_refl n) (by omega)), hM.2.1, hM.2.2.1]
  have h5 : w = 0 ∨ w = 1 ∨ w = 2 ∨ w = 3 ∨ w = 4 := by omega
  rcases h5 with rfl | rfl | rfl | rfl | rfl <;> rfl
theorem rg_f {v : Int32} {k : Nat} (h : v < 0 ∨ nI (k + 1) ≤ v) (hk : k + 1 < 2 ^ 31) : rg v 0 (nI k) = false := by
  have a := rng_n h hk
  rw [nI_pred] at a
  exact a
theorem rg_t {j k : Nat} (h : j < k + 1) (hk : k + 1 < 2 ^ 31) : rg (nI j) 0 (nI k) = true := by
  have a := rng_y h hk
  rw [nI_pred] at a
  exact a
theorem op_streetOf {kp : Int32} {a b N : Nat} {M : Mem} (hI : Inv kp a b M) (hN : 4097 < N) (v1 v2 : Int32) : Op kp a b M (fX6_streetOf N M a v1 v2) (fun M1 => fX7_streetOf N M1 b v1 v2) := by
  unfold fX6_streetOf fX7_streetOf
  refine op_st hI v1 id _ _ ?_
  rintro k t n C hk ht e1 e2 rfl hC hV hM hW
  rcases tri v2 (show 5 < 2 ^ 31 by decide) with h | ⟨w, hw, rfl⟩
  · have ne : ∀ j, j < 5 → ¬ v2 = nI j := by
      intro j hj e
      subst e
      rcases h with h | h
      · exact nI_pos (by omega) h
      · exact nI_ge hj (by decide) h
    refine Op.ref hI (w := 2) (by decide) (by decide) (-2) ?_ ?_
    · rw [if_neg (show ¬ v2 = 0 from ne 0 (by decide)), if_neg (show ¬ v2 = 1 from ne 1 (by decide)), if_neg (show ¬ v2 = 2 from ne 2 (by decide)), if_neg (show ¬ v2 = 3 from ne 3 (by decide)), if_neg (show ¬ v2 = 4 from ne 4 (by decide)), rfC2]; rfl
    · show bd _ _ = _
      rw [in_r N _ v2 0 4 (by decide) (by decide), show rg v2 0 4 = false from rg_f h (by decide), bd_some, b1_if, if_neg (by decide), rfM2]; rfl
  · refine Op.same hI (if w = 0 then nI n else if w = 1 then isum (fun p => nI (cntN (C 3 p))) n / 2 else if w = 2 then C 0 8 else if w = 3 then C 0 9 else isum (fun p => C 7 p) n / 2) ?_ ?_
    · rw [CV0 hV, CV0 hV, CV0 hV, hC.2.1, ties_c hV hC (by omega), prices_c hV hC (by omega)]
      have h5 : w = 0 ∨ w = 1 ∨ w = 2 ∨ w = 3 ∨ w = 4 := by omega
      rcases h5 with rfl | rfl | rfl | rfl | rfl <;> rfl
    · show bd _ _ = _
      rw [in_r N _ (nI w) 0 4 (by decide) (by decide), show rg (nI w) 0 4 = true from rg_t hw (by decide), bd_some, b1_if, if_pos rfl, stOf_m hM hC (by omega) hw hN]
theorem op_personOf {kp : Int32} {a b N : Nat} {M : Mem} (hI : Inv kp a b M) (hN : 4097 < N) (v1 v2 v3 : Int32) : Op kp a b M (fX6_personOf N M a v1 v2 v3) (fun M1 => fX7_personOf N M1 b v1 v2 v3) := by
  unfold fX6_personOf fX7_personOf
  refine op_sp hI v1 v2 id _ _ ?_
  rintro k t n C p hk ht e1 e2 rfl rfl hp hC hV hM hW
  have hn := hC.1.2
  rcases tri v3 (show 6 < 2 ^ 31 by decide) with h | ⟨w, hw, rfl⟩
  · have ne : ∀ j, j < 6 → ¬ v3 = nI j := by
      intro j hj e
      subst e
      rcases h with h | h
      · exact nI_pos (by omega) h
      · exact nI_ge hj (by decide) h
    refine Op.ref hI (w := 2) (by decide) (by decide) (-2) ?_ ?_
    · rw [if_neg (show ¬ v3 = 0 from ne 0 (by decide)), if_neg (show ¬ v3 = 1 from ne 1 (by decide)), if_neg (show ¬ v3 = 2 from ne 2 (by decide)), if_neg (show ¬ v3 = 3 from ne 3 (by decide)), if_neg (show ¬ v3 = 4 from ne 4 (by decide)), if_neg (show ¬ v3 = 5 from ne 5 (by decide)), rfC2]; rfl
    · show bd _ _ = _
      rw [in_r N _ v3 0 5 (by decide) (by decide), show rg v3 0 5 = false from rg_f h (by decide), bd_some, b1_if, if_neg (by decide), rfM2]; rfl
  · have e4 : ∃ x, M.1 (b + 45 + 1 + t) p = x ∧ (if x = 0 then (-1 : Int32) else x) = C 4 p := by
      refine ⟨_, rfl, ?_⟩
      rcases hW p hp with ⟨h1, h2⟩ | ⟨h1, h2, h3⟩
      · rw [h2, h1]; rfl
      · rw [h1]
        unfold wok at h3
        rw [if_neg]
        rcases h3 with ⟨h, -⟩ | ⟨h, -⟩ | ⟨h, -⟩ | ⟨h, -⟩ | ⟨h, -⟩ <;> rw [h] <;> decide
    obtain ⟨x, ex1, ex2⟩ := e4
    refine Op.same hI (if w = 0 then C 1 p else if w = 1 then C 2 p else if w = 2 then C 3 p else if w = 3 then b1 (bt (C 0 9) p) else if w = 4 then C 4 p else C 7 p) ?_ ?_
    · simp only [gd_nI (show p < 12 by omega) (show 12 < 2 ^ 31 by decide)]
      rw [nI_clamp (by omega), hV 1 (by decide), hV 2 (by decide), hV 3 (by decide), hV 4 (by decide), hV 7 (by decide), isMust_s N hV (by omega), bd_some, b1_if]
      have h5 : w = 0 ∨ w = 1 ∨ w = 2 ∨ w = 3 ∨ w = 4 ∨ w = 5 := by omega
      rcases h5 with rfl | rfl | rfl | rfl | rfl | rfl <;> try rfl
      cases bt (C 0 9) p <;> rfl
    · show bd _ _ = _
      rw [in_r N _ (nI w) 0 5 (by decide) (by decide), show rg (nI w) 0 5 = true from rg_t hw (by decide), bd_some, b1_if, if_pos rfl]
      simp only [gd_nI (show p < 12 by omega) (show 12 < 2 ^ 31 by decide), gd_nI (show t < 5 by omega) (show 5 < 2 ^ 31 by decide)]
      rw [nI_clamp (n := p) (by omega), nI_clamp (n := t) (by omega), (hM.2.2.2.1 p hp).1, (hM.2.2.2.1 p hp).2, hM.2.2.2.2.1 p (by omega), hM.2.2.1, shr1 _ (by omega), prices_m N hM hC (by omega) hp (by omega), ex1, ← ex2]
      have h5 : w = 0 ∨ w = 1 ∨ w = 2 ∨ w = 3 ∨ w = 4 ∨ w = 5 := by omega
      rcases h5 with rfl | rfl | rfl | rfl | rfl | rfl <;> try rfl
      show (if x = 0 then some (-1, M) else some (x, M)) = some ((if x = 0 then (-1 : Int32) else x), M)
      by_cases q : x = 0
      · rw [if_pos q, if_pos q]
      · rw [if_neg q, if_neg q]
