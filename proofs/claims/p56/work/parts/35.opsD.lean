/-! ===== the calls that change a street ===== -/
theorem Op.eq {kp : Int32} {a b : Nat} {M : Mem} {X X' : Option (Int32 × Mem)} {Y Y' : Mem → Option (Int32 × Mem)} (hX : X = X') (hY : ∀ M1, Up b M M1 → Y M1 = Y' M1) (h : Op kp a b M X' Y') : Op kp a b M X Y := by
  obtain ⟨r, M1, M2, h1, h2, h3, h4⟩ := h
  exact ⟨r, M1, M2, hX.trans h1, h2, (hY M1 h2).trans h3, h4⟩
theorem wC_up {a b t : Nat} {M : Mem} {C : Nat → Nat → Int32} (hab : a = 0 ∧ b = 119) (ht : t < 4) : Up b M (wC M (a + 4 + 1 + 11 + 8 * t) C) := fun x i h => ⟨wC_o (by omega) i, rfl⟩
theorem sI_up {a b x i : Nat} {M : Mem} {v : Int32} (hx : x < b) : Up b M (sI M x i v) := fun y j h => ⟨sI_o (by omega), rfl⟩
theorem RC_cost {n p k : Nat} {C : Nat → Nat → Int32} (hC : RC n C) (hk : k ≤ 99) (j : Nat) (hj : j = 1 ∨ j = 2) : RC n (vs C j p (nI k)) := by
  obtain ⟨⟨hn1, hn⟩, h2, h3, h4, h5, h6, h7, h8⟩ := hC
  refine ⟨⟨hn1, hn⟩, by rw [vs_o (by omega), h2], by rw [vs_o (by omega)]; exact h3, fun q => by rw [vs_o (by omega)]; exact h4 q, fun r hr => ?_, fun r hr s => by rw [vs_o (by omega), vs_o (by omega)]; exact h6 r hr s, fun r hr s hs => by rw [vs_o (by omega), vs_o (by omega), vs_o (by omega)]; exact h7 r hr s hs, fun r hr => ?_⟩
  · obtain ⟨a1, a2⟩ := h5 r hr
    refine ⟨?_, ?_⟩
    · by_cases q : 1 = j ∧ r = p
      · obtain ⟨rfl, rfl⟩ := q; rw [vs_s]; exact ⟨k, hk, rfl⟩
      · rw [vs_o (by omega)]; exact a1
    · by_cases q : 2 = j ∧ r = p
      · obtain ⟨rfl, rfl⟩ := q; rw [vs_s]; exact ⟨k, hk, rfl⟩
      · rw [vs_o (by omega)]; exact a2
  · rw [vs_o (by omega), h8 r hr]
    exact isum_cong (fun s hs => by rw [vs_o (by omega)])
theorem op_alter {kp : Int32} {a b N : Nat} {M : Mem} (hI : Inv kp a b M) (v1 v2 v3 v4 : Int32) : Op kp a b M (fX6_alter N M a v1 v2 v3 v4) (fun M1 => fX7_alter N M1 b v1 v2 v3 v4) := by
  unfold fX6_alter fX7_alter
  refine op_sp hI v1 v2 id _ _ ?_
  rintro k t n C p hk ht e1 e2 rfl rfl hp hC hV hM hW
  refine op_rng hI v3 0 1 (by decide) (by decide) id _ _ (fun h3 => ?_)
  refine op_rng hI v4 0 99 (by decide) (by decide) id _ _ (fun h4 => ?_)
  obtain ⟨w, -, hw, rfl⟩ := rg_nI (x := 0) (y := 1) (by decide) (by decide) h3
  obtain ⟨z, -, hz, rfl⟩ := rg_nI (x := 0) (y := 99) (by decide) (by decide) h4
  have hab := hI.1
  have hn := hC.1.2
  have go : ∀ j mj, (j = 1 ∧ mj = 21) ∨ (j = 2 ∧ mj = 27) → M.1 (b + mj + 1 + t) p = C j p →
      ∃ r M1 M2, some (M.1 (a + 4 + 1 + 11 + 8 * t + j) p, sI M (a + 4 + 1 + 11 + 8 * t + j) p (nI z)) = some (r, M1) ∧ Up b M M1 ∧ some (M1.1 (b + mj + 1 + t) p, sI M1 (b + mj + 1 + t) p (nI z)) = some (r, M2) ∧ Inv kp a b M2 := by
    intro j mj hj hm
    refine ⟨_, _, sI (sI M (a + 4 + 1 + 11 + 8 * t + j) p (nI z)) (b + mj + 1 + t) p (nI z), rfl, sI_up (a := a) (by omega), ?_, ?_⟩
    · rw [sI_o (by omega), hm, hV j (by omega)]
    · refine Inv_st hI e1 hk ht (fun x i hx => ?_) (fun _ _ => rfl) ⟨n, vs C j p (nI z), RC_cost hC hz j (by omega), ?_, ?_, ?_⟩
      · rw [sI_o (by unfold EX at hx; omega), sI_o (by unfold EX at hx; omega)]
      · exact CV_fr (fun j' hj' i => sI_o (by omega)) (CV_vs hV p (nI z))
      · obtain ⟨g1, g2, g3, g4, g5, g6⟩ := hM
        refine ⟨by rw [sI_o (by omega), sI_o (by omega), g1], by rw [sI_o (by omega), sI_o (by omega), g2, vs_o (by omega)], by rw [sI_o (by omega), sI_o (by omega), g3, vs_o (by omega)], fun r hr => ⟨?_, ?_⟩, fun r hr => by rw [sI_o (by omega), sI_o (by omega), vs_o (by omega)]; exact g5 r hr, fun r hr => by rw [sI_o (by omega), sI_o (by omega), vs_o (by omega)]; exact g6 r hr⟩
        · by_cases q : j = 1 ∧ r = p
          · obtain ⟨rfl, rfl⟩ := q
            have e : mj = 21 := by omega
            subst e
            rw [sI_s, vs_s]
          · rw [sI_o (by omega), sI_o (by omega), vs_o (by omega)]; exact (g4 r hr).1
        · by_cases q : j = 2 ∧ r = p
          · obtain ⟨rfl, rfl⟩ := q
            have e : mj = 27 := by omega
            subst e
            rw [sI_s, vs_s]
          · rw [sI_o (by omega), sI_o (by omega), vs_o (by omega)]; exact (g4 r hr).2
      · intro r hr
        rw [sI_o (by omega), sI_o (by omega), sI_o (by omega), sI_o (by omega), vs_o (by omega), vs_o (by omega)]
        exact hW r hr
  have h2 : w = 0 ∨ w = 1 := by omega
  rcases h2 with rfl | rfl
  · obtain ⟨r, M1, M2, q1, q2, q3, q4⟩ := go 1 21 (Or.inl ⟨rfl, rfl⟩) (hM.2.2.2.1 p hp).1
    refine ⟨r, M1, M2, ?_, q2, ?_, q4⟩
    · rw [if_pos (show nI 0 = 0 from rfl), gd_nI (by omega) (by decide), nm_eq, nm_eq, nI_clamp (by omega)]; exact q1
    · show (if nI 0 = 0 then _ else _) = _
      rw [if_pos (show nI 0 = 0 from rfl), gd_nI (by omega) (by decide), gd_nI (by omega) (by decide), nm_eq, nm_eq, nI_clamp (n := t) (by omega), nI_clamp (n := p) (by omega)]; exact q3
  · obtain ⟨r, M1, M2, q1, q2, q3, q4⟩ := go 2 27 (Or.inr ⟨rfl, rfl⟩) (hM.2.2.2.1 p hp).2
    refine ⟨r, M1, M2, ?_, q2, ?_, q4⟩
    · rw [if_neg (show ¬ nI 1 = 0 by decide), gd_nI (by omega) (by decide), nm_eq, nm_eq, nI_clamp (by omega)]; exact q1
    · show (if nI 1 = 0 then _ else _) = _
      rw [if_neg (show ¬ nI 1 = 0 by decide), gd_nI (by omega) (by decide), gd_nI (by omega) (by decide), nm_eq, nm_eq, nI_clamp (n := t) (by omega), nI_clamp (n := p) (by omega)]; exact q3
/-! must -/
theorem RC_must {n : Nat} {C : Nat → Nat → Int32} {x : Int32} (hC : RC n C) (hx : ∀ q, bt x q = true → q < n) : RC n (vs C 0 9 x) := by
  obtain ⟨⟨hn1, hn⟩, h2, h3, h4, h5, h6, h7, h8⟩ := hC
  refine ⟨⟨hn1, hn⟩, by rw [vs_o (by omega), h2], by rw [vs_o (by omega)]; exact h3, fun q => by rw [vs_s]; exact hx q, fun r hr => by rw [vs_o (by omega), vs_o (by omega)]; exact h5 r hr, fun r hr s => by rw [vs_o (by omega), vs_o (by omega)]; exact h6 r hr s, fun r hr s hs => by rw [vs_o (by omega), vs_o (by omega), vs_o (by omega)]; exact h7 r hr s hs, fun r hr => ?_⟩
  rw [vs_o (by omega), h8 r hr]
  exact isum_cong (fun s hs => by rw [vs_o (by omega)])
theorem must_op {kp : Int32} {a b k t n : Nat} {M : Mem} {C : Nat → Nat → Int32} {x : Int32} (hI : Inv kp a b M) (e1 : M.1 (a + 4) 3 = nI k) (hk : k ≤ 4) (ht : t < k) (hC : RC n C) (hV : CV M (a + 4 + 1 + 11 + 8 * t) C) (hM : MV M b t n C) (hW : WV M b t n C) (hx : ∀ q, bt x q = true → q < n) : Inv kp a b (sI (sI M (a + 4 + 1 + 11 + 8 * t) 9 x) (b + 20) t x) := by
  have hab := hI.1
  refine Inv_st hI e1 hk ht (fun y i hy => ?_) (fun _ _ => rfl) ⟨n, vs C 0 9 x, RC_must hC hx, ?_, ?_, ?_⟩
  · rw [sI_o (by unfold EX at hy; omega), sI_o (by unfold EX at hy; omega)]
  · exact CV_fr (fun j' hj' i => sI_o (by omega)) (CV_vs hV (j := 0) 9 x)
  · obtain ⟨g1, g2, g3, g4, g5, g6⟩ := hM
    exact ⟨by rw [sI_o (by omega), sI_o (by omega), g1], by rw [sI_o (by omega), sI_o (by omega), g2, vs_o (by omega)], by rw [sI_s, vs_s], fun r hr => by rw [sI_o (by omega), sI_o (by omega), sI_o (by omega), sI_o (by omega), vs_o (by omega), vs_o (by omega)]; exact g4 r hr, fun r hr => by rw [sI_o (by omega), sI_o (by omega), vs_o (by omega)]; exact g5 r hr, fun r hr => by rw [sI_o (by omega), sI_o (by omega), vs_o (by omega)]; exact g6 r hr⟩
  · intro r hr
    rw [sI_o (by omega), sI_o (by omega), sI_o (by omega), sI_o (by omega), vs_o (by omega), vs_o (by omega)]
    exact hW r hr
theorem op_must {kp : Int32} {a b N : Nat} {M : Mem} (hI : Inv kp a b M) (v1 v2 v3 : Int32) : Op kp a b M (fX6_must N M a v1 v2 v3) (fun M1 => fX7_must N M1 b v1 v2 v3) := by
  unfold fX6_must fX7_must
  refine op_sp hI v1 v2 id _ _ ?_
  rintro k t n C p hk ht e1 e2 rfl rfl hp hC hV hM hW
  have hab := hI.1
  have hn := hC.1.2
  have go : ∀ x, (∀ q, bt x q = true → q < n) → ∀ r, Op kp a b M (some (r, sI M (a + 4 + 1 + 11 + 8 * t) 9 x)) (fun M1 => some (r, sI M1 (b + 20) t x)) := fun x hx r => ⟨r, _, _, rfl, sI_up (a := a) (by omega), rfl, must_op hI e1 hk ht hC hV hM hW hx⟩
  refine Op.eq ?_ ?_ (go (if v3 = 0 then C 0 9 &&& (nI (2 ^ p) ^^^ (-1)) else C 0 9 ||| nI (2 ^ p)) ?_ (b1 (bt (C 0 9) p)))
  · rw [isMust_s N hV (by omega), bd_some, b1_if]
    unfold fX4_setMust
    rw [nm_eq, sh1 (by omega), CV0 hV]
    by_cases q : v3 = 0
    · rw [if_pos q, if_pos q]; cases bt (C 0 9) p <;> rfl
    · rw [if_neg q, if_neg q]; cases bt (C 0 9) p <;> rfl
  · intro M1 hu
    show gd _ _ _ = _
    rw [gd_nI (by omega) (by decide), nm_eq, nI_clamp (by omega), (hu _ _ (by omega)).1, hM.2.2.1, shr1 _ (by omega), sh1 (by omega)]
    by_cases q : v3 = 0
    · rw [if_pos q, if_pos q]; rfl
    · rw [if_neg q, if_neg q]; rfl
  · intro q hq
    by_cases h : v3 = 0
    · rw [if_pos h, off_bits _ (by omega)] at hq
      by_cases h2 : q = p
      · rw [if_pos h2] at hq; cases hq
      · rw [if_neg h2] at hq; exact hC.2.2.2.1 q hq
    · rw [if_neg h, or_bits _ (by omega)] at hq
      by_cases h2 : q = p
      · omega
      · rw [if_neg h2] at hq; exact hC.2.2.2.1 q hq
/-! tie -/
theorem tg_op {kp : Int32} {a b k t n p q : Nat} {M : Mem} {C : Nat → Nat → Int32} {A B v : Int32} (hI : Inv kp a b M) (e1 : M.1 (a + 4) 3 = nI k) (hk : k ≤ 4) (ht : t < k) (hC' : RC n (tgC C p q A B v)) (hV : CV M (a + 4 + 1 + 11 + 8 * t) C) (hM : MV M b t n C) (hW : WV M b t n C) : Inv kp a b (tgM (wC M (a + 4 + 1 + 11 + 8 * t) (tgC C p q A B v)) b t p q A B v) := by
  have hab := hI.1
  have hu := wC_up (M := M) (C := tgC C p q A B v) hab (show t < 4 by omega)
  refine Inv_st hI e1 hk ht (fun y i hy => ?_) (fun _ _ => rfl) ⟨n, tgC C p q A B v, hC', ?_, ?_, ?_⟩
  · rw [tgM_o (by unfold EX at hy; omega) (by unfold EX at hy; omega), wC_o (by unfold EX at hy; omega)]
  · exact CV_fr (fun j' hj' i => tgM_o (by omega) (by omega)) (wC_CV M _ _)
  · exact MV_tg (MV_fr (by omega) (fun x i p q => (hu x i (by omega)).1) hM) (by omega)
  · exact WV_tg (WV_fr (by omega) (fun x i p q => (hu x i (by omega)).1) hW) (by omega)
theorem or_off (x : Int32) {q : Nat} (hq : q < 32) : (x ||| nI (2 ^ q)) &&& (nI (2 ^ q) ^^^ (-1)) = x &&& (nI (2 ^ q) ^^^ (-1)) := by
  apply b_ext; intro i _
  rw [off_bits _ hq, off_bits _ hq, or_bits _ hq]
  by_cases h : i = q
  · rw [if_pos h, if_pos h]
  · rw [if_neg h, if_neg h, if_neg h]
/-- the reference's tie cut: its four cells -/
theorem tgM_cut {M : Mem} {m t n p q : Nat} {C : Nat → Nat → Int32} (hM : MV M m t n C) (hp : p < 12) (hq : q < 12) (hpq : p ≠ q) (ht : t < 5) :
    sI (sI (tgM M m t p q (C 3 p ||| nI (2 ^ q)) (C 3 q ||| nI (2 ^ p)) 0) (m + 33 + 1 + t) p (C 3 p &&& (nI (2 ^ q) ^^^ (-1)))) (m + 33 + 1 + t) q (C 3 q &&& (nI (2 ^ p) ^^^ (-1))) = tgM M m t p q (C 3 p &&& (nI (2 ^ q) ^^^ (-1))) (C 3 q &&& (nI (2 ^ p) ^^^ (-1))) 0 := mem_ext (fun x i => by
  by_cases h : x = m + 33 + 1 + t
  · subst h
    rw [tgM_3]
    by_cases h1 : i = q
    · subst h1; rw [sI_s, if_pos rfl]
    · rw [sI_o (Or.inr h1), if_neg h1]
      by_cases h2 : i = p
      · subst h2; rw [sI_s, if_pos rfl]
      · rw [sI_o (Or.inr h2), if_neg h2, tgM_3, if_neg h1, if_neg h2]
  · rw [sI_o (Or.inl h), sI_o (Or.inl h)]
    by_cases h2 : x = m + 39 + 1 + t
    · subst h2; rw [tgM_6, tgM_6]
    · rw [tgM_o h h2, tgM_o h h2]) (fun _ _ => rfl)
/-- the reference's tie, when all is as it may be -/
def tiM (M : Mem) (m t p q : Nat) (C : Nat → Nat → Int32) (v : Int32) : Mem := if v = -1 then tgM M m t p q (C 3 p &&& (nI (2 ^ q) ^^^ (-1))) (C 3 q &&& (nI (2 ^ p) ^^^ (-1))) 0 else tgM M m t p q (C 3 p ||| nI (2 ^ q)) (C 3 q ||| nI (2 ^ p)) v
theorem tie_m {N : Nat} {M : Mem} {m t n p q k : Nat} {C : Nat → Nat → Int32} (h : M.1 m 10 = nI k) (hk : k < 5) (ht : t < k) (hM : MV M m t n C) (hC : RC n C) (hp : p < n) (hq : q < n) (hpq : p ≠ q) {v : Int32} (hv : rg v (-1) 9 = true) :
    fX7_tie N M m (nI t) (nI p) (nI q) v = some ((if bt (C 3 p) q = true then C 6 (12 * p + q) else -1), tiM M m t p q C v) := by
  have hn := hC.1.2
  unfold fX7_tie tiM
  have e : nI p * (12 : Int32) + nI q = nI (12 * p + q) := by rw [show (12 : Int32) = nI 12 from rfl, pk_mul, nI_add, Nat.mul_comm]
  have key : ∀ r : Int32, (if v = -1 then bd (fX7_tieThem N M m (nI t) (nI p) (nI q) 0) (fun r20 => if v = -1 then nm (sI r20 (m + 33 + 1 + t) p ((r20.1 (m + 33 + 1 + t) p) &&& (nI (2 ^ q) ^^^ (-1)))) (fun M22 => nm (sI M22 (m + 33 + 1 + t) q ((M22.1 (m + 33 + 1 + t) q) &&& (nI (2 ^ p) ^^^ (-1)))) (fun M24 => some (r, M24))) else some (r, r20)) else bd (fX7_tieThem N M m (nI t) (nI p) (nI q) v) (fun r20 => if v = -1 then nm (sI r20 (m + 33 + 1 + t) p ((r20.1 (m + 33 + 1 + t) p) &&& (nI (2 ^ q) ^^^ (-1)))) (fun M22 => nm (sI M22 (m + 33 + 1 + t) q ((M22.1 (m + 33 + 1 + t) q) &&& (nI (2 ^ p) ^^^ (-1)))) (fun M24 => some (r, M24))) else some (r, r20))) = some (r, if v = -1 then tgM M m t p q (C 3 p &&& (nI (2 ^ q) ^^^ (-1))) (C 3 q &&& (nI (2 ^ p) ^^^ (-1))) 0 else tgM M m t p q (C 3 p ||| nI (2 ^ q)) (C 3 q ||| nI (2 ^ p)) v) := by
    intro r
    by_cases hv1 : v = -1
    · rw [if_pos hv1, tieThem_m hM (by omega) (by omega) (by omega) hpq, bd_some, if_pos hv1, if_pos hv1, nm_eq, nm_eq, tgM_3, if_neg hpq, if_pos rfl, sI_o (Or.inr (fun x => hpq x.symm)), tgM_3, if_pos rfl, or_off _ (by omega), or_off _ (by omega), tgM_cut hM (by omega) (by omega) hpq (by omega)]
    · rw [if_neg hv1, tieThem_m hM (by omega) (by omega) (by omega) hpq, bd_some, if_neg hv1, if_neg hv1]
  rw [isPerson_y N h hk ht hM hn hp, bd_some, if_neg (by decide), isPerson_y N h hk ht hM hn hq, bd_some, if_neg (by decide), if_neg (fun x => hpq ((nI_eq (by omega) (by omega)).mp x)), in_r N M v (-1) 9 (by decide) (by decide), hv, bd_some, b1_if, if_pos rfl]
  simp only [gd_nI (show t < 5 by omega) (show 5 < 2 ^ 31 by decide), gd_nI (show p < 12 by omega) (show 12 < 2 ^ 31 by decide), gd_nI (show q < 12 by omega) (show 12 < 2 ^ 31 by decide), nI_clamp (show t < 2 ^ 31 by omega), nI_clamp (show p < 2 ^ 31 by omega), nI_clamp (show q < 2 ^ 31 by omega), e, gd_nI (show 12 * p + q < 144 by omega) (show 144 < 2 ^ 31 by decide), nI_clamp (show 12 * p + q < 2 ^ 31 by omega), hM.2.2.2.2.1 p (by omega), shr1 _ (show q < 32 by omega), b1_if, sh1 (show q < 32 by omega), sh1 (show p < 32 by omega), hM.2.2.2.2.2 _ (show 12 * p + q < 144 by omega)]
  cases bt (C 3 p) q
  · simp only [Bool.false_eq_true, if_false]
    exact key (-1)
  · rw [if_pos rfl, if_pos rfl]
    rw [nm_eq]
    exact key _
theorem op_tie {kp : Int32} {a b N : Nat} {M : Mem} (hI : Inv kp a b M) (v1 v2 v3 v4 : Int32) : Op kp a b M (fX6_tie N M a v1 v2 v3 v4) (fun M1 => fX7_tie N M1 b v1 v2 v3 v4) := by
  have hab := hI.1
  rcases st_cases hI v1 with ⟨k, hk, e1, e2, hv⟩ | ⟨k, t, n, C, hk, ht, e1, e2, rfl, hC, hV, hM, hW⟩
  · refine Op.ref hI (w := 2) (by decide) (by decide) (-2) ?_ ?_
    · unfold fX6_tie; rw [streetAt_n e1 hv, bd_some, onO_none, rfC2]; rfl
    · show fX7_tie N _ b v1 v2 v3 v4 = _
      unfold fX7_tie
      rw [isPerson_no N (k := k) (by rw [rC_o (by omega), e2]) (by omega) hv, bd_some, if_pos rfl, rfM2]; rfl
  have hn := hC.1.2
  have e2' : (rC a M 2).1 b 10 = nI k := by rw [rC_o (by omega), e2]
  have hM' : MV (rC a M 2) b t n C := MV_rC hab (by omega) hM
  rcases tri v2 (show n < 2 ^ 31 by omega) with h2 | ⟨p, hp, rfl⟩
  · refine Op.ref hI (w := 2) (by decide) (by decide) (-2) ?_ ?_
    · unfold fX6_tie fX4_hasPair
      rw [streetAt_y e1 hk ht, bd_some, onO_some, gc_of (kd_street hab.1 (by omega)), hasP_n N hV hC h2, bd_some, if_pos rfl, bd_some, if_pos rfl, rfC2]; rfl
    · show fX7_tie N _ b _ v2 v3 v4 = _
      unfold fX7_tie
      rw [isPerson_n N e2' (by omega) ht hM' hn h2, bd_some, if_pos rfl, rfM2]; rfl
  rcases tri v3 (show n < 2 ^ 31 by omega) with h3 | ⟨q, hq, rfl⟩
  · refine Op.ref hI (w := 2) (by decide) (by decide) (-2) ?_ ?_
    · unfold fX6_tie fX4_hasPair
      rw [streetAt_y e1 hk ht, bd_some, onO_some, gc_of (kd_street hab.1 (by omega)), hasP_y N hV hC hp, bd_some, if_neg (by decide), hasP_n N hV hC h3, bd_some, if_pos rfl, bd_some, if_pos rfl, rfC2]; rfl
    · show fX7_tie N _ b _ _ v3 v4 = _
      unfold fX7_tie
      rw [isPerson_y N e2' (by omega) ht hM' hn hp, bd_some, if_neg (by decide), isPerson_n N e2' (by omega) ht hM' hn h3, bd_some, if_pos rfl, rfM2]; rfl
  by_cases hpq : p = q
  · subst hpq
    refine Op.ref hI (w := 2) (by decide) (by decide) (-2) ?_ ?_
    · unfold fX6_tie fX4_hasPair
      rw [streetAt_y e1 hk ht, bd_some, onO_some, gc_of (kd_street hab.1 (by omega)), hasP_y N hV hC hp, bd_some, if_neg (by decide), bd_some, if_neg (by decide), if_pos rfl, bd_some, if_pos rfl, rfC2]; rfl
    · show fX7_tie N _ b _ _ _ v4 = _
      unfold fX7_tie
      rw [isPerson_y N e2' (by omega) ht hM' hn hp, bd_some, if_neg (by decide), bd_some, if_neg (by decide), if_pos rfl, rfM2]; rfl
  cases e4 : rg v4 (-1) 9
  · refine Op.ref hI (w := 2) (by decide) (by decide) (-2) ?_ ?_
    · unfold fX6_tie
      rw [streetAt_y e1 hk ht, bd_some, onO_some, gc_of (kd_street hab.1 (by omega)), hasPair_y N hV hC hp hq hpq, bd_some, if_neg (by decide), within_r, e4, bd_some, b1_if, if_neg (by decide), rfC2]; rfl
    · show fX7_tie N _ b _ _ _ v4 = _
      unfold fX7_tie
      rw [isPerson_y N e2' (by omega) ht hM' hn hp, bd_some, if_neg (by decide), isPerson_y N e2' (by omega) ht hM' hn hq, bd_some, if_neg (by decide), if_neg (fun x => hpq ((nI_eq (by omega) (by omega)).mp x)), in_r N _ v4 (-1) 9 (by decide) (by decide), e4, bd_some, b1_if, if_neg (by decide), rfM2]; rfl
  have hX : fX6_tie N M a (nI t) (nI p) (nI q) v4 = some ((if bt (C 3 p) q = true then C 6 (12 * p + q) else -1), wC M (a + 4 + 1 + 11 + 8 * t) (if v4 = -1 then ptC C p q else jnC C p q v4)) := by
    unfold fX6_tie
    rw [streetAt_y e1 hk ht, bd_some, onO_some, gc_of (kd_street hab.1 (by omega)), hasPair_y N hV hC hp hq hpq, bd_some, if_neg (by decide), within_r, e4, bd_some, b1_if, if_pos rfl, priceOf_c hV hC hp hq hpq, bd_some]
    by_cases h1 : v4 = -1
    · rw [if_pos h1, part_c hV hC hp hq hpq, bd_some, if_pos h1]
    · rw [if_neg h1, join_c hV hC hp hq hpq, bd_some, if_neg h1]
  have hu : Up b M (wC M (a + 4 + 1 + 11 + 8 * t) (if v4 = -1 then ptC C p q else jnC C p q v4)) := wC_up hab (show t < 4 by omega)
  refine ⟨_, _, _, hX, hu, tie_m (by rw [(hu b 10 (Nat.le_refl b)).1, e2]) (by omega) ht (MV_fr (by omega) (fun x i p q => (hu x i (by omega)).1) hM) hC hp hq hpq e4, ?_⟩
  unfold tiM
  by_cases h1 : v4 = -1
  · rw [if_pos h1, if_pos h1]
    exact tg_op hI e1 hk ht (RC_pt hC hp hq hpq) hV hM hW
  · rw [if_neg h1, if_neg h1]
    refine tg_op hI e1 hk ht (RC_jn hC hp hq hpq ?_) hV hM hW
    have h0 : ¬ v4 < 0 := by
      unfold rg at e4
      rw [Bool.and_eq_true, decide_eq_true_eq, decide_eq_true_eq] at e4
      rw [fa_le] at e4
      rw [fa_lt]
      intro h
      apply h1
      rw [fa_eq]
      have a1 : (-1 : Int32).toInt = -1 := by decide
      have a2 : (0 : Int32).toInt = 0 := by decide
      omega
    obtain ⟨j, hj, rfl⟩ := nI_of h0
    unfold rg at e4
    rw [Bool.and_eq_true, decide_eq_true_eq, decide_eq_true_eq] at e4
    exact ⟨j, (nI_leI hj (by decide : 9 < 2 ^ 31)).mp e4.2, rfl⟩
