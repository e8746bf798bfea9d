/-! ===== in turn: the reference, and the three calls ===== -/
theorem rnd_hi (C : Nat → Nat → Int32) (d : Int32) : ∀ p, p ≤ 32 → ∀ i, p ≤ i → bt (rnd C d p) i = bt d i
  | 0, _, i, _ => rfl
  | p + 1, hp, i, hi => by
    rw [rnd]
    by_cases q : wld C p (rnd C d p) = true
    · rw [if_pos q, bt_xorp _ (by omega), decide_eq_false (by omega), rnd_hi C d p (by omega) i (by omega)]; cases bt d i <;> rfl
    · rw [if_neg q, rnd_hi C d p (by omega) i (by omega)]
theorem cnt_rnd (C : Nat → Nat → Int32) (d : Int32) {p : Nat} (hp : p < 32) : cntN (d ^^^ rnd C d (p + 1)) = cntN (d ^^^ rnd C d p) + (if wld C p (rnd C d p) = true then 1 else 0) := by
  rw [rnd]
  by_cases q : wld C p (rnd C d p) = true
  · rw [if_pos q, if_pos q]
    refine cnt_add hp ?_ (fun i => ?_)
    · rw [b_xor, rnd_hi C d p (by omega) p (Nat.le_refl p)]; cases bt d p <;> rfl
    · rw [b_xor, bt_xorp _ hp, b_xor]
      by_cases r : i = p
      · subst r
        rw [rnd_hi C d i (by omega) i (Nat.le_refl i), decide_eq_true rfl]; cases bt d i <;> rfl
      · rw [decide_eq_false r]; cases bt d i <;> cases bt (rnd C d p) i <;> rfl
  · rw [if_neg q, if_neg q]; rfl
theorem xor_self0 (d : Int32) : cntN (d ^^^ d) = 0 := cnt_zero.mpr (by apply b_ext; intro i _; rw [b_xor, b_0]; cases bt d i <;> rfl)
theorem xor_eq {x y : Int32} : cntN (x ^^^ y) = 0 ↔ x = y := by
  rw [cnt_zero]
  constructor
  · intro h
    apply b_ext; intro i _
    have a : bt (x ^^^ y) i = false := by rw [h, b_0]
    rw [b_xor] at a
    revert a; cases bt x i <;> cases bt y i <;> simp
  · intro h; subst h
    apply b_ext; intro i _; rw [b_xor, b_0]; cases bt x i <;> rfl
theorem inner_m {N : Nat} {M : Mem} {m t n : Nat} {C : Nat → Nat → Int32} (hM : MV M m t n C) (hC : RC n C) (ht : t < 5) (d w : Int32) (K : Int32 → Int32 → Option Mem) (hN : 4097 < N) : fX7_inTurn_38 N M m (nI t) w K N d 0 0 = K (rnd C d n) (nI (cntN (d ^^^ rnd C d n))) := by
  have hn := hC.1.2
  obtain ⟨k, hk⟩ := lp (fun k (s : Int32 × Int32 × Int32) => fX7_inTurn_38 N M m (nI t) w K k s.1 s.2.1 s.2.2) (fun p => (rnd C d p, nI (cntN (d ^^^ rnd C d p)), nI p)) n (fun k p hp => by
    show fX7_inTurn_38 N M m (nI t) w K (k + 1) (rnd C d p) (nI (cntN (d ^^^ rnd C d p))) (nI p) = fX7_inTurn_38 N M m (nI t) w K k (rnd C d (p + 1)) (nI (cntN (d ^^^ rnd C d (p + 1)))) (nI (p + 1))
    rw [fX7_inTurn_38, gd_nI ht (by decide), nI_clamp (n := t) (by omega), hM.1, if_neg (nI_ge hp (by omega)), would_m N hM hC ht hp _ (by omega), bd_some, b1_if, nm_eq, sh1 (by omega), nI_1, nI_1, cnt_rnd C d (by omega), rnd]
    by_cases q : wld C p (rnd C d p) = true
    · rw [if_pos q, if_pos q, if_pos q]
    · rw [if_neg q, if_neg q, if_neg q]; rfl) (N := N) (by omega)
  refine Eq.trans ?_ (hk.trans ?_)
  · show fX7_inTurn_38 N M m (nI t) w K N d 0 0 = fX7_inTurn_38 N M m (nI t) w K N d (nI (cntN (d ^^^ d))) (nI 0)
    rw [xor_self0]; rfl
  · show fX7_inTurn_38 N M m (nI t) w K (k + 1) _ _ (nI n) = _
    rw [fX7_inTurn_38, gd_nI ht (by decide), nI_clamp (n := t) (by omega), hM.1, if_pos (nI_le (Nat.le_refl n) (by omega))]
theorem find_m {N : Nat} {M : Mem} {m u : Nat} {t : Int32} (x : Int32) (K : Unit → Option Mem) (hu : u ≤ 4097) (hN : 4097 < N) : fX7_inTurn_104 N M m t x (nI u) K N 0 = if fa_first (fun k => decide (M.1 (m + 58) k = x)) u < u then some (sI M m 36 (nI u - nI (fa_first (fun k => decide (M.1 (m + 58) k = x)) u))) else K () := by
  refine lp_first (fun k (s : Int32) => fX7_inTurn_104 N M m t x (nI u) K k s) nI (fun k => decide (M.1 (m + 58) k = x)) u (fun k => some (sI M m 36 (nI u - nI k))) (K ()) (fun k p hp h => ?_) (fun k p hp h => ?_) (fun k => ?_) (N := N) (by omega)
  · show fX7_inTurn_104 N M m t x (nI u) K (k + 1) (nI p) = fX7_inTurn_104 N M m t x (nI u) K k (nI (p + 1))
    rw [fX7_inTurn_104, if_neg (nI_ge hp (by omega)), gd_nI (by omega) (by decide), nI_clamp (by omega), if_neg (of_decide_eq_false h), nI_1]
  · show fX7_inTurn_104 N M m t x (nI u) K (k + 1) (nI p) = _
    rw [fX7_inTurn_104, if_neg (nI_ge hp (by omega)), gd_nI (by omega) (by decide), nI_clamp (by omega), if_pos (of_decide_eq_true h)]; rfl
  · show fX7_inTurn_104 N M m t x (nI u) K (k + 1) (nI u) = _
    rw [fX7_inTurn_104, if_pos (nI_le (Nat.le_refl u) (by omega))]
def RunM (M M' : Mem) (m : Nat) (C : Nat → Nat → Int32) (n : Nat) (d : Int32) (e j : Nat) : Prop :=
  M'.1 m 34 = xs C n d (e + 1) ∧ M'.1 m 35 = isum (chg C n d) (e + 1) ∧ M'.1 m 36 = nI (if j = e then 0 else e + 1 - j) ∧ (∀ x i, x ≠ m + 58 → (x ≠ m ∨ (i ≠ 34 ∧ i ≠ 35 ∧ i ≠ 36)) → M'.1 x i = M.1 x i) ∧ (∀ x i, M'.2 x i = M.2 x i)
theorem turn_m {N : Nat} {M : Mem} {m t n : Nat} {C : Nat → Nat → Int32} (hM : MV M m t n C) (hC : RC n C) (ht : t < 5) {s d : Int32} (hs : s ||| C 0 9 = d) {e j : Nat} (he : e < 4096) (hj : j ≤ e) (h2 : xs C n d j = xs C n d (e + 1)) (hno : ∀ i k, i < k → k ≤ e → xs C n d i ≠ xs C n d k) (hN : 4097 < N) : ∃ M', fX7_inTurn N M m (nI t) s = some M' ∧ RunM M M' m C n d e j := by
  have hn := hC.1.2
  unfold fX7_inTurn
  rw [gd_nI ht (by decide), nI_clamp (by omega), hM.2.2.1, hs, nm_eq, nm_eq, nm_eq, nm_eq]
  have hMV : ∀ Mr : Mem, (∀ x i, x ≠ m + 58 → (x ≠ m ∨ (i ≠ 34 ∧ i ≠ 35 ∧ i ≠ 36)) → Mr.1 x i = M.1 x i) → MV Mr m t n C := fun Mr f => MV_fr ht (fun x i h1 h2 => f x i (by omega) (by omega)) hM
  -- a round
  have step : ∀ (k r : Nat) (Mr : Mem), r ≤ e → (∀ x i, x ≠ m + 58 → (x ≠ m ∨ (i ≠ 34 ∧ i ≠ 35 ∧ i ≠ 36)) → Mr.1 x i = M.1 x i) → (∀ x i, Mr.2 x i = M.2 x i) → Mr.1 m 35 = isum (chg C n d) r → Mr.1 m 36 = 0 → (∀ i, i ≤ r → Mr.1 (m + 58) i = xs C n d i) →
      ∃ Ms : Mem, (∀ x i, x ≠ m + 58 → (x ≠ m ∨ (i ≠ 34 ∧ i ≠ 35 ∧ i ≠ 36)) → Ms.1 x i = M.1 x i) ∧ (∀ x i, Ms.2 x i = M.2 x i) ∧ Ms.1 m 34 = xs C n d (r + 1) ∧ Ms.1 m 35 = isum (chg C n d) (r + 1) ∧ Ms.1 m 36 = 0 ∧ (∀ i, i ≤ r → Ms.1 (m + 58) i = xs C n d i) ∧
        fX7_inTurn_29 N m (nI t) (k + 1) Mr (xs C n d r) (nI r) = if xs C n d (r + 1) = xs C n d r then some Ms else if fa_first (fun k => decide (Ms.1 (m + 58) k = xs C n d (r + 1))) (r + 1) < r + 1 then some (sI Ms m 36 (nI (r + 1) - nI (fa_first (fun k => decide (Ms.1 (m + 58) k = xs C n d (r + 1))) (r + 1)))) else fX7_inTurn_29 N m (nI t) k (sI Ms (m + 58) (r + 1) (xs C n d (r + 1))) (xs C n d (r + 1)) (nI (r + 1)) := by
    intro k r Mr hr f1 f2 g1 g2 g3
    refine ⟨sI (sI Mr m 35 (isum (chg C n d) (r + 1))) m 34 (xs C n d (r + 1)), fun x i h1 h2 => ?_, fun x i => f2 x i, sI_s, ?_, ?_, fun i hi => ?_, ?_⟩
    · rw [sI_o (by omega), sI_o (by omega), f1 x i h1 h2]
    · rw [sI_o (by omega), sI_s]
    · rw [sI_o (by omega), sI_o (by omega), g2]
    · rw [sI_o (by omega), sI_o (by omega), g3 i hi]
    · have ei : isum (chg C n d) r + nI (cntN (xs C n d r ^^^ rnd C (xs C n d r) n)) = isum (chg C n d) (r + 1) := rfl
      rw [fX7_inTurn_29, inner_m (hMV Mr f1) hC ht _ _ _ hN, g1, ei, nm_eq, nm_eq, nI_1]
      show (if nI (cntN (xs C n d r ^^^ xs C n d (r + 1))) = 0 then _ else _) = _
      have hx : cntN (xs C n d r ^^^ xs C n d (r + 1)) < 2 ^ 31 := Nat.lt_of_le_of_lt (cnt_le _) (by decide)
      by_cases z : xs C n d (r + 1) = xs C n d r
      · rw [if_pos ((nI_eq0 hx).mpr (xor_eq.mpr z.symm)), if_pos z]; rfl
      · rw [if_neg (fun w => z (xor_eq.mp ((nI_eq0 hx).mp w)).symm), if_neg z, find_m _ _ (by omega) hN, gd_nI (by omega) (by decide), nm_eq, nI_clamp (by omega)]; rfl
  obtain ⟨k, ⟨Mr, w3, w4⟩, ⟨i1, i2, i3, i4, i5, i6, i7⟩, hk⟩ := lpI (fun k (s : Mem × Int32 × Int32) => fX7_inTurn_29 N m (nI t) k s.1 s.2.1 s.2.2)
    (fun r (s : Mem × Int32 × Int32) => s.2.1 = xs C n d r ∧ s.2.2 = nI r ∧ (∀ x i, x ≠ m + 58 → (x ≠ m ∨ (i ≠ 34 ∧ i ≠ 35 ∧ i ≠ 36)) → s.1.1 x i = M.1 x i) ∧ (∀ x i, s.1.2 x i = M.2 x i) ∧ s.1.1 m 35 = isum (chg C n d) r ∧ s.1.1 m 36 = 0 ∧ (∀ i, i ≤ r → s.1.1 (m + 58) i = xs C n d i)) e (fun k r s hr hi => by
      obtain ⟨Mr, w3, w4⟩ := s
      obtain ⟨j1, j2, j3, j4, j5, j6, j7⟩ := hi
      dsimp only at j1 j2 j3 j4 j5 j6 j7
      subst j1; subst j2
      obtain ⟨Ms, a1, a2, a3, a4, a5, a6, a7⟩ := step k r Mr (by omega) j3 j4 j5 j6 j7
      refine ⟨(sI Ms (m + 58) (r + 1) (xs C n d (r + 1)), xs C n d (r + 1), nI (r + 1)), ⟨rfl, rfl, fun x i h1 h2 => by rw [sI_o (Or.inl h1)]; exact a1 x i h1 h2, a2, by rw [sI_o (by omega)]; exact a4, by rw [sI_o (by omega)]; exact a5, fun i hi => ?_⟩, ?_⟩
      · by_cases q : i = r + 1
        · subst q; rw [sI_s]
        · rw [sI_o (Or.inr q)]; exact a6 i (by omega)
      · show fX7_inTurn_29 N m (nI t) (k + 1) Mr (xs C n d r) (nI r) = fX7_inTurn_29 N m (nI t) k _ (xs C n d (r + 1)) (nI (r + 1))
        rw [a7, if_neg (fun z => hno r (r + 1) (by omega) (by omega) z.symm), if_neg]
        intro q
        have b := of_decide_eq_true (fa_first_yes (fun k => decide (Ms.1 (m + 58) k = xs C n d (r + 1))) (r + 1) q)
        rw [a6 _ (by omega)] at b
        exact hno _ (r + 1) q (by omega) b) (N := N) (by omega)
    (s0 := (sI (sI (sI M (m + 58) (0 : Int32).toNatClampNeg d) m 35 0) m 36 0, d, (0 : Int32))) (by
      refine ⟨rfl, rfl, fun x i h1 h2 => ?_, fun _ _ => rfl, ?_, sI_s, fun i hi => ?_⟩
      · show (sI (sI (sI M (m + 58) (0 : Int32).toNatClampNeg d) m 35 0) m 36 0).1 x i = _
        rw [sI_o (by omega), sI_o (by omega), sI_o (Or.inl h1)]
      · show (sI (sI (sI M (m + 58) (0 : Int32).toNatClampNeg d) m 35 0) m 36 0).1 m 35 = _
        rw [sI_o (by omega), sI_s]; rfl
      · show (sI (sI (sI M (m + 58) (0 : Int32).toNatClampNeg d) m 35 0) m 36 0).1 (m + 58) i = _
        have e0 : i = (0 : Int32).toNatClampNeg := by
          have : (0 : Int32).toNatClampNeg = 0 := rfl
          omega
        rw [sI_o (by omega), sI_o (by omega), e0, sI_s]; rfl)
  dsimp only at i1 i2 i3 i4 i5 i6 i7
  subst i1; subst i2
  obtain ⟨Ms, a1, a2, a3, a4, a5, a6, a7⟩ := step k e Mr (Nat.le_refl _) i3 i4 i5 i6 i7
  have hk' : fX7_inTurn_29 N m (nI t) N (sI (sI (sI M (m + 58) (0 : Int32).toNatClampNeg d) m 35 0) m 36 0) d 0 = fX7_inTurn_29 N m (nI t) (k + 1) Mr (xs C n d e) (nI e) := hk
  rw [hk', a7]
  by_cases z : xs C n d (e + 1) = xs C n d e
  · have zz : j = e := by
      rcases Nat.lt_or_ge j e with w | w
      · exact absurd (h2.trans z) (hno j e w (Nat.le_refl e))
      · omega
    rw [if_pos z]
    refine ⟨Ms, rfl, a3, a4, ?_, a1, a2⟩
    rw [a5, if_pos zz]; rfl
  · have zz : ¬ j = e := fun w => z (by rw [← h2, w])
    have hf : fa_first (fun k => decide (Ms.1 (m + 58) k = xs C n d (e + 1))) (e + 1) = j := by
      have hle := fa_first_le (fun k => decide (Ms.1 (m + 58) k = xs C n d (e + 1))) (e + 1)
      rcases Nat.lt_trichotomy (fa_first (fun k => decide (Ms.1 (m + 58) k = xs C n d (e + 1))) (e + 1)) j with q | q | q
      · have b := of_decide_eq_true (fa_first_yes (fun k => decide (Ms.1 (m + 58) k = xs C n d (e + 1))) (e + 1) (by omega))
        rw [a6 _ (by omega)] at b
        exact absurd (b.trans h2.symm) (hno _ j q hj)
      · exact q
      · have b := of_decide_eq_false (fa_first_no (fun k => decide (Ms.1 (m + 58) k = xs C n d (e + 1))) (e + 1) j q)
        rw [a6 _ hj] at b
        exact absurd h2 b
    rw [if_neg z, hf, if_pos (by omega)]
    refine ⟨_, rfl, by rw [sI_o (by omega), a3], by rw [sI_o (by omega), a4], by rw [sI_s, if_neg zz, pk_sub (by omega)], fun x i h1 h2 => by rw [sI_o (by omega), a1 x i h1 h2], a2⟩
/-! the three calls -/
theorem turn_inv {kp : Int32} {a b : Nat} {M M1 M2 : Mem} {C : Nat → Nat → Int32} {n : Nat} {d : Int32} {e j : Nat} (hI : Inv kp a b M) (h1 : RunC M M1 (a + 100) C n d e j) (h2 : RunM M1 M2 b C n d e j) : Inv kp a b M2 := by
  have hab := hI.1
  refine Inv_fr hI (fun x i hx hi => ?_) (fun i => ?_) (fun x i hx => ?_) (fun i hi => ?_)
  · unfold IS at hi
    rw [h2.2.2.2.1 x i (by omega) (by omega), h1.2.2.2.1 x i (by omega)]
  · rw [h2.2.2.2.1 _ i (by omega) (by omega), h1.2.2.2.1 _ i (by omega)]
  · unfold JS at hx
    rw [h2.2.2.2.2, h1.2.2.2.2 x i (by omega)]
  · rw [h2.2.2.2.1 _ i (by omega) (by omega), h1.2.2.2.1 _ i (by omega), h2.2.2.2.1 _ _ (by omega) (by omega), h1.2.2.2.1 _ _ (by omega)]
    exact hI.2.2.2.1 i hi
theorem or_lt {n s : Nat} {C : Nat → Nat → Int32} (hC : RC n C) (hs : s < 2 ^ n) : ∀ i, bt (nI s ||| C 0 9) i = true → i < n := fun i h => by
  rw [b_or, Bool.or_eq_true] at h
  rcases h with h | h
  · exact bt_lt hs h
  · exact hC.2.2.2.1 i h
theorem course_op {kp : Int32} {a b N : Nat} {M : Mem} (hI : Inv kp a b M) (hN : 4097 < N) {k t n s : Nat} {C : Nat → Nat → Int32} (hk : k ≤ 4) (ht : t < k) (hs : s < 2 ^ n) (hC : RC n C) (hV : CV M (a + 4 + 1 + 11 + 8 * t) C) (hM : MV M b t n C) :
    ∃ M1 M2 e j, e < 4096 ∧ j ≤ e ∧ fX0_run N M (a + 100) (a + 4 + 1 + 11 + 8 * t) (nI s ||| C 0 9) = some M1 ∧ Up b M M1 ∧ fX7_inTurn N M1 b (nI t) (nI s) = some M2 ∧ RunC M M1 (a + 100) C n (nI s ||| C 0 9) e j ∧ RunM M1 M2 b C n (nI s ||| C 0 9) e j := by
  have hab := hI.1
  have hd := or_lt hC hs
  obtain ⟨e, j, he, hj, h2, hno⟩ := course C hC.1.2 hd
  obtain ⟨M1, r1, r2⟩ := run_c (N := N) (c := a + 100) hV hC (by omega) hd he hj h2 hno hN
  have hu : Up b M M1 := fun x i h => ⟨r2.2.2.2.1 x i (by omega), r2.2.2.2.2 x i (by omega)⟩
  obtain ⟨M2, s1, s2⟩ := turn_m (N := N) (MV_fr (show t < 5 by omega) (fun x i p q => (hu x i (by omega)).1) hM) hC (by omega) (s := nI s) rfl he hj h2 hno hN
  exact ⟨M1, M2, e, j, he, hj, r1, hu, s1, r2, s2⟩
theorem op_turns {kp : Int32} {a b N : Nat} {M : Mem} (hI : Inv kp a b M) (hN : 4097 < N) (v1 v2 : Int32) : Op kp a b M (fX6_turns N M a v1 v2) (fun M1 => fX7_turns N M1 b v1 v2) := by
  unfold fX6_turns fX7_turns
  refine op_ws hI v1 v2 id _ _ ?_
  rintro k t n C s hk ht e1 e2 rfl rfl hs hC hV hM hW
  obtain ⟨M1, M2, e, j, he, hj, r1, hu, s1, r2, s2⟩ := course_op hI hN hk ht hs hC hV hM
  refine ⟨isum (chg C n (nI s ||| C 0 9)) (e + 1), M1, M2, ?_, hu, ?_, turn_inv hI r2 s2⟩
  · rw [CV0 hV, r1, bd_some, r2.2.1]
  · show bd _ _ = _
    rw [s1, bd_some, s2.2.1]
theorem op_ring {kp : Int32} {a b N : Nat} {M : Mem} (hI : Inv kp a b M) (hN : 4097 < N) (v1 v2 : Int32) : Op kp a b M (fX6_ring N M a v1 v2) (fun M1 => fX7_ring N M1 b v1 v2) := by
  unfold fX6_ring fX7_ring
  refine op_ws hI v1 v2 id _ _ ?_
  rintro k t n C s hk ht e1 e2 rfl rfl hs hC hV hM hW
  obtain ⟨M1, M2, e, j, he, hj, r1, hu, s1, r2, s2⟩ := course_op hI hN hk ht hs hC hV hM
  refine ⟨nI (if j = e then 0 else e + 1 - j), M1, M2, ?_, hu, ?_, turn_inv hI r2 s2⟩
  · rw [CV0 hV, r1, bd_some, r2.2.2.1]
  · show bd _ _ = _
    rw [s1, bd_some, s2.2.2.1]
theorem op_go {kp : Int32} {a b N : Nat} {M : Mem} (hI : Inv kp a b M) (hN : 4097 < N) (v1 v2 : Int32) : Op kp a b M (fX6_go N M a v1 v2) (fun M1 => fX7_go N M1 b v1 v2) := by
  unfold fX6_go fX7_go
  refine op_ws hI v1 v2 id _ _ ?_
  rintro k t n C s hk ht e1 e2 rfl rfl hs hC hV hM hW
  have hab := hI.1
  obtain ⟨M1, M2, e, j, he, hj, r1, hu, s1, r2, s2⟩ := course_op hI hN hk ht hs hC hV hM
  by_cases q : j = e
  · refine ⟨xs C n (nI s ||| C 0 9) (e + 1), M1, M2, ?_, hu, ?_, turn_inv hI r2 s2⟩
    · rw [CV0 hV, r1, bd_some, r2.2.2.1, if_pos q, if_pos (by decide), r2.1]
    · show bd _ _ = _
      rw [s1, bd_some, s2.2.2.1, if_pos q, if_pos (by decide), s2.1]
  · -- a ring: refused
    have hI2 : Inv kp a b (rM b (rC a M 5) 5) := Inv_ref hI (by decide) (by decide)
    have nle : ¬ nI (if j = e then 0 else e + 1 - j) ≤ 0 := by rw [if_neg q]; exact nI_nle (by omega) (by omega)
    have hu1 : Up b M (rC a M1 5) := fun x i h => ⟨by rw [rC_o (by omega), (hu x i h).1], (hu x i h).2⟩
    have hM1 := MV_fr (M' := rC a M1 5) (show t < 5 by omega) (fun x i p q => (hu1 x i (by omega)).1) hM
    have hd := or_lt hC hs
    obtain ⟨e', j', he', hj', h2', hno'⟩ := course C hC.1.2 hd
    obtain ⟨M3, t1, t2⟩ := turn_m (N := N) hM1 hC (by omega) (s := nI s) rfl he' hj' h2' hno' hN
    obtain ⟨M1', r1', r2'⟩ := run_c (N := N) (c := a + 100) hV hC (by omega) hd he' hj' h2' hno' hN
    have eM : M1' = M1 := by rw [r1] at r1'; exact (Option.some.inj r1').symm
    subst eM
    have enl : ¬ nI (if j' = e' then 0 else e' + 1 - j') ≤ 0 := by rw [← r2'.2.2.1, r2.2.2.1]; exact nle
    refine ⟨-5, rC a M1' 5, rM b M3 5, ?_, hu1, ?_, ?_⟩
    · rw [CV0 hV, r1, bd_some, r2.2.2.1, if_neg nle, rfC5]; rfl
    · show bd _ _ = _
      rw [t1, bd_some, t2.2.2.1, if_neg enl, rfM5]; rfl
    · refine Inv_fr hI (fun x i hx hi => ?_) (fun i => ?_) (fun x i hx => ?_) (fun i hi => ?_)
      · unfold IS at hi
        rw [rM_o (by omega), t2.2.2.2.1 x i (by omega) (by omega), rC_o (by omega), r2.2.2.2.1 x i (by omega)]
      · rw [rM_o (by omega), t2.2.2.2.1 _ i (by omega) (by omega), rC_o (by omega), r2.2.2.2.1 _ i (by omega)]
      · unfold JS at hx
        show M3.2 x i = _
        rw [t2.2.2.2.2]
        show M1'.2 x i = _
        rw [r2.2.2.2.2 x i (by omega)]
      · have hh := hI.2.2.2.1 i hi
        by_cases z : i = 3
        · subst z
          unfold rM
          rw [sI_o (by omega), sI_s, t2.2.2.2.1 _ _ (by omega) (by omega), t2.2.2.2.1 _ _ (by omega) (by omega), rC_o (x := b + 17) (by omega)]
          unfold rC
          rw [sI_s, r2.2.2.2.1 _ _ (by omega), r2.2.2.2.1 _ _ (by omega), hh]
        · unfold rM
          rw [sI_o (by omega), sI_o (by omega), t2.2.2.2.1 _ _ (by omega) (by omega), t2.2.2.2.1 _ _ (by omega) (by omega), rC_o (x := b + 17) (by omega)]
          unfold rC
          rw [sI_o (by omega), r2.2.2.2.1 _ _ (by omega), r2.2.2.2.1 _ _ (by omega), hh]
