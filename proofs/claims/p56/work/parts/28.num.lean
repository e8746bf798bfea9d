/-! ===== all alike: powers, chances, bars ===== -/
def pw (v : Int64) : Nat → Int64
  | 0 => 1
  | k + 1 => pw v k * v
theorem pow_c (N : Nat) (M : Mem) (v : Int64) {k : Nat} (hk : k < 100) (hN : 100 < N) : fX6_power N M v (nI k) = some (pw v k) := by
  unfold fX6_power
  obtain ⟨j, hj⟩ := lp (fun j (s : Int64 × Int32) => fX6_power_5 N M v (nI k) j s.1 s.2) (fun p => (pw v p, nI p)) k (fun j p hp => by
    show fX6_power_5 N M v (nI k) (j + 1) _ (nI p) = fX6_power_5 N M v (nI k) j _ (nI (p + 1))
    rw [fX6_power_5, if_neg (nI_ge hp (by omega)), nm_eq, nI_1]; rfl) (N := N) (by omega)
  refine hj.trans ?_
  show fX6_power_5 N M v (nI k) (j + 1) _ (nI k) = _
  rw [fX6_power_5, if_pos (nI_le (Nat.le_refl k) (by omega))]
theorem pow_m (N : Nat) (M : Mem) (v : Int64) {k : Nat} (hk : k < 100) (hN : 100 < N) : fX7_power N M v (nI k) = some (pw v k) := by
  unfold fX7_power
  obtain ⟨j, hj⟩ := lp (fun j (s : Int64 × Int32) => fX7_power_5 N M v (nI k) j s.1 s.2) (fun p => (pw v p, nI p)) k (fun j p hp => by
    show fX7_power_5 N M v (nI k) (j + 1) _ (nI p) = fX7_power_5 N M v (nI k) j _ (nI (p + 1))
    rw [fX7_power_5, if_neg (nI_ge hp (by omega)), nm_eq, nI_1]; rfl) (N := N) (by omega)
  refine hj.trans ?_
  show fX7_power_5 N M v (nI k) (j + 1) _ (nI k) = _
  rw [fX7_power_5, if_pos (nI_le (Nat.le_refl k) (by omega))]
def lotP (c w : Int32) (d p : Nat) : Bool := !decide (lg_cmp (w.toInt64 * pw ((1000 - nI (1000 - p)).toInt64) d) (c.toInt64 * pw 1000 d) < 0)
def lotV (c w : Int32) (d : Nat) : Nat := if fa_first (lotP c w d) 1000 < 1000 then 1000 - fa_first (lotP c w d) 1000 else 0
theorem lotV_le (c w : Int32) (d : Nat) : lotV c w d ≤ 1000 := by unfold lotV; by_cases h : fa_first (lotP c w d) 1000 < 1000 <;> simp [h] <;> omega
theorem lot_c (N : Nat) (M : Mem) (c w : Int32) {d : Nat} (hd : d < 10) (hN : 4097 < N) : fX6_greatestLot N M c w (nI d) = some (nI (lotV c w d)) := by
  unfold fX6_greatestLot
  have a := lp_first (fun k (s : Int32) => fX6_greatestLot_4 N M c w (nI d) k s) (fun p => nI (1000 - p)) (lotP c w d) 1000 (fun p => some (nI (1000 - p))) (some 0)
    (fun k p hp h => by
      show fX6_greatestLot_4 N M c w (nI d) (k + 1) (nI (1000 - p)) = fX6_greatestLot_4 N M c w (nI d) k (nI (1000 - (p + 1)))
      rw [fX6_greatestLot_4, if_neg (nI_nle (by omega) (by omega)), pow_c N M _ (by omega) (by omega), bd_some, pow_c N M _ (by omega) (by omega), bd_some]
      unfold lotP at h
      rw [Bool.not_eq_false', decide_eq_true_eq] at h
      rw [if_pos h, show 1000 - p = (1000 - (p + 1)) + 1 by omega, pk_m1])
    (fun k p hp h => by
      show fX6_greatestLot_4 N M c w (nI d) (k + 1) (nI (1000 - p)) = some (nI (1000 - p))
      rw [fX6_greatestLot_4, if_neg (nI_nle (by omega) (by omega)), pow_c N M _ (by omega) (by omega), bd_some, pow_c N M _ (by omega) (by omega), bd_some]
      unfold lotP at h
      rw [Bool.not_eq_true', decide_eq_false_iff_not] at h
      rw [if_neg h])
    (fun k => by
      show fX6_greatestLot_4 N M c w (nI d) (k + 1) (nI 0) = _
      rw [fX6_greatestLot_4, if_pos (by decide)]) (N := N) (by omega)
  refine a.trans ?_
  unfold lotV
  by_cases q : fa_first (lotP c w d) 1000 < 1000
  · rw [if_pos q, if_pos q]
  · rw [if_neg q, if_neg q]; rfl
theorem lot_m (N : Nat) (M : Mem) (c w : Int32) {d : Nat} (hd : d < 10) (hN : 4097 < N) : fX7_lotOf N M c w (nI d) = some (nI (lotV c w d)) := by
  unfold fX7_lotOf
  have a := lp_first (fun k (s : Int32) => fX7_lotOf_4 N M c w (nI d) k s) (fun p => nI (1000 - p)) (lotP c w d) 1000 (fun p => some (nI (1000 - p))) (some 0)
    (fun k p hp h => by
      show fX7_lotOf_4 N M c w (nI d) (k + 1) (nI (1000 - p)) = fX7_lotOf_4 N M c w (nI d) k (nI (1000 - (p + 1)))
      rw [fX7_lotOf_4, if_neg (nI_nle (by omega) (by omega)), pow_m N M _ (by omega) (by omega), bd_some, pow_m N M _ (by omega) (by omega), bd_some]
      unfold lotP at h
      rw [Bool.not_eq_false', decide_eq_true_eq] at h
      rw [if_pos h, show 1000 - p = (1000 - (p + 1)) + 1 by omega, pk_m1])
    (fun k p hp h => by
      show fX7_lotOf_4 N M c w (nI d) (k + 1) (nI (1000 - p)) = some (nI (1000 - p))
      rw [fX7_lotOf_4, if_neg (nI_nle (by omega) (by omega)), pow_m N M _ (by omega) (by omega), bd_some, pow_m N M _ (by omega) (by omega), bd_some]
      unfold lotP at h
      rw [Bool.not_eq_true', decide_eq_false_iff_not] at h
      rw [if_neg h])
    (fun k => by
      show fX7_lotOf_4 N M c w (nI d) (k + 1) (nI 0) = _
      rw [fX7_lotOf_4, if_pos (by decide)]) (N := N) (by omega)
  refine a.trans ?_
  unfold lotV
  by_cases q : fa_first (lotP c w d) 1000 < 1000
  · rw [if_pos q, if_pos q]
  · rw [if_neg q, if_neg q]; rfl
def rg (v a b : Int32) : Bool := decide (a ≤ v) && decide (v ≤ b)
theorem rg_nI {v : Int32} {x y : Nat} (hx : x ≤ y) (hy : y < 2 ^ 31) (h : rg v (nI x) (nI y) = true) : ∃ j, x ≤ j ∧ j ≤ y ∧ v = nI j := by
  unfold rg at h
  rw [Bool.and_eq_true, decide_eq_true_eq, decide_eq_true_eq] at h
  have h0 : ¬ v < 0 := by
    rw [fa_lt]; rw [fa_le, nI_toInt (by omega)] at h
    have := h.1
    show ¬ v.toInt < 0
    omega
  obtain ⟨j, hj, rfl⟩ := nI_of h0
  exact ⟨j, (nI_leI (by omega) hj).mp h.1, (nI_leI hj hy).mp h.2, rfl⟩
theorem within_r (N : Nat) (M : Mem) (v a b : Int32) : fX6_isWithin N M v a b = some (b1 (rg v a b)) := within_s N M v a b
theorem in_r (N : Nat) (M : Mem) (v a b : Int32) {A B : Int64} (hA : A = a.toInt64) (hB : B = b.toInt64) : fX7_in N M v.toInt64 A B = some (b1 (rg v a b)) := in_w N M v a b hA hB
theorem alike_c (N : Nat) (M : Mem) (c w d : Int32) : fX6_isAlike N M c w d = some (b1 (rg c 1 99 && rg w 1 99 && rg d 1 5)) := by
  unfold fX6_isAlike
  rw [within_r, bd_some, b1_if, within_r, bd_some, b1_if, within_r, bd_some, b1_if]
  cases rg c 1 99 <;> cases rg w 1 99 <;> cases rg d 1 5 <;> rfl
theorem alike_m (N : Nat) (M : Mem) (c w d : Int32) : fX7_areChances N M c w d = some (b1 (rg c 1 99 && rg w 1 99 && rg d 1 5)) := by
  unfold fX7_areChances
  rw [in_r N M c 1 99 (by decide) (by decide), bd_some, b1_if, in_r N M w 1 99 (by decide) (by decide), bd_some, b1_if, in_r N M d 1 5 (by decide) (by decide), bd_some, b1_if]
  cases rg c 1 99 <;> cases rg w 1 99 <;> cases rg d 1 5 <;> rfl
theorem op_lot {kp : Int32} {a b N : Nat} {M : Mem} (hI : Inv kp a b M) (hN : 4097 < N) (v1 v2 v3 : Int32) : Op kp a b M (fX6_lot N M a v1 v2 v3) (fun M1 => fX7_lot N M1 b v1 v2 v3) := by
  unfold fX6_lot fX7_lot
  cases e : (rg v1 1 99 && rg v2 1 99 && rg v3 1 5)
  · refine Op.ref hI (w := 2) (by decide) (by decide) (-2) ?_ ?_
    · rw [alike_c, e, bd_some, b1_if, if_neg (by decide), rfC2]; rfl
    · show bd _ _ = _
      rw [alike_m, e, bd_some, b1_if, if_neg (by decide), rfM2]; rfl
  · have h3 : rg v3 (nI 1) (nI 5) = true := by
      rw [Bool.and_eq_true] at e; exact e.2
    obtain ⟨d, hd1, hd5, rfl⟩ := rg_nI (by decide) (by decide) h3
    refine Op.same hI (nI (lotV v1 v2 d)) ?_ ?_
    · rw [alike_c, e, bd_some, b1_if, if_pos rfl, lot_c N M _ _ (by omega) hN]; rfl
    · show bd _ _ = _
      rw [alike_m, e, bd_some, b1_if, if_pos rfl, lot_m N M _ _ (by omega) hN]; rfl
theorem pw1000 {k : Nat} (h : k < 5) : ¬ lg_cmp (pw 1000 k) 0 ≤ 0 ∧ ¬ pw 1000 k = 0 := (by decide +kernel : ∀ k, k < 5 → ¬ lg_cmp (pw 1000 k) 0 ≤ 0 ∧ ¬ pw 1000 k = 0) k h
theorem op_nobody {kp : Int32} {a b N : Nat} {M : Mem} (hI : Inv kp a b M) (hN : 4097 < N) (v1 v2 v3 : Int32) : Op kp a b M (fX6_nobody N M a v1 v2 v3) (fun M1 => fX7_nobody N M1 b v1 v2 v3) := by
  unfold fX6_nobody fX7_nobody
  cases e : (rg v1 1 99 && rg v2 1 99 && rg v3 1 5)
  · refine Op.ref hI (w := 2) (by decide) (by decide) (-2) ?_ ?_
    · rw [alike_c, e, bd_some, b1_if, if_neg (by decide), rfC2]; rfl
    · show bd _ _ = _
      rw [alike_m, e, bd_some, b1_if, if_neg (by decide), rfM2]; rfl
  · have h3 : rg v3 (nI 1) (nI 5) = true := by
      rw [Bool.and_eq_true] at e; exact e.2
    obtain ⟨d, hd1, hd5, rfl⟩ := rg_nI (by decide) (by decide) h3
    have em : nI d - 1 = nI (d - 1) := by rw [show (1 : Int32) = nI 1 from rfl, pk_sub hd1]
    have hp := pw1000 (k := d - 1) (by omega)
    refine Op.same hI ((pw ((1000 - nI (lotV v1 v2 d)).toInt64) (d + 1) / pw 1000 (d - 1)).toInt32) ?_ ?_
    · rw [alike_c, e, bd_some, b1_if, if_pos rfl, lot_c N M _ _ (by omega) hN, bd_some, nm_eq, em, pow_c N M _ (by omega) (by omega), bd_some, if_neg hp.1, nI_1, pow_c N M _ (by omega) (by omega), bd_some, gc_of hp.2]
    · show bd _ _ = _
      rw [alike_m, e, bd_some, b1_if, if_pos rfl, lot_m N M _ _ (by omega) hN, bd_some, nI_1, pow_m N M _ (by omega) (by omega), bd_some, em, pow_m N M _ (by omega) (by omega), bd_some, gc_of hp.2]
/-! bars -/
def esN (g : Nat → Nat) : Nat → Nat
  | 0 => 0
  | n + 1 => esN g n + n * g n
theorem m1_lt : ∀ i, i < 8 → ∀ d, d < 8 → ((nI i - 1 < nI d) ↔ i ≤ d) := by decide +kernel
theorem m1_6 : ∀ i, i < 8 → ((6 : Int32) ≤ nI i - 1 ↔ 7 ≤ i) := by decide +kernel
theorem m1_5 : ∀ i, i < 8 → ((5 : Int32) < nI i - 1 ↔ 7 ≤ i) := by decide +kernel
theorem m1_0 : ∀ i, i < 8 → ((0 : Int32) ≤ nI i - 1 ↔ 1 ≤ i) := by decide +kernel
theorem m1_s (i : Nat) : nI i - 1 + 1 = nI (i + 1) - 1 := by rw [← nI_1]; grind
theorem m1_p (i : Nat) : nI i - 1 + 1 = nI i := by grind
theorem m1_v (i : Nat) : nI (i + 1) - 1 = nI i := nI_pred i
theorem ends_c {N : Nat} {M : Mem} {tw : Nat} {g : Nat → Nat} (hg : ∀ d, d < 6 → M.1 (tw + 2) d = nI (g d)) {i : Nat} (hi : i ≤ 6) (hN : 100 < N) : fX5_endsUpTo N M tw (nI i - 1) = some (nI (esN g i)) := by
  unfold fX5_endsUpTo
  obtain ⟨k, hk⟩ := lp (fun k (s : Int32 × Int32) => fX5_endsUpTo_4 N M tw (nI i - 1) k s.1 s.2) (fun p => (nI (esN g p), nI p)) i (fun k p hp => by
    show fX5_endsUpTo_4 N M tw (nI i - 1) (k + 1) _ (nI p) = fX5_endsUpTo_4 N M tw (nI i - 1) k (nI (esN g p + p * g p)) (nI (p + 1))
    rw [fX5_endsUpTo_4, if_neg (fun q => by have := (m1_lt i (by omega) p (by omega)).mp q; omega), if_neg (show ¬ (6 : Int32) ≤ nI p from nI_ge (b := 6) (by omega) (by decide)), gd_nI (by omega) (by decide), nm_eq, nI_clamp (by omega), hg p (by omega), pk_mul, nI_add, nI_1]) (N := N) (by omega)
  refine hk.trans ?_
  show fX5_endsUpTo_4 N M tw (nI i - 1) (k + 1) _ (nI i) = _
  rw [fX5_endsUpTo_4, if_pos ((m1_lt i (by omega) i (by omega)).mpr (Nat.le_refl i))]
/-- would one with d near do, by bar i less 1 -/
def barW (g : Nat → Nat) (c w : Int32) (i d : Nat) : Bool := !decide (lg_cmp (w.toInt64 * pw (lN (esN g 6) - lN (esN g i)) d) (c.toInt64 * pw (lN (esN g 6)) d) < 0)
def barK (g : Nat → Nat) (c w : Int32) (i d : Nat) : Bool := decide (g d = 0) || (barW g c w i d == decide (d < i))
def barO (g : Nat → Nat) (c w : Int32) (i : Nat) : Bool := decide (fa_first (fun d => !barK g c w i d) 6 = 6)
theorem esN_le {g : Nat → Nat} : ∀ {n : Nat}, n ≤ 6 → (∀ d, d < 6 → g d ≤ 20) → esN g n ≤ n * 100
  | 0, _, _ => Nat.le_refl 0
  | n + 1, h, hg => by
    have a := esN_le (n := n) (by omega) hg
    have b := hg n (by omega)
    have c : n * g n ≤ 5 * 20 := Nat.mul_le_mul (by omega) b
    rw [esN]; omega
theorem nI_le0 {g : Nat} (h : g < 2 ^ 31) : nI g ≤ 0 ↔ g = 0 := ⟨fun q => Nat.eq_zero_of_not_pos (fun p => nI_nle p h q), fun q => by rw [q]; decide⟩
theorem nI_eq0 {g : Nat} (h : g < 2 ^ 31) : nI g = 0 ↔ g = 0 := ⟨fun q => Nat.eq_zero_of_not_pos (fun p => nI_ne0 p h q), fun q => by rw [q]; decide⟩
theorem atRest_c {N : Nat} {M : Mem} {tw : Nat} {g : Nat → Nat} (hg : ∀ d, d < 6 → M.1 (tw + 2) d = nI (g d)) (hb : ∀ d, d < 6 → g d ≤ 20) {i : Nat} (hi : i ≤ 6) (c w : Int32) (hN : 100 < N) : fX5_isBarAtRest N M tw (nI i - 1) c w = some (b1 (barO g c w i)) := by
  unfold fX5_isBarAtRest
  have e5 : fX5_endsUpTo N M tw 5 = some (nI (esN g 6)) := ends_c hg (i := 6) (by decide) hN
  have l6 := esN_le (n := 6) (by decide) hb
  have li := esN_le hi hb
  rw [e5, bd_some, nm_eq, ends_c hg hi hN, bd_some, nm_eq, nI_l (by omega), nI_l (by omega)]
  have a := lp_first (fun k (s : Int32) => fX5_isBarAtRest_22 N M tw (nI i - 1) c w (lN (esN g 6)) (lN (esN g 6) - lN (esN g i)) k s) nI (fun d => !barK g c w i d) 6 (fun _ => some 0) (some 1)
    (fun k d hd h => by
      show fX5_isBarAtRest_22 N M tw (nI i - 1) c w _ _ (k + 1) (nI d) = fX5_isBarAtRest_22 N M tw (nI i - 1) c w _ _ k (nI (d + 1))
      have gb := hb d hd
      rw [fX5_isBarAtRest_22, if_neg (show ¬ (6 : Int32) ≤ nI d from nI_ge (b := 6) hd (by decide)), pow_c N M _ (by omega) hN, bd_some, pow_c N M _ (by omega) hN, bd_some, gd_nI hd (by decide), nI_clamp (by omega), hg d hd, nI_1]
      simp only [gd_nI hd (show 6 < 2 ^ 31 by decide), i10, i00, nI_le0 (show g d < 2 ^ 31 by omega), m1_lt i (by omega) d (by omega), show ((0 : Int32) = 1) = False by simp, if_true, if_false]
      unfold barK barW at h
      by_cases q0 : g d = 0
      · simp only [q0, if_true]; split <;> rfl
      · simp only [q0, decide_false, Bool.false_or, if_false] at h ⊢
        split
        · rename_i q1
          simp only [q1, decide_true, Bool.not_true] at h
          split
          · rfl
          · rename_i q2
            have q3 : decide (d < i) = true := decide_eq_true (by omega)
            rw [q3] at h; cases h
        · rename_i q1
          simp only [q1, decide_false, Bool.not_false] at h
          split
          · rename_i q2
            have q3 : decide (d < i) = false := decide_eq_false (by omega)
            rw [q3] at h; cases h
          · rfl)
    (fun k d hd h => by
      show fX5_isBarAtRest_22 N M tw (nI i - 1) c w _ _ (k + 1) (nI d) = some 0
      have gb := hb d hd
      rw [fX5_isBarAtRest_22, if_neg (show ¬ (6 : Int32) ≤ nI d from nI_ge (b := 6) hd (by decide)), pow_c N M _ (by omega) hN, bd_some, pow_c N M _ (by omega) hN, bd_some, gd_nI hd (by decide), nI_clamp (by omega), hg d hd, nI_1]
      simp only [gd_nI hd (show 6 < 2 ^ 31 by decide), i10, i00, nI_le0 (show g d < 2 ^ 31 by omega), m1_lt i (by omega) d (by omega), show ((0 : Int32) = 1) = False by simp, if_true, if_false]
      unfold barK barW at h
      by_cases q0 : g d = 0
      · simp only [q0, decide_true, Bool.true_or, Bool.not_true] at h; cases h
      · simp only [q0, decide_false, Bool.false_or, if_false] at h ⊢
        split
        · rename_i q1
          simp only [q1, decide_true, Bool.not_true] at h
          split
          · rename_i q2
            have q3 : decide (d < i) = false := decide_eq_false (by omega)
            rw [q3] at h; cases h
          · rfl
        · rename_i q1
          simp only [q1, decide_false, Bool.not_false] at h
          split
          · rfl
          · rename_i q2
            have q3 : decide (d < i) = true := decide_eq_true (by omega)
            rw [q3] at h; cases h)
    (fun k => by
      show fX5_isBarAtRest_22 N M tw (nI i - 1) c w _ _ (k + 1) (nI 6) = some 1
      rw [fX5_isBarAtRest_22, if_pos (by decide)]) (N := N) (by omega)
  refine a.trans ?_
  unfold barO
  have hle := fa_first_le (fun d => !barK g c w i d) 6
  by_cases q : fa_first (fun d => !barK g c w i d) 6 < 6
  · rw [if_pos q, decide_eq_false (by omega)]; rfl
  · rw [if_neg q, decide_eq_true (by omega)]; rfl
def barR (g : Nat → Nat) (c w : Int32) : Int32 := if fa_first (barO g c w) 7 < 7 then nI (fa_first (barO g c w) 7) else -1
theorem bar_c {N a : Nat} {M : Mem} {g : Nat → Nat} (hg : ∀ d, d < 6 → M.1 (a + 4 + 2) d = nI (g d)) (hb : ∀ d, d < 6 → g d ≤ 20) (c w : Int32) (hN : 100 < N) : fX6_bar_29 N M a c w N (-1) = some (barR g c w, M) := by
  have z := lp_first (fun k (s : Int32) => fX6_bar_29 N M a c w k s) (fun i => nI i - 1) (barO g c w) 7 (fun i => some (nI i, M)) (some (-1, M))
    (fun k i hi h => by
      show fX6_bar_29 N M a c w (k + 1) (nI i - 1) = fX6_bar_29 N M a c w k (nI (i + 1) - 1)
      rw [fX6_bar_29, if_neg (fun q => by have := (m1_6 i (by omega)).mp q; omega), atRest_c hg hb (by omega) c w hN, bd_some, b1_if, h, if_neg (by decide), m1_s])
    (fun k i hi h => by
      show fX6_bar_29 N M a c w (k + 1) (nI i - 1) = some (nI i, M)
      rw [fX6_bar_29, if_neg (fun q => by have := (m1_6 i (by omega)).mp q; omega), atRest_c hg hb (by omega) c w hN, bd_some, b1_if, h, if_pos rfl, m1_p])
    (fun k => by
      show fX6_bar_29 N M a c w (k + 1) (nI 7 - 1) = _
      rw [fX6_bar_29, if_pos (by decide)]) (N := N) (by omega)
  refine Eq.trans ?_ (z.trans ?_)
  · rfl
  · unfold barR
    by_cases q : fa_first (barO g c w) 7 < 7
    · rw [if_pos q, if_pos q]
    · rw [if_neg q, if_neg q]
/-- so far all as it must be -/
def barA (g : Nat → Nat) (c w : Int32) (i : Nat) : Nat → Bool
  | 0 => true
  | d + 1 => barA g c w i d && barK g c w i d
theorem barA_n {g : Nat → Nat} {c w : Int32} {i : Nat} : ∀ n, barA g c w i n = decide (fa_first (fun d => !barK g c w i d) n = n)
  | 0 => rfl
  | n + 1 => by
    rw [barA, barA_n n]
    have hle := fa_first_le (fun d => !barK g c w i d) n
    have hle1 := fa_first_le (fun d => !barK g c w i d) (n + 1)
    by_cases q : fa_first (fun d => !barK g c w i d) (n + 1) = n + 1
    · rw [decide_eq_true q]
      have a := fa_first_no (fun d => !barK g c w i d) (n + 1)
      rw [q] at a
      have b := a n (by omega)
      have b2 : fa_first (fun d => !barK g c w i d) n = n := by
        rcases Nat.lt_or_ge (fa_first (fun d => !barK g c w i d) n) n with r | r
        · have e := fa_first_yes (fun d => !barK g c w i d) n r
          rw [a _ (by omega)] at e; cases e
        · omega
      rw [decide_eq_true b2]
      simpa using b
    · rw [decide_eq_false q]
      by_cases r : fa_first (fun d => !barK g c w i d) n = n
      · have e := fa_first_yes (fun d => !barK g c w i d) (n + 1) (by omega)
        have e3 : fa_first (fun d => !barK g c w i d) (n + 1) = n := by
          have d1 := fa_first_no (fun d => !barK g c w i d) n
          rw [r] at d1
          rcases Nat.lt_or_ge (fa_first (fun d => !barK g c w i d) (n + 1)) n with s | s
          · rw [d1 _ s] at e; cases e
          · omega
        rw [e3] at e
        rw [decide_eq_true r]
        simpa using e
      · rw [decide_eq_false r]; rfl
theorem b1_and (x : Bool) : b1 x &&& 1 = b1 x ∧ b1 x &&& 0 = b1 false := by cases x <;> exact ⟨by decide, by decide⟩
theorem bar107 {N : Nat} {M : Mem} {m : Nat} {g : Nat → Nat} (hg : ∀ d, d < 6 → M.1 (m + 57) d = nI (g d)) (hb : ∀ d, d < 6 → g d ≤ 20) {i : Nat} (hi : i ≤ 6) (c w : Int32) (K : Int32 → Option (Int32 × Mem)) (hN : 100 < N) :
    fX7_bar_107 N M m c w (lN (esN g 6)) (lN (esN g i)) (nI i - 1) K N 1 0 = K (b1 (barO g c w i)) := by
  obtain ⟨k, hk⟩ := lp (fun k (s : Int32 × Int32) => fX7_bar_107 N M m c w (lN (esN g 6)) (lN (esN g i)) (nI i - 1) K k s.1 s.2) (fun d => (b1 (barA g c w i d), nI d)) 6 (fun k d hd => by
    show fX7_bar_107 N M m c w (lN (esN g 6)) (lN (esN g i)) (nI i - 1) K (k + 1) (b1 (barA g c w i d)) (nI d) = fX7_bar_107 N M m c w (lN (esN g 6)) (lN (esN g i)) (nI i - 1) K k (b1 (barA g c w i d && barK g c w i d)) (nI (d + 1))
    have gb := hb d hd
    rw [fX7_bar_107, if_neg (show ¬ (5 : Int32) < nI d from nI_nlt (a := 5) (by omega) (by omega)), pow_m N M _ (by omega) hN, bd_some, pow_m N M _ (by omega) hN, bd_some, gd_nI hd (by decide), nI_clamp (by omega), hg d hd, nI_1]
    simp only [gd_nI hd (show 6 < 2 ^ 31 by decide), i10, i00, nI_eq0 (show g d < 2 ^ 31 by omega), m1_lt i (by omega) d (by omega), show ((0 : Int32) = 1) = False by simp, show ((1 : Int32) = 1) = True by simp, if_true, if_false, nm_eq, (b1_and _).1, (b1_and _).2]
    have key : ∀ x y : Bool, x = y → fX7_bar_107 N M m c w (lN (esN g 6)) (lN (esN g i)) (nI i - 1) K k (b1 x) (nI (d + 1)) = fX7_bar_107 N M m c w (lN (esN g 6)) (lN (esN g i)) (nI i - 1) K k (b1 y) (nI (d + 1)) := fun x y h => by rw [h]
    unfold barK barW
    by_cases q0 : g d = 0
    · simp only [q0, if_true]
      split <;> (apply key; simp)
    · simp only [q0, if_false]
      split
      · rename_i q1
        split
        · rename_i q2
          apply key
          have q3 : decide (d < i) = false := decide_eq_false (by omega)
          simp [q1, q3]
        · rename_i q2
          apply key
          have q3 : decide (d < i) = true := decide_eq_true (by omega)
          simp [q1, q3]
      · rename_i q1
        split
        · rename_i q2
          apply key
          have q3 : decide (d < i) = false := decide_eq_false (by omega)
          simp [q1, q3]
        · rename_i q2
          apply key
          have q3 : decide (d < i) = true := decide_eq_true (by omega)
          simp [q1, q3]) (N := N) (by omega)
  refine hk.trans ?_
  show fX7_bar_107 N M m c w _ _ _ K (k + 1) (b1 (barA g c w i 6)) (nI 6) = _
  rw [fX7_bar_107, if_pos (by decide), barA_n]; rfl
theorem bar69 {N : Nat} {M : Mem} {m : Nat} {g : Nat → Nat} (hg : ∀ d, d < 6 → M.1 (m + 57) d = nI (g d)) (hb : ∀ d, d < 6 → g d ≤ 20) (c w : Int32) (hN : 100 < N) : fX7_bar_69 N M m c w (lN (esN g 6)) N 0 (-1) = some (barR g c w, M) := by
  have step : ∀ k i, i < 7 → fX7_bar_69 N M m c w (lN (esN g 6)) (k + 1) (lN (esN g (i - 1))) (nI i - 1) = (if b1 (barO g c w i) = 0 then fX7_bar_69 N M m c w (lN (esN g 6)) k (lN (esN g i)) (nI (i + 1) - 1) else some (nI i, M)) := fun k i hi => by
    rw [fX7_bar_69, if_neg (fun q => by have := (m1_5 i (by omega)).mp q; omega)]
    cases i with
    | zero =>
      rw [if_neg (by decide), nm_eq]
      have e0 : (lN (esN g (0 - 1)) + 0 : Int64) = lN (esN g 0) := by rw [Int64.add_zero]
      rw [e0, bar107 hg hb (by decide) c w _ hN]
      rfl
    | succ i =>
      have gb := hb i (by omega)
      rw [if_pos ((m1_0 (i + 1) (by omega)).mpr (by omega)), m1_v, gd_nI (by omega) (by decide), nm_eq, nI_clamp (by omega), hg i (by omega), nI_l (by omega), nI_l (by omega)]
      have e0 : (lN (esN g (i + 1 - 1)) + lN i * lN (g i) : Int64) = lN (esN g (i + 1)) := by
        rw [lN_mul, lN_add]; rfl
      have z := bar107 hg hb (i := i + 1) (by omega) c w (fun y107_8 => if y107_8 = 0 then fX7_bar_69 N M m c w (lN (esN g 6)) k (lN (esN g (i + 1))) (nI i + 1) else some (nI i + 1, M)) hN
      rw [m1_v] at z
      rw [e0, z, nI_1, m1_v]
  have z := lp_first (fun k (s : Int64 × Int32) => fX7_bar_69 N M m c w (lN (esN g 6)) k s.1 s.2) (fun i => (lN (esN g (i - 1)), nI i - 1)) (barO g c w) 7 (fun i => some (nI i, M)) (some (-1, M))
    (fun k i hi h => by
      refine (step k i hi).trans ?_
      rw [b1_if, h, if_neg (by decide)]; rfl)
    (fun k i hi h => by
      refine (step k i hi).trans ?_
      rw [b1_if, h, if_pos rfl])
    (fun k => by
      show fX7_bar_69 N M m c w _ (k + 1) _ (nI 7 - 1) = _
      rw [fX7_bar_69, if_pos (by decide)]) (N := N) (by omega)
  refine Eq.trans ?_ (z.trans ?_)
  · rfl
  · unfold barR
    by_cases q : fa_first (barO g c w) 7 < 7
    · rw [if_pos q, if_pos q]
    · rw [if_neg q, if_neg q]
theorem bar36 {N : Nat} {M : Mem} {m : Nat} {g : Nat → Nat} (hg : ∀ d, d < 6 → M.1 (m + 57) d = nI (g d)) (hb : ∀ d, d < 6 → g d ≤ 20) (c w : Int32) (hN : 100 < N) : fX7_bar_36 N M m c w N 0 0 = some (barR g c w, M) := by
  obtain ⟨k, hk⟩ := lp (fun k (s : Int64 × Int32) => fX7_bar_36 N M m c w k s.1 s.2) (fun d => (lN (esN g d), nI d)) 6 (fun k d hd => by
    show fX7_bar_36 N M m c w (k + 1) (lN (esN g d)) (nI d) = fX7_bar_36 N M m c w k (lN (esN g d + d * g d)) (nI (d + 1))
    have gb := hb d hd
    rw [fX7_bar_36, if_neg (show ¬ (5 : Int32) < nI d from nI_nlt (a := 5) (by omega) (by omega)), gd_nI hd (by decide), nm_eq, nI_clamp (by omega), hg d hd, nI_l (by omega), nI_l (by omega), lN_mul, lN_add, nI_1]) (N := N) (by omega)
  refine hk.trans ?_
  show fX7_bar_36 N M m c w (k + 1) (lN (esN g 6)) (nI 6) = _
  rw [fX7_bar_36, if_pos (by decide)]
  exact bar69 hg hb c w hN
