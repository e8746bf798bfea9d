theorem bd_eta (x : Option (Int32 × Mem)) : bd x (fun r => some (r.1, r.2)) = x := by cases x <;> rfl
theorem nI_ne_m1 {s : Nat} (h : s < 2 ^ 31) : ¬ nI s = -1 := fun e => by
  have a := nI_pos h
  rw [e] at a
  exact a (by decide)
theorem pick_spec (P : Nat → Bool) (V : Nat → Int32) : ∀ m, m ≤ 2 ^ 31 → ((pick P V m).1 = -1 ∧ ∀ s, s < m → P s = false) ∨ (∃ s, s < m ∧ pick P V m = (nI s, V s) ∧ P s = true ∧ ∀ s2, s2 < m → P s2 = true → V s2 ≤ V s)
  | 0, _ => Or.inl ⟨rfl, fun s h => absurd h (Nat.not_lt_zero s)⟩
  | m + 1, hm => by
    rw [pick]
    cases e : P m
    · rw [if_neg (by decide)]
      rcases pick_spec P V m (by omega) with ⟨h1, h2⟩ | ⟨s, hs, h1, h2, h3⟩
      · refine Or.inl ⟨h1, fun s hs => ?_⟩
        by_cases q : s = m
        · rw [q]; exact e
        · exact h2 s (by omega)
      · refine Or.inr ⟨s, by omega, h1, h2, fun s2 hs2 hp => ?_⟩
        by_cases q : s2 = m
        · rw [q, e] at hp; cases hp
        · exact h3 s2 (by omega) hp
    · rw [if_pos rfl]
      rcases pick_spec P V m (by omega) with ⟨h1, h2⟩ | ⟨s, hs, h1, h2, h3⟩
      · rw [if_pos h1]
        refine Or.inr ⟨m, by omega, rfl, e, fun s2 hs2 hp => ?_⟩
        by_cases q : s2 = m
        · rw [q]; rw [fa_le]; omega
        · rw [h2 s2 (by omega)] at hp; cases hp
      · rw [h1, if_neg (nI_ne_m1 (by omega))]
        by_cases q0 : V m ≤ V s
        · rw [if_pos q0]
          refine Or.inr ⟨s, by omega, rfl, h2, fun s2 hs2 hp => ?_⟩
          by_cases q : s2 = m
          · rw [q]; exact q0
          · exact h3 s2 (by omega) hp
        · rw [if_neg q0]
          refine Or.inr ⟨m, by omega, rfl, e, fun s2 hs2 hp => ?_⟩
          by_cases q : s2 = m
          · rw [q]; rw [fa_le]; omega
          · have a := h3 s2 (by omega) hp
            rw [fa_le] at a q0 ⊢
            omega
theorem choose_r {N : Nat} {M : Mem} {c n : Nat} {C : Nat → Nat → Int32} (hV : CV M c C) (hC : RC n C) {b : Nat} (hb : b < 5) (hN : 4096 < N) : fX4_choose N M c (nI b) 1 = some (pick (fun s => rst C n (nI s)) (fun s => vlS C n b (nI s)) (2 ^ n)).1 := choose_c N hV hC hb true hN
theorem choose_g {N : Nat} {M : Mem} {c n : Nat} {C : Nat → Nat → Int32} (hV : CV M c C) (hC : RC n C) (hN : 4096 < N) : fX4_choose N M c 3 0 = some (pick (fun s => decide (C 0 9 &&& (nI s ^^^ (-1)) = 0)) (fun s => vlS C n 3 (nI s)) (2 ^ n)).1 := choose_c N hV hC (b := 3) (by decide) false hN
theorem musts_set {n : Nat} {C : Nat → Nat → Int32} (hC : RC n C) : ∃ s, s < 2 ^ n ∧ C 0 9 = nI s := of_bits (by have := hC.1.2; omega) hC.2.2.2.1
theorem and_not_self (x : Int32) : x &&& (x ^^^ (-1)) = 0 := by
  apply b_ext; intro i hi
  rw [b_and, bt_not _ hi, b_0]; cases bt x i <;> rfl
theorem pick_good {n : Nat} {C : Nat → Nat → Int32} (hC : RC n C) : ∃ s, s < 2 ^ n ∧ (pick (fun s => decide (C 0 9 &&& (nI s ^^^ (-1)) = 0)) (fun s => vlS C n 3 (nI s)) (2 ^ n)).1 = nI s := by
  have h31 := pow31 hC.1.2
  rcases pick_spec (fun s => decide (C 0 9 &&& (nI s ^^^ (-1)) = 0)) (fun s => vlS C n 3 (nI s)) (2 ^ n) (by omega) with ⟨-, h2⟩ | ⟨s, hs, h1, -, -⟩
  · obtain ⟨s, hs, e⟩ := musts_set hC
    have a := h2 s hs
    rw [decide_eq_false_iff_not, ← e] at a
    exact absurd (and_not_self _) a
  · exact ⟨s, hs, by rw [h1]⟩
theorem op_sought {kp : Int32} {a b N : Nat} {M : Mem} (hI : Inv kp a b M) (hN : 4097 < N) (v1 : Int32) {c : Nat} (hc : c < 5) : Op kp a b M (fX6_restBy N M a v1 (nI c)) (fun M1 => fX7_sought N M1 b v1 (nI c)) := by
  unfold fX6_restBy fX7_sought
  refine op_st hI v1 id _ _ ?_
  rintro k t n C hk ht e1 e2 rfl hC hV hM hW
  refine Op.same hI (pick (fun s => rst C n (nI s)) (fun s => vlS C n c (nI s)) (2 ^ n)).1 ?_ ?_
  · rw [choose_r hV hC hc (by omega)]; rfl
  · show bd _ _ = _
    rw [seek_m N hM hC (by omega) hc (by omega)]; rfl
theorem op_fewest {kp : Int32} {a b N : Nat} {M : Mem} (hI : Inv kp a b M) (hN : 4097 < N) (v1 : Int32) : Op kp a b M (fX6_fewest N M a v1) (fun M1 => fX7_fewest N M1 b v1) := by
  unfold fX6_fewest fX7_fewest; simp only [bd_eta]; exact op_sought hI hN v1 (c := 0) (by decide)
theorem op_most {kp : Int32} {a b N : Nat} {M : Mem} (hI : Inv kp a b M) (hN : 4097 < N) (v1 : Int32) : Op kp a b M (fX6_most N M a v1) (fun M1 => fX7_most N M1 b v1) := by
  unfold fX6_most fX7_most; simp only [bd_eta]; exact op_sought hI hN v1 (c := 1) (by decide)
theorem op_cheap {kp : Int32} {a b N : Nat} {M : Mem} (hI : Inv kp a b M) (hN : 4097 < N) (v1 : Int32) : Op kp a b M (fX6_cheap N M a v1) (fun M1 => fX7_cheap N M1 b v1) := by
  unfold fX6_cheap fX7_cheap; simp only [bd_eta]; exact op_sought hI hN v1 (c := 2) (by decide)
theorem op_best {kp : Int32} {a b N : Nat} {M : Mem} (hI : Inv kp a b M) (hN : 4097 < N) (v1 : Int32) : Op kp a b M (fX6_best N M a v1) (fun M1 => fX7_best N M1 b v1) := by
  unfold fX6_best fX7_best; simp only [bd_eta]; exact op_sought hI hN v1 (c := 3) (by decide)
theorem op_good {kp : Int32} {a b N : Nat} {M : Mem} (hI : Inv kp a b M) (hN : 4097 < N) (v1 : Int32) : Op kp a b M (fX6_good N M a v1) (fun M1 => fX7_good N M1 b v1) := by
  unfold fX6_good fX7_good
  refine op_st hI v1 id _ _ ?_
  rintro k t n C hk ht e1 e2 rfl hC hV hM hW
  refine Op.same hI (pick (fun s => decide (C 0 9 &&& (nI s ^^^ (-1)) = 0)) (fun s => vlS C n 3 (nI s)) (2 ^ n)).1 ?_ ?_
  · rw [choose_g hV hC (by omega)]; rfl
  · show bd _ _ = _
    rw [goodSet_m N hM hC (by omega) (by omega)]; rfl
/-- how far below the greatest good -/
def blw (C : Nat → Nat → Int32) (n c : Nat) : Int32 :=
  if (pick (fun s => rst C n (nI s)) (fun s => vlS C n c (nI s)) (2 ^ n)).1 = -1 then -1
  else isum (fun p => gS C p (pick (fun s => decide (C 0 9 &&& (nI s ^^^ (-1)) = 0)) (fun s => vlS C n 3 (nI s)) (2 ^ n)).1) n - isum (fun p => gS C p (pick (fun s => rst C n (nI s)) (fun s => vlS C n c (nI s)) (2 ^ n)).1) n
theorem op_below {kp : Int32} {a b N : Nat} {M : Mem} (hI : Inv kp a b M) (hN : 4097 < N) (v1 : Int32) {c : Nat} (hc : c < 5) : Op kp a b M (fX6_belowGood N M a v1 (nI c)) (fun M1 => bd (fX7_isStreet N M1 b v1) (fun r1 => if r1 = 0 then bd (fX7_refuse N M1 b (-2)) (fun r3 => some (r3.1, r3.2)) else bd (fX7_below N M1 b v1 (nI c)) (fun r4 => some (r4, M1)))) := by
  unfold fX6_belowGood
  refine op_st hI v1 id _ _ ?_
  rintro k t n C hk ht e1 e2 rfl hC hV hM hW
  have h31 := pow31 hC.1.2
  obtain ⟨s1, hs1, g1⟩ := pick_good hC
  refine Op.same hI (blw C n c) ?_ ?_
  · rw [choose_r hV hC hc (by omega), bd_some, choose_g hV hC (by omega), bd_some, g1, good_c N hV hC (set12 hC hs1) (by omega), bd_some]
    unfold blw
    rw [g1]
    rcases pick_spec (fun s => rst C n (nI s)) (fun s => vlS C n c (nI s)) (2 ^ n) (by omega) with ⟨h1, -⟩ | ⟨s, hs, h1, -, -⟩
    · rw [if_pos h1, if_pos h1]
    · rw [h1, if_neg (nI_ne_m1 (by omega)), if_neg (nI_ne_m1 (by omega)), good_c N hV hC (set12 hC hs) (by omega)]; rfl
  · show bd _ _ = _
    unfold fX7_below
    rw [seek_m N hM hC (by omega) hc (by omega), bd_some, goodSet_m N hM hC (by omega) (by omega), bd_some, good_m N hM hC (by omega) _ (by omega), bd_some, good_m N hM hC (by omega) _ (by omega), bd_some]
    unfold blw
    by_cases q : (pick (fun s => rst C n (nI s)) (fun s => vlS C n c (nI s)) (2 ^ n)).1 = -1
    · rw [if_pos q, if_pos q]; rfl
    · rw [if_neg q, if_neg q]; rfl
theorem op_lost {kp : Int32} {a b N : Nat} {M : Mem} (hI : Inv kp a b M) (hN : 4097 < N) (v1 : Int32) : Op kp a b M (fX6_lost N M a v1) (fun M1 => fX7_lost N M1 b v1) := by
  unfold fX6_lost fX7_lost; simp only [bd_eta]; exact op_below hI hN v1 (c := 3) (by decide)
theorem op_beside {kp : Int32} {a b N : Nat} {M : Mem} (hI : Inv kp a b M) (hN : 4097 < N) (v1 : Int32) : Op kp a b M (fX6_beside N M a v1) (fun M1 => fX7_beside N M1 b v1) := by
  unfold fX6_beside fX7_beside; simp only [bd_eta]; exact op_below hI hN v1 (c := 4) (by decide)
theorem op_need {kp : Int32} {a b N : Nat} {M : Mem} (hI : Inv kp a b M) (hN : 4097 < N) (v1 v2 v3 : Int32) : Op kp a b M (fX6_need N M a v1 v2 v3) (fun M1 => fX7_need N M1 b v1 v2 v3) := by
  unfold fX6_need fX7_need
  refine op_sp hI v1 v2 id _ _ ?_
  rintro k t n C p hk ht e1 e2 rfl rfl hp hC hV hM hW
  refine op_set hI v3 hk ht e2 hC hV hM id _ _ ?_
  rintro s rfl hs
  refine Op.same hI (ndS C p (nI s)) ?_ ?_
  · rw [need_c N hV (Nat.lt_of_lt_of_le hp hC.1.2)]; rfl
  · show bd _ _ = _
    rw [need_m N hM hC (by omega) hp _ (by omega)]; rfl
/-! rest, by its number -/
theorem rest24 {N : Nat} {M : Mem} {m t n : Nat} {C : Nat → Nat → Int32} (hM : MV M m t n C) (hC : RC n C) (ht : t < 5) (hN : 4097 < N) (i : Int32) :
    fX7_rest_24 N M m (nI t) N i 0 = if fa_first (ith (fun s => rst C n (nI s)) i) (2 ^ n) < 2 ^ n then some (nI (fa_first (ith (fun s => rst C n (nI s)) i) (2 ^ n)), M) else some (-2, rM m M 2) := by
  have h31 := pow31 hC.1.2
  have h0 := Nat.two_pow_pos n
  have a := lp_first (fun k (s : Int32 × Int32) => fX7_rest_24 N M m (nI t) k s.1 s.2) (fun p => (i - nI (fb_ct (fun s => rst C n (nI s)) p), nI p)) (ith (fun s => rst C n (nI s)) i) (2 ^ n) (fun p => some (nI p, M)) (some (-2, rM m M 2))
    (fun k p hp h => by
      show fX7_rest_24 N M m (nI t) (k + 1) (i - nI (fb_ct (fun s => rst C n (nI s)) p)) (nI p) = fX7_rest_24 N M m (nI t) k (i - nI (fb_ct (fun s => rst C n (nI s)) (p + 1))) (nI (p + 1))
      rw [fX7_rest_24, all_s N hM ht hC.1.2, bd_some, if_neg (nI_nlt (by omega) (by omega)), rest_m N hM hC ht _ (by omega), bd_some, b1_if, nI_1, fb_ct_succ]
      unfold ith at h
      cases e : rst C n (nI p)
      · rw [if_neg (by decide), if_neg (by decide)]; rfl
      · simp only [e, Bool.true_and, decide_eq_false_iff_not] at h
        have e3 : i - nI (fb_ct (fun s => rst C n (nI s)) p) + (-1) = i - nI (fb_ct (fun s => rst C n (nI s)) p + 1) := by
          rw [← nI_1 (fb_ct (fun s => rst C n (nI s)) p)]; grind
        rw [if_pos rfl, if_pos rfl, if_neg (fun q => h (by grind)), e3])
    (fun k p hp h => by
      show fX7_rest_24 N M m (nI t) (k + 1) (i - nI (fb_ct (fun s => rst C n (nI s)) p)) (nI p) = some (nI p, M)
      rw [fX7_rest_24, all_s N hM ht hC.1.2, bd_some, if_neg (nI_nlt (by omega) (by omega)), rest_m N hM hC ht _ (by omega), bd_some, b1_if]
      unfold ith at h
      rw [Bool.and_eq_true, decide_eq_true_eq] at h
      rw [if_pos h.1, if_pos (by rw [h.2]; grind)])
    (fun k => by
      show fX7_rest_24 N M m (nI t) (k + 1) _ (nI (2 ^ n)) = _
      rw [fX7_rest_24, all_s N hM ht hC.1.2, bd_some, if_pos (nI_lt (by omega) (by omega)), rfM2]; rfl) (N := N) (by omega)
  refine Eq.trans ?_ a
  show fX7_rest_24 N M m (nI t) N i 0 = fX7_rest_24 N M m (nI t) N (i - nI 0) (nI 0)
  rw [show i - nI 0 = i by rw [nI_0]; grind]; rfl
theorem op_rest {kp : Int32} {a b N : Nat} {M : Mem} (hI : Inv kp a b M) (hN : 4097 < N) (v1 v2 : Int32) : Op kp a b M (fX6_rest N M a v1 v2) (fun M1 => fX7_rest N M1 b v1 v2) := by
  unfold fX6_rest fX7_rest
  refine op_st hI v1 id _ _ ?_
  rintro k t n C hk ht e1 e2 rfl hC hV hM hW
  have hab := hI.1
  have h31 := pow31 hC.1.2
  by_cases h0 : 0 ≤ v2
  · by_cases hf : fa_first (ith (fun s => rst C n (nI s)) v2) (2 ^ n) < 2 ^ n
    · refine Op.same hI (nI (fa_first (ith (fun s => rst C n (nI s)) v2) (2 ^ n))) ?_ ?_
      · rw [if_pos h0, restNo_c N hV hC _ (by omega), bd_some]
        unfold fst1
        rw [if_pos hf, if_neg (nI_ne_m1 (by omega))]
      · show (if _ then _ else _) = _
        rw [if_pos h0, rest24 hM hC (by omega) hN, if_pos hf]
    · refine Op.ref hI (w := 2) (by decide) (by decide) (-2) ?_ ?_
      · rw [if_pos h0, restNo_c N hV hC _ (by omega), bd_some]
        unfold fst1
        rw [if_neg hf, if_pos rfl, rfC2]; rfl
      · show (if _ then _ else _) = _
        rw [if_pos h0, rest24 (MV_rC hab (by omega) hM) hC (by omega) hN, if_neg hf]
  · refine Op.ref hI (w := 2) (by decide) (by decide) (-2) ?_ ?_
    · rw [if_neg h0, rfC2]; rfl
    · show (if _ then _ else _) = _
      rw [if_neg h0, rfM2]; rfl
/-! pay -/
theorem pay_c {N : Nat} {M : Mem} {a c n : Nat} {C : Nat → Nat → Int32} (hV : CV M c C) (hC : RC n C) (d : Int32) (hN : 4097 < N) : fX6_pay_39 N M a c d N 0 0 = some (isum (fun p => ndS C p d) n, M) := by
  have hn := hC.1.2
  obtain ⟨k, hk⟩ := lp (fun k (s : Int32 × Int32) => fX6_pay_39 N M a c d k s.1 s.2) (fun p => (isum (fun p => ndS C p d) p, nI p)) n (fun k p hp => by
    show fX6_pay_39 N M a c d (k + 1) _ (nI p) = fX6_pay_39 N M a c d k _ (nI (p + 1))
    rw [fX6_pay_39, CV0 hV, hC.2.1, if_neg (nI_ge hp (by omega)), need_c N hV (by omega), bd_some, nm_eq, nI_1]; rfl) (N := N) (by omega)
  refine hk.trans ?_
  show fX6_pay_39 N M a c d (k + 1) _ (nI n) = _
  rw [fX6_pay_39, CV0 hV, hC.2.1, if_pos (nI_le (Nat.le_refl n) (by omega))]
theorem pay_m {N : Nat} {M : Mem} {m t n : Nat} {C : Nat → Nat → Int32} (hM : MV M m t n C) (hC : RC n C) (ht : t < 5) (d : Int32) (hN : 4097 < N) : fX7_pay_42 N M m (nI t) d N 0 0 = some (isum (fun p => ndS C p d) n, M) := by
  have hn := hC.1.2
  obtain ⟨k, hk⟩ := lp (fun k (s : Int32 × Int32) => fX7_pay_42 N M m (nI t) d k s.1 s.2) (fun p => (isum (fun p => ndS C p d) p, nI p)) n (fun k p hp => by
    show fX7_pay_42 N M m (nI t) d (k + 1) _ (nI p) = fX7_pay_42 N M m (nI t) d k _ (nI (p + 1))
    rw [fX7_pay_42, gd_nI ht (by decide), nI_clamp (n := t) (by omega), hM.1, if_neg (nI_ge hp (by omega)), need_m N hM hC ht hp _ (by omega), bd_some, nm_eq, nI_1]; rfl) (N := N) (by omega)
  refine hk.trans ?_
  show fX7_pay_42 N M m (nI t) d (k + 1) _ (nI n) = _
  rw [fX7_pay_42, gd_nI ht (by decide), nI_clamp (n := t) (by omega), hM.1, if_pos (nI_le (Nat.le_refl n) (by omega))]
theorem few_c {N : Nat} {M : Mem} {a c n : Nat} {C : Nat → Nat → Int32} (hV : CV M c C) (hC : RC n C) (d : Int32) (hN : 4097 < N) : fX6_few_39 N M a c d N 0 0 = some (isum (fun p => if ndS C p d ≤ 0 then 0 else 1) n, M) := by
  have hn := hC.1.2
  obtain ⟨k, hk⟩ := lp (fun k (s : Int32 × Int32) => fX6_few_39 N M a c d k s.1 s.2) (fun p => (isum (fun p => if ndS C p d ≤ 0 then 0 else 1) p, nI p)) n (fun k p hp => by
    show fX6_few_39 N M a c d (k + 1) _ (nI p) = fX6_few_39 N M a c d k (isum (fun p => if ndS C p d ≤ 0 then 0 else 1) p + (if ndS C p d ≤ 0 then 0 else 1)) (nI (p + 1))
    rw [fX6_few_39, CV0 hV, hC.2.1, if_neg (nI_ge hp (by omega)), need_c N hV (by omega), bd_some, nI_1]
    by_cases q : ndS C p d ≤ 0
    · rw [if_pos q, if_pos q, Int32.add_zero]
    · rw [if_neg q, if_neg q]) (N := N) (by omega)
  refine hk.trans ?_
  show fX6_few_39 N M a c d (k + 1) _ (nI n) = _
  rw [fX6_few_39, CV0 hV, hC.2.1, if_pos (nI_le (Nat.le_refl n) (by omega))]
theorem few_m {N : Nat} {M : Mem} {m t n : Nat} {C : Nat → Nat → Int32} (hM : MV M m t n C) (hC : RC n C) (ht : t < 5) (d : Int32) (hN : 4097 < N) : fX7_few_42 N M m (nI t) d N 0 0 = some (isum (fun p => if ndS C p d ≤ 0 then 0 else 1) n, M) := by
  have hn := hC.1.2
  obtain ⟨k, hk⟩ := lp (fun k (s : Int32 × Int32) => fX7_few_42 N M m (nI t) d k s.1 s.2) (fun p => (isum (fun p => if ndS C p d ≤ 0 then 0 else 1) p, nI p)) n (fun k p hp => by
    show fX7_few_42 N M m (nI t) d (k + 1) _ (nI p) = fX7_few_42 N M m (nI t) d k (isum (fun p => if ndS C p d ≤ 0 then 0 else 1) p + (if ndS C p d ≤ 0 then 0 else 1)) (nI (p + 1))
    rw [fX7_few_42, gd_nI ht (by decide), nI_clamp (n := t) (by omega), hM.1, if_neg (nI_ge hp (by omega)), need_m N hM hC ht hp _ (by omega), bd_some, nm_eq, nm_eq, nI_1]
    by_cases q : ndS C p d ≤ 0
    · rw [if_pos q, if_pos q]
    · rw [if_neg q, if_neg q]) (N := N) (by omega)
  refine hk.trans ?_
  show fX7_few_42 N M m (nI t) d (k + 1) _ (nI n) = _
  rw [fX7_few_42, gd_nI ht (by decide), nI_clamp (n := t) (by omega), hM.1, if_pos (nI_le (Nat.le_refl n) (by omega))]
theorem op_pay {kp : Int32} {a b N : Nat} {M : Mem} (hI : Inv kp a b M) (hN : 4097 < N) (v1 v2 : Int32) : Op kp a b M (fX6_pay N M a v1 v2) (fun M1 => fX7_pay N M1 b v1 v2) := by
  unfold fX6_pay fX7_pay
  refine op_ws hI v1 v2 id _ _ ?_
  rintro k t n C s hk ht e1 e2 rfl rfl hs hC hV hM hW
  have hab := hI.1
  by_cases q : C 0 9 &&& (nI s ^^^ (-1)) = 0
  · refine Op.same hI (isum (fun p => ndS C p (nI s)) n) ?_ ?_
    · rw [must_c N hV, bd_some, b1_if, if_pos (decide_eq_true q), pay_c hV hC _ hN]
    · show gd _ _ _ = _
      rw [gd_nI (by omega) (by decide), nI_clamp (by omega), hM.2.2.1, if_pos q, pay_m hM hC (by omega) _ hN]
  · refine Op.ref hI (w := 5) (by decide) (by decide) (-5) ?_ ?_
    · rw [must_c N hV, bd_some, b1_if, if_neg (by rw [decide_eq_false q]; decide), rfC5]; rfl
    · show gd _ _ _ = _
      rw [gd_nI (by omega) (by decide), nI_clamp (by omega), (MV_rC hab (by omega) hM).2.2.1, if_neg q, rfM5]; rfl
theorem op_few {kp : Int32} {a b N : Nat} {M : Mem} (hI : Inv kp a b M) (hN : 4097 < N) (v1 v2 : Int32) : Op kp a b M (fX6_few N M a v1 v2) (fun M1 => fX7_few N M1 b v1 v2) := by
  unfold fX6_few fX7_few
  refine op_ws hI v1 v2 id _ _ ?_
  rintro k t n C s hk ht e1 e2 rfl rfl hs hC hV hM hW
  have hab := hI.1
  by_cases q : C 0 9 &&& (nI s ^^^ (-1)) = 0
  · refine Op.same hI (isum (fun p => if ndS C p (nI s) ≤ 0 then 0 else 1) n) ?_ ?_
    · rw [must_c N hV, bd_some, b1_if, if_pos (decide_eq_true q), few_c hV hC _ hN]
    · show gd _ _ _ = _
      rw [gd_nI (by omega) (by decide), nI_clamp (by omega), hM.2.2.1, if_pos q, few_m hM hC (by omega) _ hN]
  · refine Op.ref hI (w := 5) (by decide) (by decide) (-5) ?_ ?_
    · rw [must_c N hV, bd_some, b1_if, if_neg (by rw [decide_eq_false q]; decide), rfC5]; rfl
    · show gd _ _ _ = _
      rw [gd_nI (by omega) (by decide), nI_clamp (by omega), (MV_rC hab (by omega) hM).2.2.1, if_neg q, rfM5]; rfl
