/-! ===== the reference's street: what each function answers ===== -/
section MDL
variable {N : Nat} {M : Mem} {m t n : Nat} {C : Nat → Nat → Int32}
theorem in_s (N : Nat) (M : Mem) (v a b : Int64) : fX7_in N M v a b = some (b1 (decide (a ≤ v) && decide (v ≤ b))) := by
  unfold fX7_in
  by_cases h : v < a
  · rw [if_pos ((lg_cmp_lt v a).mpr h), decide_eq_false (fun q => by rw [fa_le64] at q; rw [fa_lt64] at h; omega)]; rfl
  · rw [if_neg (fun q => h ((lg_cmp_lt v a).mp q)), decide_eq_true (by rw [fa_le64]; rw [fa_lt64] at h; omega), Bool.true_and]
    by_cases h2 : b < v
    · rw [if_pos ((lg_cmp_gt v b).mpr h2), decide_eq_false (fun q => by rw [fa_le64] at q; rw [fa_lt64] at h2; omega)]; rfl
    · rw [if_neg (fun q => h2 ((lg_cmp_gt v b).mp q)), decide_eq_true (by rw [fa_le64]; rw [fa_lt64] at h2; omega)]; rfl
theorem in_w (N : Nat) (M : Mem) (v a b : Int32) {A B : Int64} (hA : A = a.toInt64) (hB : B = b.toInt64) : fX7_in N M v.toInt64 A B = some (b1 (decide (a ≤ v) && decide (v ≤ b))) := by
  subst hA; subst hB
  rw [in_s, decide_eq_decide.mpr (fa_wide_le a v), decide_eq_decide.mpr (fa_wide_le v b)]
theorem within_s (N : Nat) (M : Mem) (v a b : Int32) : fX6_isWithin N M v a b = some (b1 (decide (a ≤ v) && decide (v ≤ b))) := by
  unfold fX6_isWithin
  by_cases h : v < a
  · rw [if_pos h, decide_eq_false (fun q => (le_nlt _ _).mp q h)]; rfl
  · rw [if_neg h, decide_eq_true ((le_nlt _ _).mpr h), Bool.true_and]
    by_cases h2 : b < v
    · rw [if_pos h2, decide_eq_false (fun q => (le_nlt _ _).mp q h2)]; rfl
    · rw [if_neg h2, decide_eq_true ((le_nlt _ _).mpr h2)]; rfl
theorem rng_y {p k : Nat} (h : p < k) (hk : k < 2 ^ 31) : (decide ((0 : Int32) ≤ nI p) && decide (nI p ≤ nI k - 1)) = true := by
  rw [decide_eq_true (nI_pos' (by omega)), show (1 : Int32) = nI 1 from rfl, pk_sub (by omega), decide_eq_true (nI_le (by omega) (by omega))]; rfl
theorem rng_n {v : Int32} {k : Nat} (h : v < 0 ∨ nI k ≤ v) (hk : k < 2 ^ 31) : (decide ((0 : Int32) ≤ v) && decide (v ≤ nI k - 1)) = false := by
  rcases h with h | h
  · rw [decide_eq_false (fun q => (le_nlt _ _).mp q h)]; rfl
  · by_cases h0 : v < 0
    · rw [decide_eq_false (fun q => (le_nlt _ _).mp q h0)]; rfl
    · rw [decide_eq_false (p := v ≤ nI k - 1), Bool.and_false]
      obtain ⟨j, hj, rfl⟩ := nI_of h0
      have hkj : k ≤ j := (nI_leI hk hj).mp h
      by_cases hz : k = 0
      · subst hz
        intro q
        have e : nI 0 - 1 = -1 := by decide
        rw [e, fa_le, nI_toInt hj] at q
        have : (-1 : Int32).toInt = -1 := by decide
        omega
      · rw [show (1 : Int32) = nI 1 from rfl, pk_sub (by omega)]
        exact nI_ge (by omega) hj
theorem isStreet_s (N : Nat) (v : Int32) : fX7_isStreet N M m v = some (b1 (decide ((0 : Int32) ≤ v) && decide (v ≤ M.1 m 10 - 1))) := by
  unfold fX7_isStreet
  rw [in_w N M v 0 (M.1 m 10 - 1) (by decide) rfl, bd_some, gc_b1]
theorem isStreet_y (N : Nat) {k : Nat} (h : M.1 m 10 = nI k) (hk : k < 2 ^ 31) (ht : t < k) : fX7_isStreet N M m (nI t) = some 1 := by
  rw [isStreet_s, h, rng_y ht hk]; rfl
theorem isStreet_n (N : Nat) {k : Nat} (h : M.1 m 10 = nI k) (hk : k < 2 ^ 31) {v : Int32} (hv : v < 0 ∨ nI k ≤ v) : fX7_isStreet N M m v = some 0 := by
  rw [isStreet_s, h, rng_n hv hk]; rfl
theorem all_s (N : Nat) (hM : MV M m t n C) (ht : t < 5) (hn : n ≤ 12) : fX7_all N M m (nI t) = some (nI (2 ^ n - 1)) := by
  unfold fX7_all
  have := Nat.two_pow_pos n
  rw [gd_nI ht (by decide), nI_clamp (by omega), hM.1, sh1 (by omega), show (1 : Int32) = nI 1 from rfl, pk_sub (by omega)]
theorem isPerson_y (N : Nat) {k : Nat} (h : M.1 m 10 = nI k) (hk : k < 5) (ht : t < k) (hM : MV M m t n C) (hn : n ≤ 12) {p : Nat} (hp : p < n) : fX7_isPerson N M m (nI t) (nI p) = some 1 := by
  unfold fX7_isPerson
  rw [isStreet_y N h (by omega) ht, bd_some, if_neg (by decide), gd_nI (by omega) (by decide), nI_clamp (by omega), hM.1, in_w N M (nI p) 0 (nI n - 1) (by decide) rfl, bd_some, rng_y hp (by omega)]; rfl
theorem isPerson_n (N : Nat) {k : Nat} (h : M.1 m 10 = nI k) (hk : k < 5) (ht : t < k) (hM : MV M m t n C) (hn : n ≤ 12) {v : Int32} (hv : v < 0 ∨ nI n ≤ v) : fX7_isPerson N M m (nI t) v = some 0 := by
  unfold fX7_isPerson
  rw [isStreet_y N h (by omega) ht, bd_some, if_neg (by decide), gd_nI (by omega) (by decide), nI_clamp (by omega), hM.1, in_w N M v 0 (nI n - 1) (by decide) rfl, bd_some, rng_n hv (by omega)]; rfl
theorem isPerson_no (N : Nat) {k : Nat} (h : M.1 m 10 = nI k) (hk : k < 5) {v w : Int32} (hv : v < 0 ∨ nI k ≤ v) : fX7_isPerson N M m v w = some 0 := by
  unfold fX7_isPerson
  rw [isStreet_n N h (by omega) hv, bd_some, if_pos rfl]
theorem isSet_no (N : Nat) {k : Nat} (h : M.1 m 10 = nI k) (hk : k < 5) {v : Int32} {w : Int64} (hv : v < 0 ∨ nI k ≤ v) : fX7_isSet N M m v w = some 0 := by
  unfold fX7_isSet
  rw [isStreet_n N h (by omega) hv, bd_some, if_pos rfl]
theorem isSet_l (N : Nat) {k : Nat} (h : M.1 m 10 = nI k) (hk : k < 5) (ht : t < k) (hM : MV M m t n C) (hn : n ≤ 12) (w : Int64) : fX7_isSet N M m (nI t) w = some (b1 (decide (0 ≤ w) && decide (w ≤ lN (2 ^ n - 1)))) := by
  have h31 := pow31 hn
  unfold fX7_isSet
  rw [isStreet_y N h (by omega) ht, bd_some, if_neg (by decide), all_s N hM (by omega) hn, bd_some, in_s, nI_l (by omega), bd_some]
  cases (decide (0 ≤ w) && decide (w ≤ lN (2 ^ n - 1))) <;> rfl
theorem isSet_i (N : Nat) {k : Nat} (h : M.1 m 10 = nI k) (hk : k < 5) (ht : t < k) (hM : MV M m t n C) (hn : n ≤ 12) (w : Int32) : fX7_isSet N M m (nI t) w.toInt64 = some (b1 (decide ((0 : Int32) ≤ w) && decide (w ≤ nI (2 ^ n) - 1))) := by
  have h31 := pow31 hn
  have := Nat.two_pow_pos n
  unfold fX7_isSet
  rw [isStreet_y N h (by omega) ht, bd_some, if_neg (by decide), all_s N hM (by omega) hn, bd_some, in_w N M w 0 (nI (2 ^ n - 1)) (by decide) rfl, bd_some, show (1 : Int32) = nI 1 from rfl, pk_sub (by omega)]
  cases (decide ((0 : Int32) ≤ w) && decide (w ≤ nI (2 ^ n - 1))) <;> rfl
theorem isSet_y (N : Nat) {k : Nat} (h : M.1 m 10 = nI k) (hk : k < 5) (ht : t < k) (hM : MV M m t n C) (hn : n ≤ 12) {s : Nat} (hs : s < 2 ^ n) : fX7_isSet N M m (nI t) (nI s).toInt64 = some 1 := by
  have h31 := pow31 hn
  rw [isSet_i N h hk ht hM hn, rng_y hs (by omega)]; rfl
theorem isSet_n (N : Nat) {k : Nat} (h : M.1 m 10 = nI k) (hk : k < 5) (ht : t < k) (hM : MV M m t n C) (hn : n ≤ 12) {w : Int32} (hw : w < 0 ∨ nI (2 ^ n) ≤ w) : fX7_isSet N M m (nI t) w.toInt64 = some 0 := by
  have h31 := pow31 hn
  rw [isSet_i N h hk ht hM hn, rng_n hw (by omega)]; rfl
theorem prices_m (N : Nat) (hM : MV M m t n C) (hC : RC n C) (ht : t < 5) {p : Nat} (hp : p < n) (hN : 12 < N) : fX7_pricesOf N M m (nI t) (nI p) = some (C 7 p) := by
  have hn := hC.1.2
  obtain ⟨-, -, -, -, -, hne, hpr, hpay⟩ := hC
  unfold fX7_pricesOf
  obtain ⟨k, hk⟩ := lp (fun k (s : Int32 × Int32) => fX7_pricesOf_5 N M m (nI t) (nI p) k s.1 s.2) (fun q => (isum (fun q => C 6 (12 * p + q)) q, nI q)) n (fun k q hq => by
    show fX7_pricesOf_5 N M m (nI t) (nI p) (k + 1) _ (nI q) = fX7_pricesOf_5 N M m (nI t) (nI p) k (isum (fun q => C 6 (12 * p + q)) q + C 6 (12 * p + q)) (nI (q + 1))
    have e12 : nI p * 12 + nI q = nI (12 * p + q) := by
      rw [show (12 : Int32) = nI 12 from rfl, pk_mul, nI_add, Nat.mul_comm]
    rw [fX7_pricesOf_5, gd_nI ht (by decide), nI_clamp (n := t) (by omega), hM.1, if_neg (nI_ge hq (by omega)), gd_nI (p := p) (by omega) (by decide), nI_clamp (n := p) (by omega), hM.2.2.2.2.1 p (by omega), shr1 _ (by omega), b1_if, nI_1, nm_eq, e12, gd_nI (p := 12 * p + q) (by omega) (by decide), nI_clamp (n := 12 * p + q) (by omega), hM.2.2.2.2.2 _ (by omega), nm_eq]
    cases e : bt (C 3 p) q
    · rw [if_neg (by decide), (hpr p (by omega) q (by omega)).1 e]
    · rw [if_pos rfl]) (N := N) (by omega)
  refine hk.trans ?_
  show fX7_pricesOf_5 N M m (nI t) (nI p) (k + 1) _ (nI n) = _
  rw [fX7_pricesOf_5, gd_nI ht (by decide), nI_clamp (n := t) (by omega), hM.1, if_pos (nI_le (Nat.le_refl n) (by omega)), hpay p (by omega)]
  have e := isum_ext (f := fun q => C 6 (12 * p + q)) (n := n) (m := 12 - n) (fun q h1 h2 => (hpr p (by omega) q (by omega)).1 (by
    cases e : bt (C 3 p) q
    · rfl
    · exact absurd (hne p (by omega) q e).2.1 (by omega)))
  rw [show n + (12 - n) = 12 by omega] at e
  rw [e]
theorem gain_m (N : Nat) (hM : MV M m t n C) (hC : RC n C) (ht : t < 5) {p : Nat} (hp : p < n) (d : Int32) (hN : 32 < N) : fX7_gainOf N M m (nI t) (nI p) d = some (gS C p d) := by
  have hn := hC.1.2
  unfold fX7_gainOf
  have ec : d &&& (C 3 p ||| nI (2 ^ p)) = (C 3 p ||| nI (2 ^ p)) &&& d := Int32.and_comm _ _
  rw [gd_nI ht (by decide), gd_nI (p := p) (by omega) (by decide), nI_clamp (n := t) (by omega), nI_clamp (n := p) (by omega), sh1 (by omega), hM.2.2.2.2.1 p (by omega), bits_s N M _ hN, bd_some, ec]
  simp only [prices_m N hM hC ht hp (by omega), bd_some, nm_eq, shr1 d (show p < 32 by omega), b1_if, (hM.2.2.2.1 p hp).1, (hM.2.2.2.1 p hp).2, hM.2.1]
  unfold gS
  by_cases h0 : hel C p d = 0
  · have h1 : nI (cntN ((C 3 p ||| nI (2 ^ p)) &&& d)) ≤ 0 := by
      show nI (hel C p d) ≤ 0
      rw [h0]; decide
    rw [if_pos h1, if_pos h0]
    cases bt d p <;> rfl
  · have h1 : ¬ nI (cntN ((C 3 p ||| nI (2 ^ p)) &&& d)) ≤ 0 := nI_nle (Nat.pos_of_ne_zero h0) (Nat.lt_of_le_of_lt (cnt_le _) (by decide))
    rw [if_neg h1, if_neg h0]
    cases bt d p <;> rfl
theorem good_m (N : Nat) (hM : MV M m t n C) (hC : RC n C) (ht : t < 5) (d : Int32) (hN : 32 < N) : fX7_goodOf N M m (nI t) d = some (isum (fun p => gS C p d) n) := by
  have hn := hC.1.2
  unfold fX7_goodOf
  obtain ⟨k, hk⟩ := lp (fun k (s : Int32 × Int32) => fX7_goodOf_5 N M m (nI t) d k s.1 s.2) (fun p => (isum (fun p => gS C p d) p, nI p)) n (fun k p hp => by
    show fX7_goodOf_5 N M m (nI t) d (k + 1) _ (nI p) = fX7_goodOf_5 N M m (nI t) d k _ (nI (p + 1))
    rw [fX7_goodOf_5, gd_nI ht (by decide), nI_clamp (n := t) (by omega), hM.1, if_neg (nI_ge hp (by omega)), gain_m N hM hC ht hp d hN, bd_some, nm_eq, nI_1]; rfl) (N := N) (by omega)
  refine hk.trans ?_
  show fX7_goodOf_5 N M m (nI t) d (k + 1) _ (nI n) = _
  rw [fX7_goodOf_5, gd_nI ht (by decide), nI_clamp (n := t) (by omega), hM.1, if_pos (nI_le (Nat.le_refl n) (by omega))]
theorem would_m (N : Nat) (hM : MV M m t n C) (hC : RC n C) (ht : t < 5) {p : Nat} (hp : p < n) (d : Int32) (hN : 32 < N) : fX7_would N M m (nI t) (nI p) d = some (b1 (wld C p d)) := by
  have hn := hC.1.2
  unfold fX7_would wld
  rw [gd_nI ht (by decide), nI_clamp (n := t) (by omega), hM.2.2.1, shr1 _ (by omega), b1_if, sh1 (by omega), gain_m N hM hC ht hp _ hN, bd_some, gain_m N hM hC ht hp _ hN, bd_some]
  cases bt (C 0 9) p
  · rw [if_neg (by decide)]
    by_cases h : gbc C p d ≤ 0
    · rw [if_pos ((gS_le hC hp d).mpr h), decide_eq_false (fun q => (le_nlt _ _).mp h q)]; rfl
    · rw [if_neg (fun q => h ((gS_le hC hp d).mp q)), decide_eq_true (fa_of_nle h)]; rfl
  · rfl
theorem need_m (N : Nat) (hM : MV M m t n C) (hC : RC n C) (ht : t < 5) {p : Nat} (hp : p < n) (d : Int32) (hN : 32 < N) : fX7_needOf N M m (nI t) (nI p) d = some (ndS C p d) := by
  have hn := hC.1.2
  unfold fX7_needOf ndS wld
  rw [gd_nI ht (by decide), nI_clamp (n := t) (by omega), hM.2.2.1, shr1 _ (by omega), b1_if, sh1 (by omega), gain_m N hM hC ht hp _ hN, bd_some, gain_m N hM hC ht hp _ hN, bd_some, nm_eq, gS_diff hC hp]
  cases bt (C 0 9) p
  · rw [if_neg (by decide)]
    by_cases h : gbc C p d ≤ 0
    · rw [if_pos h, decide_eq_false (fun q => (le_nlt _ _).mp h q)]; rfl
    · rw [if_neg h, decide_eq_true (fa_of_nle h)]; rfl
  · rfl
theorem first_m (N : Nat) (hM : MV M m t n C) (hC : RC n C) (ht : t < 5) (d : Int32) (hN : 32 < N) : fX7_firstOf N M m (nI t) d = some (fst1 (rsl C d) n) := by
  have hn := hC.1.2
  unfold fX7_firstOf fst1
  have a := lp_first (fun k (p : Int32) => fX7_firstOf_2 N M m (nI t) d k p) nI (rsl C d) n (fun p => some (nI p)) (some (-1))
    (fun k p hp h => by
      show fX7_firstOf_2 N M m (nI t) d (k + 1) (nI p) = fX7_firstOf_2 N M m (nI t) d k (nI (p + 1))
      rw [fX7_firstOf_2, gd_nI ht (by decide), nI_clamp (n := t) (by omega), hM.1, if_neg (nI_ge hp (by omega)), hM.2.2.1, shr1 _ (by omega), b1_if, shr1 _ (by omega), b1_if, would_m N hM hC ht hp d hN, bd_some, b1_if, nI_1]
      simp only [i10, i00, if_true, if_false]
      unfold rsl at h
      unfold wld
      cases e : bt (C 0 9) p
      · rw [e, if_neg (by decide)] at h
        rw [if_neg (by decide), h]; rfl
      · rw [e, if_pos rfl] at h
        rw [if_pos rfl]
        cases e2 : bt d p
        · rw [e2] at h; cases h
        · rfl)
    (fun k p hp h => by
      show fX7_firstOf_2 N M m (nI t) d (k + 1) (nI p) = some (nI p)
      rw [fX7_firstOf_2, gd_nI ht (by decide), nI_clamp (n := t) (by omega), hM.1, if_neg (nI_ge hp (by omega)), hM.2.2.1, shr1 _ (by omega), b1_if, shr1 _ (by omega), b1_if, would_m N hM hC ht hp d hN, bd_some, b1_if, nI_1]
      simp only [i10, i00, if_true, if_false]
      unfold rsl at h
      unfold wld
      cases e : bt (C 0 9) p
      · rw [e, if_neg (by decide)] at h
        rw [if_neg (by decide), h]; rfl
      · rw [e, if_pos rfl] at h
        rw [if_pos rfl]
        cases e2 : bt d p
        · rfl
        · rw [e2] at h; cases h)
    (fun k => by
      show fX7_firstOf_2 N M m (nI t) d (k + 1) (nI n) = some (-1)
      rw [fX7_firstOf_2, gd_nI ht (by decide), nI_clamp (n := t) (by omega), hM.1, if_pos (nI_le (Nat.le_refl n) (by omega))]) (N := N) (by omega)
  refine a.trans ?_
  by_cases q : fa_first (rsl C d) n < n
  · rw [if_pos q, if_pos q]
  · rw [if_neg q, if_neg q]
theorem rest_m (N : Nat) (hM : MV M m t n C) (hC : RC n C) (ht : t < 5) (d : Int32) (hN : 32 < N) : fX7_isRest N M m (nI t) d = some (b1 (rst C n d)) := by
  have hn := hC.1.2
  unfold fX7_isRest
  rw [first_m N hM hC ht d hN, bd_some]
  by_cases h : rst C n d = true
  · rw [if_pos ((fst1_rst (by omega) d).mpr h), h]; rfl
  · rw [if_neg (fun q => h ((fst1_rst (by omega) d).mp q))]
    cases e : rst C n d
    · rfl
    · exact absurd e h
theorem rests_m (N : Nat) (hM : MV M m t n C) (hC : RC n C) (ht : t < 5) (hN : 4096 < N) : fX7_countRests N M m (nI t) = some (nI (fb_ct (fun s => rst C n (nI s)) (2 ^ n))) := by
  have h31 := pow31 hC.1.2
  have h0 := Nat.two_pow_pos n
  unfold fX7_countRests
  obtain ⟨k, hk⟩ := lp (fun k (s : Int32 × Int32) => fX7_countRests_4 N M m (nI t) k s.1 s.2) (fun p => (nI (fb_ct (fun s => rst C n (nI s)) p), nI p)) (2 ^ n) (fun k p hp => by
    show fX7_countRests_4 N M m (nI t) (k + 1) (nI (fb_ct (fun s => rst C n (nI s)) p)) (nI p) = fX7_countRests_4 N M m (nI t) k (nI (fb_ct (fun s => rst C n (nI s)) (p + 1))) (nI (p + 1))
    rw [fX7_countRests_4, all_s N hM ht hC.1.2, bd_some, if_neg (nI_nlt (by omega) (by omega)), rest_m N hM hC ht _ (by omega), bd_some, b1_if, nI_1, nm_eq, nm_eq, nI_1, fb_ct_succ]
    cases rst C n (nI p)
    · rw [if_neg (by decide), if_neg (by decide), Int32.add_zero]; rfl
    · rfl) (N := N) (by omega)
  refine hk.trans ?_
  show fX7_countRests_4 N M m (nI t) (k + 1) _ (nI (2 ^ n)) = _
  rw [fX7_countRests_4, all_s N hM ht hC.1.2, bd_some, if_pos (nI_lt (by omega) (by omega))]
theorem cost_m (N : Nat) (hM : MV M m t n C) (hC : RC n C) (ht : t < 5) (d : Int32) (hN : 32 < N) : fX7_costOf N M m (nI t) d = some (csS C n d) := by
  have hn := hC.1.2
  unfold fX7_costOf csS
  obtain ⟨k, hk⟩ := lp (fun k (s : Int32 × Int32) => fX7_costOf_5 N M m (nI t) d k s.1 s.2) (fun p => (isum (fun p => if bt d p = true then C 1 p else 0) p, nI p)) n (fun k p hp => by
    show fX7_costOf_5 N M m (nI t) d (k + 1) _ (nI p) = fX7_costOf_5 N M m (nI t) d k (isum (fun p => if bt d p = true then C 1 p else 0) p + (if bt d p = true then C 1 p else 0)) (nI (p + 1))
    rw [fX7_costOf_5, gd_nI ht (by decide), nI_clamp (n := t) (by omega), hM.1, if_neg (nI_ge hp (by omega)), shr1 _ (by omega), b1_if, gd_nI (p := p) (by omega) (by decide), nm_eq, nm_eq, nI_1, nI_clamp (n := p) (by omega), (hM.2.2.2.1 p hp).1]
    cases bt d p <;> rfl) (N := N) (by omega)
  refine hk.trans ?_
  show fX7_costOf_5 N M m (nI t) d (k + 1) _ (nI n) = _
  rw [fX7_costOf_5, gd_nI ht (by decide), nI_clamp (n := t) (by omega), hM.1, if_pos (nI_le (Nat.le_refl n) (by omega))]
theorem value_m (N : Nat) (hM : MV M m t n C) (hC : RC n C) (ht : t < 5) (d : Int32) {b : Nat} (hb : b < 5) (hN : 32 < N) : fX7_worthOf N M m (nI t) d (nI b) = some (vlS C n b d) := by
  unfold fX7_worthOf vlS
  rw [bits_s N M _ hN, cost_m N hM hC ht _ hN, good_m N hM hC ht _ hN]
  have h5 : b = 0 ∨ b = 1 ∨ b = 2 ∨ b = 3 ∨ b = 4 := by omega
  rcases h5 with rfl | rfl | rfl | rfl | rfl <;> rfl
theorem seek_m (N : Nat) (hM : MV M m t n C) (hC : RC n C) (ht : t < 5) {b : Nat} (hb : b < 5) (hN : 4096 < N) :
    fX7_seek N M m (nI t) (nI b) = some (pick (fun s => rst C n (nI s)) (fun s => vlS C n b (nI s)) (2 ^ n)).1 := by
  have h31 := pow31 hC.1.2
  have h0 := Nat.two_pow_pos n
  unfold fX7_seek
  obtain ⟨k, hk⟩ := lp (fun k (s : Int32 × Int32 × Int32) => fX7_seek_8 N M m (nI t) (nI b) k s.1 s.2.1 s.2.2) (fun p => ((pick (fun s => rst C n (nI s)) (fun s => vlS C n b (nI s)) p).1, (pick (fun s => rst C n (nI s)) (fun s => vlS C n b (nI s)) p).2, nI p)) (2 ^ n) (fun k p hp => by
    show fX7_seek_8 N M m (nI t) (nI b) (k + 1) _ _ (nI p) = fX7_seek_8 N M m (nI t) (nI b) k _ _ (nI (p + 1))
    rw [fX7_seek_8, all_s N hM ht hC.1.2, bd_some, if_neg (nI_nlt (by omega) (by omega)), rest_m N hM hC ht _ (by omega), bd_some, b1_if, value_m N hM hC ht _ hb (by omega), bd_some, nI_1]
    rw [pick]
    by_cases h1 : rst C n (nI p) = true
    · simp only [h1, if_true]
      split
      · rfl
      · split <;> rfl
    · simp only [h1, if_false]
      rfl) (N := N) (by omega)
  refine hk.trans ?_
  show fX7_seek_8 N M m (nI t) (nI b) (k + 1) _ _ (nI (2 ^ n)) = _
  rw [fX7_seek_8, all_s N hM ht hC.1.2, bd_some, if_pos (nI_lt (by omega) (by omega))]
theorem mustEq (x d : Int32) : ((d &&& x) = x) ↔ (x &&& (d ^^^ (-1)) = 0) := by
  constructor
  · intro h
    apply b_ext; intro i hi
    have a : bt (d &&& x) i = bt x i := by rw [h]
    rw [b_and] at a
    rw [b_and, bt_not _ hi, b_0]
    revert a; cases bt d i <;> cases bt x i <;> simp
  · intro h
    apply b_ext; intro i hi
    have a : bt (x &&& (d ^^^ (-1))) i = false := by rw [h, b_0]
    rw [b_and, bt_not _ hi] at a
    rw [b_and]
    revert a; cases bt d i <;> cases bt x i <;> simp
theorem goodSet_m (N : Nat) (hM : MV M m t n C) (hC : RC n C) (ht : t < 5) (hN : 4096 < N) :
    fX7_goodSet N M m (nI t) = some (pick (fun s => decide (C 0 9 &&& (nI s ^^^ (-1)) = 0)) (fun s => vlS C n 3 (nI s)) (2 ^ n)).1 := by
  have h31 := pow31 hC.1.2
  have h0 := Nat.two_pow_pos n
  unfold fX7_goodSet
  obtain ⟨k, hk⟩ := lp (fun k (s : Int32 × Int32 × Int32) => fX7_goodSet_7 N M m (nI t) k s.1 s.2.1 s.2.2) (fun p => ((pick (fun s => decide (C 0 9 &&& (nI s ^^^ (-1)) = 0)) (fun s => vlS C n 3 (nI s)) p).1, (pick (fun s => decide (C 0 9 &&& (nI s ^^^ (-1)) = 0)) (fun s => vlS C n 3 (nI s)) p).2, nI p)) (2 ^ n) (fun k p hp => by
    show fX7_goodSet_7 N M m (nI t) (k + 1) _ _ (nI p) = fX7_goodSet_7 N M m (nI t) k _ _ (nI (p + 1))
    rw [fX7_goodSet_7, all_s N hM ht hC.1.2, bd_some, if_neg (nI_nlt (by omega) (by omega)), gd_nI ht (by decide), nI_clamp (n := t) (by omega), hM.2.2.1, (show fX7_goodOf N M m (nI t) (nI p) = some (vlS C n 3 (nI p)) from good_m N hM hC ht _ (by omega)), bd_some, nI_1]
    rw [pick]
    by_cases h1 : C 0 9 &&& (nI p ^^^ (-1)) = 0
    · rw [if_pos ((mustEq _ _).mpr h1), if_pos (decide_eq_true h1)]
      split
      · rfl
      · split <;> rfl
    · rw [if_neg (fun q => h1 ((mustEq _ _).mp q)), if_neg (by rw [decide_eq_false h1]; decide)]) (N := N) (by omega)
  refine hk.trans ?_
  show fX7_goodSet_7 N M m (nI t) (k + 1) _ _ (nI (2 ^ n)) = _
  rw [fX7_goodSet_7, all_s N hM ht hC.1.2, bd_some, if_pos (nI_lt (by omega) (by omega))]
end MDL
