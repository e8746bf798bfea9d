/-! ===== the calls that ask of a street ===== -/
theorem st_cases {kp : Int32} {a b : Nat} {M : Mem} (hI : Inv kp a b M) (v : Int32) :
    (∃ k, k ≤ 4 ∧ M.1 (a + 4) 3 = nI k ∧ M.1 b 10 = nI k ∧ (v < 0 ∨ nI k ≤ v))
    ∨ (∃ k t n C, k ≤ 4 ∧ t < k ∧ M.1 (a + 4) 3 = nI k ∧ M.1 b 10 = nI k ∧ v = nI t ∧ RC n C ∧ CV M (a + 4 + 1 + 11 + 8 * t) C ∧ MV M b t n C ∧ WV M b t n C) := by
  obtain ⟨k, hk, e1, e2, hs⟩ := hI.2.2.2.2.1.1
  rcases tri v (show k < 2 ^ 31 by omega) with h | ⟨t, ht, rfl⟩
  · exact Or.inl ⟨k, hk, e1, e2, h⟩
  · obtain ⟨n, C, hC, hV, hM, hW⟩ := hs t ht
    exact Or.inr ⟨k, t, n, C, hk, ht, e1, e2, rfl, hC, hV, hM, hW⟩
theorem sws_y {N a : Nat} {M : Mem} (ha : a = 0) {k t n s : Nat} {C : Nat → Nat → Int32} (h : M.1 (a + 4) 3 = nI k) (hk : k ≤ 4) (ht : t < k) (hC : RC n C) (hV : CV M (a + 4 + 1 + 11 + 8 * t) C) (hs : s < 2 ^ n) :
    fX6_streetWithSet N M a (nI t) (nI s) = some (some (a + 4 + 1 + 11 + 8 * t)) := by
  unfold fX6_streetWithSet
  rw [streetAt_y h hk ht, bd_some, onO_some, gc_of (kd_street ha (by omega)), hasSet_y N hV hC hs, bd_some, if_neg (by decide)]
theorem sws_n {N a : Nat} {M : Mem} (ha : a = 0) {k t n : Nat} {d : Int32} {C : Nat → Nat → Int32} (h : M.1 (a + 4) 3 = nI k) (hk : k ≤ 4) (ht : t < k) (hC : RC n C) (hV : CV M (a + 4 + 1 + 11 + 8 * t) C) (hd : d < 0 ∨ nI (2 ^ n) ≤ d) :
    fX6_streetWithSet N M a (nI t) d = some none := by
  unfold fX6_streetWithSet
  rw [streetAt_y h hk ht, bd_some, onO_some, gc_of (kd_street ha (by omega)), hasSet_n N hV hC hd, bd_some, if_pos rfl]
theorem sws_no {N a : Nat} {M : Mem} {k : Nat} {v d : Int32} (h : M.1 (a + 4) 3 = nI k) (hv : v < 0 ∨ nI k ≤ v) : fX6_streetWithSet N M a v d = some none := by
  unfold fX6_streetWithSet
  rw [streetAt_n h hv, bd_some, onO_none]
theorem op_ws {kp : Int32} {a b N : Nat} {M : Mem} (hI : Inv kp a b M) (v d : Int32) (g : Int32 → Int32) (B : Nat → Option (Int32 × Mem)) (BY : Mem → Option (Int32 × Mem))
    (hB : ∀ k t n C s, k ≤ 4 → t < k → M.1 (a + 4) 3 = nI k → M.1 b 10 = nI k → v = nI t → d = nI s → s < 2 ^ n → RC n C → CV M (a + 4 + 1 + 11 + 8 * t) C → MV M b t n C → WV M b t n C → Op kp a b M (B (a + 4 + 1 + 11 + 8 * t)) BY) :
    Op kp a b M (bd (fX6_streetWithSet N M a v d) (fun r1 => onO r1 (bd (fX6_refuse N M a (-2)) (fun r3 => some (g r3.1, r3.2))) (fun q2 => gc (kd q2 = 4 ∧ q2 + 8 ≤ a + 119) (B q2))))
      (fun M1 => bd (fX7_isSet N M1 b v d.toInt64) (fun r1 => if r1 = 0 then bd (fX7_refuse N M1 b (-2)) (fun r3 => some (g r3.1, r3.2)) else BY M1)) := by
  have hab := hI.1
  rcases st_cases hI v with ⟨k, hk, e1, e2, hv⟩ | ⟨k, t, n, C, hk, ht, e1, e2, rfl, hC, hV, hM, hW⟩
  · refine Op.ref hI (w := 2) (by decide) (by decide) (g (-2)) ?_ ?_
    · rw [sws_no e1 hv, bd_some, onO_none, rfC2]; rfl
    · show bd _ _ = _
      rw [isSet_no N (k := k) (by rw [rC_o (by omega), e2]) (by omega) hv, bd_some, if_pos rfl, rfM2]; rfl
  · have h31 := pow31 hC.1.2
    rcases tri d (show 2 ^ n < 2 ^ 31 by omega) with hd | ⟨s, hs, rfl⟩
    · refine Op.ref hI (w := 2) (by decide) (by decide) (g (-2)) ?_ ?_
      · rw [sws_n hab.1 e1 hk ht hC hV hd, bd_some, onO_none, rfC2]; rfl
      · show bd _ _ = _
        rw [isSet_n N (k := k) (by rw [rC_o (by omega), e2]) (by omega) ht (MV_rC hab (by omega) hM) hC.1.2 hd, bd_some, if_pos rfl, rfM2]; rfl
    · obtain ⟨r, M1, M2, h1, h2, h3, h4⟩ := hB k t n C s hk ht e1 e2 rfl rfl hs hC hV hM hW
      refine ⟨r, M1, M2, ?_, h2, ?_, h4⟩
      · rw [sws_y hab.1 e1 hk ht hC hV hs, bd_some, onO_some, gc_of (kd_street hab.1 (by omega)), h1]
      · show bd _ _ = _
        rw [isSet_y N (k := k) (by rw [(h2 b 10 (Nat.le_refl b)).1, e2]) (by omega) ht (MV_fr (by omega) (fun x i p q => (h2 x i (by omega)).1) hM) hC.1.2 hs, bd_some, if_neg (by decide), h3]
theorem op_st {kp : Int32} {a b N : Nat} {M : Mem} (hI : Inv kp a b M) (v : Int32) (g : Int32 → Int32) (B : Nat → Option (Int32 × Mem)) (BY : Mem → Option (Int32 × Mem))
    (hB : ∀ k t n C, k ≤ 4 → t < k → M.1 (a + 4) 3 = nI k → M.1 b 10 = nI k → v = nI t → RC n C → CV M (a + 4 + 1 + 11 + 8 * t) C → MV M b t n C → WV M b t n C → Op kp a b M (B (a + 4 + 1 + 11 + 8 * t)) BY) :
    Op kp a b M (bd (fX5_streetAt N M (a + 4) v) (fun r1 => onO r1 (bd (fX6_refuse N M a (-2)) (fun r3 => some (g r3.1, r3.2))) (fun q2 => gc (kd q2 = 4 ∧ q2 + 8 ≤ a + 119) (B q2))))
      (fun M1 => bd (fX7_isStreet N M1 b v) (fun r1 => if r1 = 0 then bd (fX7_refuse N M1 b (-2)) (fun r3 => some (g r3.1, r3.2)) else BY M1)) := by
  have hab := hI.1
  rcases st_cases hI v with ⟨k, hk, e1, e2, hv⟩ | ⟨k, t, n, C, hk, ht, e1, e2, rfl, hC, hV, hM, hW⟩
  · refine Op.ref hI (w := 2) (by decide) (by decide) (g (-2)) ?_ ?_
    · rw [streetAt_n e1 hv, bd_some, onO_none, rfC2]; rfl
    · show bd _ _ = _
      rw [isStreet_n N (k := k) (by rw [rC_o (by omega), e2]) (by omega) hv, bd_some, if_pos rfl, rfM2]; rfl
  · obtain ⟨r, M1, M2, h1, h2, h3, h4⟩ := hB k t n C hk ht e1 e2 rfl hC hV hM hW
    refine ⟨r, M1, M2, ?_, h2, ?_, h4⟩
    · rw [streetAt_y e1 hk ht, bd_some, onO_some, gc_of (kd_street hab.1 (by omega)), h1]
    · show bd _ _ = _
      rw [isStreet_y N (k := k) (by rw [(h2 b 10 (Nat.le_refl b)).1, e2]) (by omega) ht, bd_some, if_neg (by decide), h3]
theorem op_sp {kp : Int32} {a b N : Nat} {M : Mem} (hI : Inv kp a b M) (v w : Int32) (g : Int32 → Int32) (B : Nat → Option (Int32 × Mem)) (BY : Mem → Option (Int32 × Mem))
    (hB : ∀ k t n C p, k ≤ 4 → t < k → M.1 (a + 4) 3 = nI k → M.1 b 10 = nI k → v = nI t → w = nI p → p < n → RC n C → CV M (a + 4 + 1 + 11 + 8 * t) C → MV M b t n C → WV M b t n C → Op kp a b M (B (a + 4 + 1 + 11 + 8 * t)) BY) :
    Op kp a b M (bd (fX5_streetAt N M (a + 4) v) (fun r1 => onO r1 (bd (fX6_refuse N M a (-2)) (fun r3 => some (g r3.1, r3.2))) (fun q2 => gc (kd q2 = 4 ∧ q2 + 8 ≤ a + 119) (bd (fX4_hasPerson N M q2 w) (fun r4 => if r4 = 0 then bd (fX6_refuse N M a (-2)) (fun r6 => some (g r6.1, r6.2)) else B q2)))))
      (fun M1 => bd (fX7_isPerson N M1 b v w) (fun r1 => if r1 = 0 then bd (fX7_refuse N M1 b (-2)) (fun r3 => some (g r3.1, r3.2)) else BY M1)) := by
  have hab := hI.1
  rcases st_cases hI v with ⟨k, hk, e1, e2, hv⟩ | ⟨k, t, n, C, hk, ht, e1, e2, rfl, hC, hV, hM, hW⟩
  · refine Op.ref hI (w := 2) (by decide) (by decide) (g (-2)) ?_ ?_
    · rw [streetAt_n e1 hv, bd_some, onO_none, rfC2]; rfl
    · show bd _ _ = _
      rw [isPerson_no N (k := k) (by rw [rC_o (by omega), e2]) (by omega) hv, bd_some, if_pos rfl, rfM2]; rfl
  · have hn := hC.1.2
    rcases tri w (show n < 2 ^ 31 by omega) with hd | ⟨p, hp, rfl⟩
    · refine Op.ref hI (w := 2) (by decide) (by decide) (g (-2)) ?_ ?_
      · rw [streetAt_y e1 hk ht, bd_some, onO_some, gc_of (kd_street hab.1 (by omega)), hasP_n N hV hC hd, bd_some, if_pos rfl, rfC2]; rfl
      · show bd _ _ = _
        rw [isPerson_n N (k := k) (by rw [rC_o (by omega), e2]) (by omega) ht (MV_rC hab (by omega) hM) hn hd, bd_some, if_pos rfl, rfM2]; rfl
    · obtain ⟨r, M1, M2, h1, h2, h3, h4⟩ := hB k t n C p hk ht e1 e2 rfl rfl hp hC hV hM hW
      refine ⟨r, M1, M2, ?_, h2, ?_, h4⟩
      · rw [streetAt_y e1 hk ht, bd_some, onO_some, gc_of (kd_street hab.1 (by omega)), hasP_y N hV hC hp, bd_some, if_neg (by decide), h1]
      · show bd _ _ = _
        rw [isPerson_y N (k := k) (by rw [(h2 b 10 (Nat.le_refl b)).1, e2]) (by omega) ht (MV_fr (by omega) (fun x i p q => (h2 x i (by omega)).1) hM) hn hp, bd_some, if_neg (by decide), h3]
/-- a set, behind the street -/
theorem op_set {kp : Int32} {a b N : Nat} {M : Mem} (hI : Inv kp a b M) {k t n : Nat} {C : Nat → Nat → Int32} (d : Int32) (hk : k ≤ 4) (ht : t < k) (e2 : M.1 b 10 = nI k) (hC : RC n C) (hV : CV M (a + 4 + 1 + 11 + 8 * t) C) (hM : MV M b t n C) (g : Int32 → Int32) (X : Option (Int32 × Mem)) (BY : Mem → Option (Int32 × Mem))
    (hB : ∀ s, d = nI s → s < 2 ^ n → Op kp a b M X BY) :
    Op kp a b M (bd (fX4_hasSet N M (a + 4 + 1 + 11 + 8 * t) d) (fun r7 => if r7 = 0 then bd (fX6_refuse N M a (-2)) (fun r10 => some (g r10.1, r10.2)) else X))
      (fun M1 => bd (fX7_isSet N M1 b (nI t) d.toInt64) (fun r1 => if r1 = 0 then bd (fX7_refuse N M1 b (-2)) (fun r3 => some (g r3.1, r3.2)) else BY M1)) := by
  have hab := hI.1
  have h31 := pow31 hC.1.2
  rcases tri d (show 2 ^ n < 2 ^ 31 by omega) with hd | ⟨s, hs, rfl⟩
  · refine Op.ref hI (w := 2) (by decide) (by decide) (g (-2)) ?_ ?_
    · rw [hasSet_n N hV hC hd, bd_some, if_pos rfl, rfC2]; rfl
    · show bd _ _ = _
      rw [isSet_n N (k := k) (by rw [rC_o (by omega), e2]) (by omega) ht (MV_rC hab (by omega) hM) hC.1.2 hd, bd_some, if_pos rfl, rfM2]; rfl
  · obtain ⟨r, M1, M2, h1, h2, h3, h4⟩ := hB s rfl hs
    refine ⟨r, M1, M2, ?_, h2, ?_, h4⟩
    · rw [hasSet_y N hV hC hs, bd_some, if_neg (by decide), h1]
    · show bd _ _ = _
      rw [isSet_y N (k := k) (by rw [(h2 b 10 (Nat.le_refl b)).1, e2]) (by omega) ht (MV_fr (by omega) (fun x i p q => (h2 x i (by omega)).1) hM) hC.1.2 hs, bd_some, if_neg (by decide), h3]
theorem set12 {n s : Nat} {C : Nat → Nat → Int32} (hC : RC n C) (hs : s < 2 ^ n) : ∀ i, bt (nI s) i = true → i < 12 := fun _ hi => Nat.lt_of_lt_of_le (bt_lt hs hi) hC.1.2
def fm : Int32 → Int32 := fun x => (-1000000) + x
theorem op_gain {kp : Int32} {a b N : Nat} {M : Mem} (hI : Inv kp a b M) (hN : 4097 < N) (v1 v2 v3 : Int32) : Op kp a b M (fX6_gain N M a v1 v2 v3) (fun M1 => fX7_gain N M1 b v1 v2 v3) := by
  unfold fX6_gain fX7_gain
  refine op_sp hI v1 v2 fm _ _ ?_
  rintro k t n C p hk ht e1 e2 rfl rfl hp hC hV hM hW
  refine op_set hI v3 hk ht e2 hC hV hM fm _ _ ?_
  rintro s rfl hs
  refine Op.same hI (gS C p (nI s)) ?_ ?_
  · rw [gain_c N hV (Nat.lt_of_lt_of_le hp hC.1.2) (set12 hC hs)]; rfl
  · show bd _ _ = _
    rw [gain_m N hM hC (by omega) hp _ (by omega)]; rfl
theorem op_total {kp : Int32} {a b N : Nat} {M : Mem} (hI : Inv kp a b M) (hN : 4097 < N) (v1 v2 : Int32) : Op kp a b M (fX6_total N M a v1 v2) (fun M1 => fX7_total N M1 b v1 v2) := by
  unfold fX6_total fX7_total
  refine op_ws hI v1 v2 fm _ _ ?_
  rintro k t n C s hk ht e1 e2 rfl rfl hs hC hV hM hW
  refine Op.same hI (isum (fun p => gS C p (nI s)) n) ?_ ?_
  · rw [good_c N hV hC (set12 hC hs) (by omega)]; rfl
  · show bd _ _ = _
    rw [good_m N hM hC (by omega) _ (by omega)]; rfl
theorem op_judge {kp : Int32} {a b N : Nat} {M : Mem} (hI : Inv kp a b M) (hN : 4097 < N) (v1 v2 : Int32) : Op kp a b M (fX6_judge N M a v1 v2) (fun M1 => fX7_judge N M1 b v1 v2) := by
  unfold fX6_judge fX7_judge
  refine op_ws hI v1 v2 id _ _ ?_
  rintro k t n C s hk ht e1 e2 rfl rfl hs hC hV hM hW
  refine Op.same hI (fst1 (rsl C (nI s)) n) ?_ ?_
  · rw [first_c N hV hC _ (by omega)]; rfl
  · show bd _ _ = _
    rw [first_m N hM hC (by omega) _ (by omega)]; rfl
theorem op_count {kp : Int32} {a b N : Nat} {M : Mem} (hI : Inv kp a b M) (hN : 4097 < N) (v1 : Int32) : Op kp a b M (fX6_count N M a v1) (fun M1 => fX7_count N M1 b v1) := by
  unfold fX6_count fX7_count
  refine op_st hI v1 id _ _ ?_
  rintro k t n C hk ht e1 e2 rfl hC hV hM hW
  refine Op.same hI (nI (fb_ct (fun s => rst C n (nI s)) (2 ^ n))) ?_ ?_
  · rw [rests_c N hV hC (by omega)]; rfl
  · show bd _ _ = _
    rw [rests_m N hM hC (by omega) (by omega)]; rfl
