theorem op_element {kp : Int32} {a b N : Nat} {M : Mem} (hI : Inv kp a b M) (v1 v2 : Int32) : ∃ r, fX6_element N M a v1 v2 = some r ∧ fX7_element N M b v1 v2 = some r := by
  unfold fX6_element fX7_element
  have hab := hI.1
  rcases tri v1 (show 8 < 2 ^ 31 by decide) with h | ⟨s, hs, rfl⟩
  · refine ⟨0, ?_, ?_⟩
    · rw [shelfAt_n h, bd_some, onO_none]
    · rw [in_r N _ v1 0 7 (by decide) (by decide), show rg v1 0 7 = false from rg_f (k := 7) h (by decide), bd_some, b1_if, if_neg (by decide)]
  rw [shelfAt_y hs, bd_some, onO_some, gc_of (kd_shelf hab.1 hs), in_r N _ (nI s) 0 7 (by decide) (by decide), show rg (nI s) 0 7 = true from rg_t (k := 7) hs (by decide), bd_some, b1_if, if_pos rfl, gd_nI hs (by decide), nI_clamp (by omega)]
  unfold fX3_told
  rcases sh_cases (N := N) (hI.2.1 s hs) with ⟨h1, h2, h3, h4⟩ | ⟨k, z, hk, hz, h1, h2, h3, h4, h5, h6, h7, h8⟩ | ⟨k, hk1, hk, h1, h2, h3, h4, -⟩
  · exact ⟨0, by rw [h2, bd_some, if_pos rfl]; rfl, by rw [h4, if_neg (by decide)]⟩
  · rw [h2, bd_some, if_neg (by decide), hp1_s h4 hz, h5, if_pos rfl, h7, in_w N _ v2 0 (nI z - 1) (by decide) rfl]
    cases e : (decide ((0 : Int32) ≤ v2) && decide (v2 ≤ nI z - 1))
    · exact ⟨0, by rw [bd_some, b1_if, if_neg (by decide)]; rfl, by rw [bd_some, b1_if, if_neg (by decide)]⟩
    · have hi : ∃ i, i < z ∧ v2 = nI i := by
        rcases tri v2 (show z < 2 ^ 31 by omega) with hv | hv
        · rw [rng_n hv (by omega)] at e; cases e
        · exact hv
      obtain ⟨i, hi, rfl⟩ := hi
      refine ⟨M.2 (b + 4 + 1 + s) i, ?_, ?_⟩
      · rw [bd_some, b1_if, if_pos rfl, gd_nI (by omega) (by decide), nI_clamp (by omega), h8 i (by omega)]; rfl
      · rw [bd_some, b1_if, if_pos rfl, gd_nI (by omega) (by decide), nI_clamp (by omega)]
  · exact ⟨0, by rw [h2, bd_some, if_pos rfl]; rfl, by rw [h4, if_neg (by decide)]⟩
theorem op_holds {kp : Int32} {a b N : Nat} {M : Mem} (hI : Inv kp a b M) (v1 : Int32) : ∃ r, fX6_holds N M a v1 = some r ∧ fX7_holds N M b v1 = some r := by
  unfold fX6_holds fX7_holds
  have hab := hI.1
  rcases tri v1 (show 8 < 2 ^ 31 by decide) with h | ⟨s, hs, rfl⟩
  · refine ⟨-1, ?_, ?_⟩
    · rw [shelfAt_n h, bd_some, onO_none]
    · rw [in_r N _ v1 0 7 (by decide) (by decide), show rg v1 0 7 = false from rg_f (k := 7) h (by decide), bd_some, b1_if, if_neg (by decide)]
  rw [shelfAt_y hs, bd_some, onO_some, gc_of (kd_shelf hab.1 hs), in_r N _ (nI s) 0 7 (by decide) (by decide), show rg (nI s) 0 7 = true from rg_t (k := 7) hs (by decide), bd_some, b1_if, if_pos rfl, gd_nI hs (by decide), nI_clamp (by omega)]
  rcases sh_cases (N := N) (hI.2.1 s hs) with ⟨h1, h2, h3, h4⟩ | ⟨k, z, hk, hz, h1, h2, h3, h4, h5, h6, h7, h8⟩ | ⟨k, hk1, hk, h1, h2, h3, h4, h5, -⟩
  · exact ⟨-1, by rw [h3], by rw [h4, if_pos rfl]⟩
  · exact ⟨nI k, by rw [h3], by rw [h5, if_neg (by decide), if_pos rfl, h6]⟩
  · exact ⟨nI (10 + k), by rw [h3], by rw [h4, if_neg (by decide), if_neg (by decide), h5, show (10 : Int32) = nI 10 from rfl, nI_add]⟩
/-! ways -/
def tldB (k v : Int32) : Bool :=
  if k = 1 then rg v 0 1 else if k = 2 then rg v 0 1000 else if k = 3 then rg v 0 11 else if k = 4 then (rg v 100 999 && !decide (v / 100 ≤ v - v / 100 * 100)) else if k = 5 then rg v 0 7 else false
theorem told_c {N : Nat} {M : Mem} (k v : Int32) : fX6_isWayToldBy N M k v = some (b1 (tldB k v)) := by
  unfold fX6_isWayToldBy tldB
  simp only [within_r, bd_some, b1_if, gc_b1]
  by_cases h1 : k = 1
  · simp only [h1, if_true]
  · simp only [h1, if_false]
    by_cases h2 : k = 2
    · simp only [h2, if_true]
    · simp only [h2, if_false]
      by_cases h3 : k = 3
      · simp only [h3, if_true]
      · simp only [h3, if_false]
        by_cases h4 : k = 4
        · simp only [h4, if_true]
          cases rg v 100 999
          · rfl
          · by_cases q : v / 100 ≤ v - v / 100 * 100
            · simp only [q, if_true, decide_true]; rfl
            · simp only [q, if_true, if_false, decide_false]; rfl
        · simp only [h4, if_false]
          by_cases h5 : k = 5
          · simp only [h5, if_true]
          · simp only [h5, if_false]; rfl
theorem rg_d {x y z : Nat} (hx : x < 2 ^ 31) (hy : y < 2 ^ 31) (hz : z < 2 ^ 31) : rg (nI y) (nI x) (nI z) = decide (x ≤ y ∧ y ≤ z) := by
  unfold rg
  by_cases h1 : x ≤ y
  · by_cases h2 : y ≤ z
    · rw [decide_eq_true (nI_le h1 hy), decide_eq_true (nI_le h2 hz), decide_eq_true ⟨h1, h2⟩]; rfl
    · rw [decide_eq_false (nI_ge (Nat.lt_of_not_le h2) hy), Bool.and_false, decide_eq_false (fun q => h2 q.2)]
  · rw [decide_eq_false (nI_ge (Nat.lt_of_not_le h1) hx), Bool.false_and, decide_eq_false (fun q => h1 q.1)]
theorem may_m {N : Nat} {M : Mem} {k : Nat} (hk1 : 1 ≤ k) (hk : k ≤ 5) (v : Int32) : fX7_mayBy N M (nI k) v = some (b1 (tldB (nI k) v)) := by
  unfold fX7_mayBy tldB
  rw [in_r N M v 0 1 (by decide) (by decide), in_r N M v 0 1000 (by decide) (by decide), in_r N M v 0 11 (by decide) (by decide), in_r N M (v / 100) 1 9 (by decide) (by decide), in_r N M v 0 7 (by decide) (by decide)]
  simp only [bd_some, b1_if, gc_b1]
  have h5 : k = 1 ∨ k = 2 ∨ k = 3 ∨ k = 4 ∨ k = 5 := by omega
  rcases h5 with rfl | rfl | rfl | rfl | rfl <;> try rfl
  show (if v < 0 then some 0 else if rg (v / 100) 1 9 = true then if v / 100 ≤ v - v / 100 * 100 then some 0 else some 1 else some 0) = some (b1 (rg v 100 999 && !decide (v / 100 ≤ v - v / 100 * 100)))
  by_cases h0 : v < 0
  · rw [if_pos h0]
    have e : rg v 100 999 = false := by
      unfold rg
      rw [decide_eq_false (p := (100 : Int32) ≤ v)]
      · rfl
      · rw [fa_le]; rw [fa_lt] at h0
        have : (100 : Int32).toInt = 100 := by decide
        have : (0 : Int32).toInt = 0 := by decide
        omega
    rw [e]; rfl
  · rw [if_neg h0]
    obtain ⟨j, hj, rfl⟩ := nI_of h0
    have hq : j / 100 < 2 ^ 31 := Nat.lt_of_le_of_lt (Nat.div_le_self j 100) hj
    have e : rg (nI j / 100) 1 9 = rg (nI j) 100 999 := by
      show rg (nI j / nI 100) (nI 1) (nI 9) = rg (nI j) (nI 100) (nI 999)
      rw [pk_div hj (by decide) (by decide), rg_d (by decide) hq (by decide), rg_d (by decide) hj (by decide)]
      exact decide_eq_decide.mpr (by omega)
    rw [e]
    cases rg (nI j) 100 999
    · rfl
    · by_cases q : nI j / 100 ≤ nI j - nI j / 100 * 100
      · simp only [q, if_true, decide_true]; rfl
      · simp only [q, if_true, if_false, decide_false]; rfl
theorem tld_wok {k : Nat} (hk1 : 1 ≤ k) (hk : k ≤ 4) {v : Int32} (h : tldB (nI k) v = true) : wok (nI k) v := by
  have h5 : k = 1 ∨ k = 2 ∨ k = 3 ∨ k = 4 := by omega
  unfold wok
  rcases h5 with rfl | rfl | rfl | rfl
  · obtain ⟨j, -, hj, rfl⟩ := rg_nI (x := 0) (y := 1) (by decide) (by decide) (show rg v 0 1 = true from h)
    refine Or.inl ⟨rfl, ?_⟩
    have : j = 0 ∨ j = 1 := by omega
    rcases this with rfl | rfl
    · exact Or.inl rfl
    · exact Or.inr rfl
  · obtain ⟨j, -, hj, rfl⟩ := rg_nI (x := 0) (y := 1000) (by decide) (by decide) (show rg v 0 1000 = true from h)
    exact Or.inr (Or.inl ⟨rfl, j, hj, rfl⟩)
  · obtain ⟨j, -, hj, rfl⟩ := rg_nI (x := 0) (y := 11) (by decide) (by decide) (show rg v 0 11 = true from h)
    exact Or.inr (Or.inr (Or.inl ⟨rfl, j, hj, rfl⟩))
  · have h' : (rg v 100 999 && !decide (v / 100 ≤ v - v / 100 * 100)) = true := h
    rw [Bool.and_eq_true] at h'
    obtain ⟨j, hj1, hj, rfl⟩ := rg_nI (x := 100) (y := 999) (by decide) (by decide) (show rg v 100 999 = true from h'.1)
    have h2 := h'.2
    rw [show (100 : Int32) = nI 100 from rfl, pk_rem (by omega) (by decide) (by decide), pk_div (by omega) (by decide) (by decide), show decide (nI (j / 100) ≤ nI (j % 100)) = decide (j / 100 ≤ j % 100) from decide_eq_decide.mpr (nI_leI (by omega) (by omega))] at h2
    refine Or.inr (Or.inr (Or.inr (Or.inl ⟨rfl, j / 100, j % 100, by omega, by omega, ?_, by rw [Nat.div_add_mod]⟩)))
    have h3 : ¬ (j / 100 ≤ j % 100) := by simpa using h2
    omega
/-- the set that a row tells -/
def tset (f : Nat → Bool) : Nat → Int32
  | 0 => 0
  | p + 1 => if f p = true then tset f p ||| nI (2 ^ p) else tset f p
theorem tset_bits (f : Nat → Bool) : ∀ n, n ≤ 32 → ∀ i, bt (tset f n) i = true → i < n
  | 0, _, i, h => by rw [tset, b_0] at h; cases h
  | n + 1, hn, i, h => by
    rw [tset] at h
    by_cases q : f n = true
    · rw [if_pos q, bt_orp _ (by omega), Bool.or_eq_true, decide_eq_true_eq] at h
      rcases h with h | h
      · have := tset_bits f n (by omega) i h; omega
      · omega
    · rw [if_neg q] at h
      have := tset_bits f n (by omega) i h; omega
theorem tset_ext {f : Nat → Bool} {n : Nat} : ∀ {m : Nat}, (∀ k, n ≤ k → k < n + m → f k = false) → tset f (n + m) = tset f n
  | 0, _ => rfl
  | m + 1, h => by rw [← Nat.add_assoc, tset, h (n + m) (by omega) (by omega), if_neg (by decide), tset_ext (fun k h1 h2 => h k h1 (by omega))]
theorem toldSet_c {N : Nat} {M : Mem} {q b s k z : Nat} (h : ShR N M q b s k z) (hz : z ≤ 40) (hN : 100 < N) : fX3_toldSet N M q = some (tset (fun p => decide (p < z) && !decide (lg_cmp (M.2 (b + 4 + 1 + s) p) 0 = 0)) 12) := by
  obtain ⟨h1, h2, h3, h4, h5, h6, h7, h8⟩ := h
  unfold fX3_toldSet
  obtain ⟨j, hj⟩ := lp (fun j (s : Int32 × Int32) => fX3_toldSet_4 N M q j s.1 s.2) (fun p => (tset (fun p => decide (p < z) && !decide (lg_cmp (M.2 (b + 4 + 1 + s) p) 0 = 0)) p, nI p)) 12 (fun j p hp => by
    dsimp only
    rw [fX3_toldSet_4, if_neg (show ¬ (12 : Int32) ≤ nI p from nI_ge (b := 12) hp (by decide)), tset]
    unfold fX3_told
    rw [h2, bd_some, if_neg (by decide), hp1_s h4 hz, bd_some, b1_if, nm_eq, nI_1, sh1 (by omega)]
    by_cases q0 : p < z
    · rw [rng_y q0 (by omega), if_pos rfl, gd_nI (by omega) (by decide), nI_clamp (by omega), h8 p (by omega), bd_some, decide_eq_true q0, Bool.true_and]
      by_cases q1 : lg_cmp (M.2 (b + 4 + 1 + s) p) 0 = 0
      · rw [if_pos q1, decide_eq_true q1]; rfl
      · rw [if_neg q1, decide_eq_false q1]; rfl
    · rw [rng_n (Or.inr (nI_le (by omega) (by omega))) (by omega), if_neg (by decide), decide_eq_false q0, Bool.false_and, bd_some, if_pos (by decide)]; rfl) (N := N) (by omega)
  refine hj.trans ?_
  show fX3_toldSet_4 N M q (j + 1) _ (nI 12) = _
  rw [fX3_toldSet_4, if_pos (by decide)]
def wyM (M : Mem) (m s : Nat) (k v : Int32) : Mem := sI (sI (sI M (m + 1) s 2) (m + 13) s k) (m + 14) s v
def wyC (M : Mem) (q : Nat) (k v : Int32) : Mem := sI (sI (sI M q 1 (10 + k)) q 2 0) q 3 v
theorem way86_m {N : Nat} {M : Mem} {m s s2 z : Nat} {k : Int32} (hs : s < 8) (hs2 : s2 < 8) (h7 : M.1 (m + 3) s2 = nI z) (hz : z ≤ 40) (hN : 100 < N) :
    fX7_way_86 N M m (nI s) k (nI s2) N 0 0 = some (1, wyM M m s k (tset (fun p => decide (p < z) && !decide (lg_cmp (M.2 (m + 4 + 1 + s2) p) 0 = 0)) 12)) := by
  obtain ⟨j, hj⟩ := lp (fun j (q : Int32 × Int32) => fX7_way_86 N M m (nI s) k (nI s2) j q.1 q.2) (fun p => (tset (fun p => decide (p < z) && !decide (lg_cmp (M.2 (m + 4 + 1 + s2) p) 0 = 0)) p, nI p)) (min z 12) (fun j p hp => by
    dsimp only
    have hp1 : p < z := by omega
    have hp2 : p < 12 := by omega
    rw [fX7_way_86, gd_nI hs2 (by decide), nI_clamp (n := s2) (by omega), h7, if_neg (nI_ge hp1 (by omega)), if_neg (show ¬ (12 : Int32) ≤ nI p from nI_ge (b := 12) hp2 (by decide)), gd_nI (p := p) (by omega) (by decide), nI_clamp (n := p) (by omega), tset, decide_eq_true hp1, Bool.true_and, nm_eq, nm_eq, nI_1, sh1 (by omega)]
    by_cases q1 : lg_cmp (M.2 (m + 4 + 1 + s2) p) 0 = 0
    · rw [if_pos q1, decide_eq_true q1, if_neg (by decide)]
      congr 1
      apply b_ext; intro i _; rw [b_or, b_0, Bool.or_false]
    · rw [if_neg q1, decide_eq_false q1, if_pos (by decide)]) (N := N) (by omega)
  refine hj.trans ?_
  have ee : tset (fun p => decide (p < z) && !decide (lg_cmp (M.2 (m + 4 + 1 + s2) p) 0 = 0)) 12 = tset (fun p => decide (p < z) && !decide (lg_cmp (M.2 (m + 4 + 1 + s2) p) 0 = 0)) (min z 12) := by
    have := tset_ext (f := fun p => decide (p < z) && !decide (lg_cmp (M.2 (m + 4 + 1 + s2) p) 0 = 0)) (n := min z 12) (m := 12 - min z 12) (fun k h1 h2 => by rw [decide_eq_false (by omega)]; rfl)
    rw [show min z 12 + (12 - min z 12) = 12 by omega] at this
    exact this
  rw [ee]
  show fX7_way_86 N M m (nI s) k (nI s2) (j + 1) _ (nI (min z 12)) = _
  rw [fX7_way_86, gd_nI hs2 (by decide), nI_clamp (n := s2) (by omega), h7]
  simp only [gd_nI hs (show 8 < 2 ^ 31 by decide), nI_clamp (show s < 2 ^ 31 by omega), nm_eq]
  by_cases q : z ≤ 12
  · rw [Nat.min_eq_left q, if_pos (nI_le (Nat.le_refl z) (by omega))]; rfl
  · rw [Nat.min_eq_right (by omega), if_neg (nI_ge (by omega) (by omega)), if_pos (by decide)]; rfl
theorem Inv_way {kp : Int32} {a b : Nat} {M : Mem} (hI : Inv kp a b M) {s k : Nat} (hs : s < 8) (hk1 : 1 ≤ k) (hk : k ≤ 5) {v : Int32} (hw : wok (nI k) v) : Inv kp a b (wyM (wyC M (a + 1 + 102 + 2 * s) (nI k) v) b s (nI k) v) := by
  have hab := hI.1
  have f : ∀ x i, x ≠ a + 1 + 102 + 2 * s → (x ≠ b + 1 ∨ i ≠ s) → (x ≠ b + 13 ∨ i ≠ s) → (x ≠ b + 14 ∨ i ≠ s) → (wyM (wyC M (a + 1 + 102 + 2 * s) (nI k) v) b s (nI k) v).1 x i = M.1 x i := fun x i h0 h1 h2 h3 => by
    unfold wyM wyC
    rw [sI_o h3, sI_o h2, sI_o h1, sI_o (Or.inl h0), sI_o (Or.inl h0), sI_o (Or.inl h0)]
  refine Inv_sh hI hs (fun x i h => f x i ?_ ?_ ?_ ?_) (fun _ _ _ _ _ => rfl) (Or.inr (Or.inr ⟨k, hk1, hk, ?_, ?_, ?_, ?_, ?_⟩))
  · unfold IH at h; omega
  · unfold IH at h; omega
  · unfold IH at h; omega
  · unfold IH at h; omega
  · unfold wyM wyC
    rw [sI_o (by omega), sI_o (by omega), sI_o (by omega), sI_o (by omega), sI_o (by omega), sI_s, show (10 : Int32) = nI 10 from rfl, nI_add]
  · unfold wyM wyC
    rw [sI_o (by omega), sI_o (by omega), sI_s]
  · unfold wyM wyC
    rw [sI_o (by omega), sI_s]
  · unfold wyM wyC
    rw [sI_s, sI_o (by omega), sI_o (by omega), sI_o (by omega), sI_s]
  · unfold wyM wyC
    rw [sI_o (by omega), sI_o (by omega), sI_o (by omega), sI_s]
    exact hw
theorem wyC_up {a b : Nat} {M : Mem} (hab : a = 0 ∧ b = 119) {s : Nat} (hs : s < 8) (k v : Int32) : Up b M (wyC M (a + 1 + 102 + 2 * s) k v) := fun x i h => ⟨by
  unfold wyC
  rw [sI_o (by omega), sI_o (by omega), sI_o (by omega)], rfl⟩
theorem op_way {kp : Int32} {a b N : Nat} {M : Mem} (hI : Inv kp a b M) (hN : 4097 < N) (v1 v2 v3 : Int32) : Op kp a b M (fX6_way N M a v1 v2 v3) (fun M1 => fX7_way N M1 b v1 v2 v3) := by
  unfold fX6_way fX7_way
  refine op_sg hI v1 id _ _ ?_
  rintro s hs rfl
  have hab := hI.1
  rw [told_c, bd_some, b1_if]
  cases e5 : rg v2 1 5
  · have ef : tldB v2 v3 = false := by
      have ne : ∀ j, 1 ≤ j → j ≤ 5 → ¬ v2 = nI j := by
        intro j h1 h5 e
        subst e
        have : rg (nI j) (nI 1) (nI 5) = true := by
          unfold rg
          rw [decide_eq_true (nI_le h1 (by omega)), decide_eq_true (nI_le h5 (by decide))]; rfl
        rw [show rg (nI j) (nI 1) (nI 5) = false from e5] at this; cases this
      unfold tldB
      rw [if_neg (show ¬ v2 = 1 from ne 1 (by decide) (by decide)), if_neg (show ¬ v2 = 2 from ne 2 (by decide) (by decide)), if_neg (show ¬ v2 = 3 from ne 3 (by decide) (by decide)), if_neg (show ¬ v2 = 4 from ne 4 (by decide) (by decide)), if_neg (show ¬ v2 = 5 from ne 5 (by decide) (by decide))]
    refine Op.ref hI (w := 2) (by decide) (by decide) (-2) ?_ ?_
    · rw [ef, if_neg (by decide), rfC2]; rfl
    · show bd _ _ = _
      rw [in_r N _ v2 1 5 (by decide) (by decide), e5, bd_some, b1_if, if_neg (by decide), rfM2]; rfl
  obtain ⟨k, hk1, hk, rfl⟩ := rg_nI (x := 1) (y := 5) (by decide) (by decide) e5
  have em : ∀ M', fX7_in N M' (nI k).toInt64 1 5 = some 1 := fun M' => by rw [in_r N _ (nI k) 1 5 (by decide) (by decide), show rg (nI k) 1 5 = true from e5]; rfl
  cases et : tldB (nI k) v3
  · refine Op.ref hI (w := 2) (by decide) (by decide) (-2) ?_ ?_
    · rw [if_neg (by decide), rfC2]; rfl
    · show bd _ _ = _
      rw [em, bd_some, if_neg (by decide), may_m hk1 hk, et, bd_some, b1_if, if_neg (by decide), rfM2]; rfl
  rw [if_pos rfl]
  by_cases q5 : k = 5
  · subst q5
    obtain ⟨s2, -, hs2, rfl⟩ := rg_nI (x := 0) (y := 7) (by decide) (by decide) (show rg v3 0 7 = true from et)
    have hs2' : s2 < 8 := by omega
    have ey : ∀ M' (X Y : Option (Int32 × Mem)), (bd (fX7_in N M' (nI 5).toInt64 1 5) (fun r4 => if r4 = 0 then X else bd (fX7_mayBy N M' (nI 5) (nI s2)) (fun r7 => if r7 = 0 then X else Y))) = Y := fun M' X Y => by
      rw [em, bd_some, if_neg (by decide), may_m (by decide) (by decide), et, bd_some, b1_if, if_pos rfl]
    rw [if_pos (show nI 5 = 5 from rfl), shelfAt_y hs2', bd_some, onO_some, gc_of (kd_shelf hab.1 hs2')]
    rcases sh_cases (N := N) (hI.2.1 s2 hs2') with ⟨h1, h2, h3, h4⟩ | ⟨k, z, hk, hz, hR⟩ | ⟨k, hk1, hk, h1, h2, h3, h4, -⟩
    · refine Op.ref hI (w := 4) (by decide) (by decide) (-4) ?_ ?_
      · rw [h1, bd_some, if_pos rfl, h2, bd_some, if_pos rfl, rfC4]; rfl
      · show bd _ _ = _
        rw [em, bd_some, if_neg (by decide), may_m (by decide) (by decide), et, bd_some, b1_if, if_pos rfl, if_pos (show nI 5 = 5 from rfl), gd_nI hs2' (by decide), nI_clamp (by omega), shelf_rC hab (by decide), h4, if_neg (by decide), if_pos rfl, rfM4]; rfl
    · have hR' := hR
      obtain ⟨h1, h2, h3, h4, h5, h6, h7, h8⟩ := hR
      obtain ⟨x, hx, ex⟩ := of_bits (n := 12) (by decide) (tset_bits (fun p => decide (p < z) && !decide (lg_cmp (M.2 (b + 4 + 1 + s2) p) 0 = 0)) 12 (by decide))
      have hw : wok (nI 5) (tset (fun p => decide (p < z) && !decide (lg_cmp (M.2 (b + 4 + 1 + s2) p) 0 = 0)) 12) := Or.inr (Or.inr (Or.inr (Or.inr ⟨rfl, x, hx, ex⟩)))
      refine ⟨1, wyC M (a + 1 + 102 + 2 * s) (nI 5) (tset (fun p => decide (p < z) && !decide (lg_cmp (M.2 (b + 4 + 1 + s2) p) 0 = 0)) 12), _, ?_, wyC_up hab hs _ _, ?_, Inv_way hI hs (k := 5) (by decide) (by decide) hw⟩
      · rw [h1, bd_some, if_pos rfl, h2, bd_some, if_neg (by decide), toldSet_c hR' hz (by omega), bd_some]; rfl
      · show bd _ _ = _
        have hu := wyC_up (M := M) hab hs (nI 5) (tset (fun p => decide (p < z) && !decide (lg_cmp (M.2 (b + 4 + 1 + s2) p) 0 = 0)) 12)
        rw [em, bd_some, if_neg (by decide), may_m (by decide) (by decide), et, bd_some, b1_if, if_pos rfl, if_pos (show nI 5 = 5 from rfl), gd_nI hs2' (by decide), nI_clamp (by omega), (hu (b + 1) s2 (by omega)).1, h5, if_neg (by decide), if_neg (by decide), way86_m hs hs2' (z := z) (by rw [(hu (b + 3) s2 (by omega)).1, h7]) hz (by omega)]
        rfl
    · refine Op.ref hI (w := 3) (by decide) (by decide) (-3) ?_ ?_
      · rw [h1, bd_some, if_neg (by decide), rfC3]; rfl
      · show bd _ _ = _
        rw [em, bd_some, if_neg (by decide), may_m (by decide) (by decide), et, bd_some, b1_if, if_pos rfl, if_pos (show nI 5 = 5 from rfl), gd_nI hs2' (by decide), nI_clamp (by omega), shelf_rC hab (by decide), h4, if_pos rfl, rfM3]; rfl
  · have n5 : ¬ nI k = 5 := fun e => q5 ((nI_eq (by omega) (by decide)).mp (show nI k = nI 5 from e))
    rw [if_neg n5]
    refine ⟨1, wyC M (a + 1 + 102 + 2 * s) (nI k) v3, _, rfl, wyC_up hab hs _ _, ?_, Inv_way hI hs (k := k) hk1 hk (tld_wok hk1 (by omega) et)⟩
    show bd _ _ = _
    rw [em, bd_some, if_neg (by decide), may_m hk1 hk, et, bd_some, b1_if, if_pos rfl, if_neg n5, gd_nI hs (by decide), nI_clamp (by omega)]; rfl
