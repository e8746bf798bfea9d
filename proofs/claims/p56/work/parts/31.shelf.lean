/-! ===== shelves and ways ===== -/
theorem shelfAt_y {N a s : Nat} {M : Mem} (hs : s < 8) : fX6_shelfAt N M a (nI s) = some (some (a + 1 + 102 + 2 * s)) := by
  unfold fX6_shelfAt
  rw [within_r, show rg (nI s) 0 7 = true from rg_t (k := 7) hs (by decide), bd_some, b1_if, if_pos rfl, gd_nI hs (by decide), nI_clamp (by omega)]
theorem shelfAt_n {N a : Nat} {M : Mem} {v : Int32} (h : v < 0 ∨ nI 8 ≤ v) : fX6_shelfAt N M a v = some none := by
  unfold fX6_shelfAt
  rw [within_r, show rg v 0 7 = false from rg_f (k := 7) h (by decide), bd_some, b1_if, if_neg (by decide)]
theorem op_sg {kp : Int32} {a b N : Nat} {M : Mem} (hI : Inv kp a b M) (v : Int32) (g : Int32 → Int32) (B : Nat → Option (Int32 × Mem)) (BY : Mem → Option (Int32 × Mem)) (hB : ∀ s, s < 8 → v = nI s → Op kp a b M (B (a + 1 + 102 + 2 * s)) BY) :
    Op kp a b M (bd (fX6_shelfAt N M a v) (fun r1 => onO r1 (bd (fX6_refuse N M a (-2)) (fun r3 => some (g r3.1, r3.2))) (fun q2 => gc (kd q2 = 3 ∧ q2 + 2 ≤ a + 119) (B q2))))
      (fun M1 => bd (fX7_in N M1 v.toInt64 0 7) (fun r1 => if r1 = 0 then bd (fX7_refuse N M1 b (-2)) (fun r3 => some (g r3.1, r3.2)) else BY M1)) := by
  have hab := hI.1
  rcases tri v (show 8 < 2 ^ 31 by decide) with h | ⟨s, hs, rfl⟩
  · refine Op.ref hI (w := 2) (by decide) (by decide) (g (-2)) ?_ ?_
    · rw [shelfAt_n h, bd_some, onO_none, rfC2]; rfl
    · show bd _ _ = _
      rw [in_r N _ v 0 7 (by decide) (by decide), show rg v 0 7 = false from rg_f (k := 7) h (by decide), bd_some, b1_if, if_neg (by decide), rfM2]; rfl
  · obtain ⟨r, M1, M2, h1, h2, h3, h4⟩ := hB s hs rfl
    refine ⟨r, M1, M2, ?_, h2, ?_, h4⟩
    · rw [shelfAt_y hs, bd_some, onO_some, gc_of (kd_shelf hab.1 hs), h1]
    · show bd _ _ = _
      rw [in_r N _ (nI s) 0 7 (by decide) (by decide), show rg (nI s) 0 7 = true from rg_t (k := 7) hs (by decide), bd_some, b1_if, if_pos rfl, h3]
def IH (a b s x i : Nat) : Prop := (x = a ∧ i = 7) ∨ (a + 2 ≤ x ∧ x ≤ a + 91) ∨ x = a + 102 ∨ (a + 103 ≤ x ∧ x < a + 119 ∧ x ≠ a + 1 + 102 + 2 * s) ∨ (x = b ∧ (i = 8 ∨ i = 10 ∨ (21 ≤ i ∧ i ≤ 26))) ∨ ((b + 1 ≤ x ∧ x ≤ b + 14) ∧ i ≠ s) ∨ x = b + 16 ∨ x = b + 17 ∨ (b + 18 ≤ x ∧ x ≤ b + 57) ∨ b + 59 ≤ x
theorem Inv_sh {kp : Int32} {a b : Nat} {M M' : Mem} (hI : Inv kp a b M) {s : Nat} (hs8 : s < 8) (h : ∀ x i, IH a b s x i → M'.1 x i = M.1 x i) (hJ : ∀ x i, JS a b x → x ≠ a + 1 + 102 + 2 * s + 1 → x ≠ b + 4 + 1 + s → M'.2 x i = M.2 x i) (hS : SHr M' (a + 1 + 102 + 2 * s) b s) : Inv kp a b M' := by
  obtain ⟨⟨ha, hb⟩, hs, ht, hr, htw, hk⟩ := hI
  refine ⟨⟨ha, hb⟩, fun s2 hs2 => ?_, TPr_fr (h _ _ (by unfold IH; omega)) (h _ _ (by unfold IH; omega)) (fun i => h _ _ (by unfold IH; omega)) (fun i => h _ _ (by unfold IH; omega)) ht, fun i hi => ?_, TWr_fr (fun x i p q => h _ _ (by unfold IH; omega)) (fun x i p q => h _ _ (by unfold IH; omega)) (fun i p => h _ _ (by unfold IH; omega)) htw, KPr_fr (h _ _ (by unfold IH; omega)) (h _ _ (by unfold IH; omega)) (fun x i p q => h _ _ (by unfold IH; omega)) (fun x i p => h _ _ (by unfold IH; omega)) hk⟩
  · by_cases q : s2 = s
    · subst q; exact hS
    · exact SHr_fr (fun i => h _ _ (by unfold IH; omega)) (fun i => hJ _ _ (by unfold JS; omega) (by omega) (by omega)) (fun j hj => h _ _ (by unfold IH; omega)) (fun i => hJ _ _ (by unfold JS; omega) (by omega) (by omega)) (hs s2 hs2)
  · rw [h _ _ (by unfold IH; omega), h _ _ (by unfold IH; omega)]
    exact hr i hi
theorem op_row {kp : Int32} {a b N : Nat} {M : Mem} (hI : Inv kp a b M) (hN : 4097 < N) (v1 v2 v3 : Int32) : Op kp a b M (fX6_row N M a v1 v2 v3) (fun M1 => fX7_row N M1 b v1 v2 v3) := by
  unfold fX6_row fX7_row
  refine op_sg hI v1 id _ _ ?_
  rintro s hs rfl
  refine op_rng hI v2 0 4 (by decide) (by decide) id _ _ (fun h2 => ?_)
  refine op_rng hI v3 0 40 (by decide) (by decide) id _ _ (fun h3 => ?_)
  obtain ⟨k, -, hk, rfl⟩ := rg_nI (x := 0) (y := 4) (by decide) (by decide) h2
  obtain ⟨z, -, hz, rfl⟩ := rg_nI (x := 0) (y := 40) (by decide) (by decide) h3
  have hab := hI.1
  let Q := a + 1 + 102 + 2 * s
  let Ma := sI (sI M Q 1 (nI k)) Q 2 (nI z)
  let M1 := fJ Ma (Q + 1) (upto (fun _ => 0) (M.2 (Q + 1)) 40)
  let Mb := sI (sI (sI M1 (b + 1) s 1) (b + 2) s (nI k)) (b + 3) s (nI z)
  refine ⟨1, M1, fJ Mb (b + 4 + 1 + s) (upto (fun _ => 0) (Mb.2 (b + 4 + 1 + s)) 40), ?_, ?_, ?_, ?_⟩
  · unfold fX3_putRow
    rw [nm_eq, nm_eq, fill_J _ _ _ (by decide) hN, bd_some]; rfl
  · intro x i h
    refine ⟨?_, ?_⟩
    · show (sI (sI M Q 1 (nI k)) Q 2 (nI z)).1 x i = _
      rw [sI_o (by show x ≠ a + 1 + 102 + 2 * s ∨ _; omega), sI_o (by show x ≠ a + 1 + 102 + 2 * s ∨ _; omega)]
    · exact fJ_o (show x ≠ a + 1 + 102 + 2 * s + 1 by omega) i
  · show gd _ _ _ = _
    rw [gd_nI hs (by decide), nm_eq, nm_eq, nm_eq, nI_clamp (by omega), row_m _ hs hN]
  · have f : ∀ x i, x ≠ Q → (x ≠ b + 1 ∨ i ≠ s) → (x ≠ b + 2 ∨ i ≠ s) → (x ≠ b + 3 ∨ i ≠ s) → Mb.1 x i = M.1 x i := fun x i h0 h1 h2 h3 => by
      show (sI (sI (sI M1 (b + 1) s 1) (b + 2) s (nI k)) (b + 3) s (nI z)).1 x i = _
      rw [sI_o h3, sI_o h2, sI_o h1]
      show (sI (sI M Q 1 (nI k)) Q 2 (nI z)).1 x i = _
      rw [sI_o (Or.inl h0), sI_o (Or.inl h0)]
    refine Inv_sh hI hs (fun x i h => f x i ?_ ?_ ?_ ?_) (fun x i h h1 h2 => ?_) (Or.inr (Or.inl ⟨k, z, by omega, hz, ?_, ?_, ?_, ?_, ?_, ?_⟩))
    · show x ≠ a + 1 + 102 + 2 * s
      unfold IH at h; omega
    · unfold IH at h; omega
    · unfold IH at h; omega
    · unfold IH at h; omega
    · exact (fJ_o h2 i).trans (fJ_o h1 i)
    · show (sI (sI (sI M1 (b + 1) s 1) (b + 2) s (nI k)) (b + 3) s (nI z)).1 Q 1 = _
      rw [sI_o (by show a + 1 + 102 + 2 * s ≠ _ ∨ _; omega), sI_o (by show a + 1 + 102 + 2 * s ≠ _ ∨ _; omega), sI_o (by show a + 1 + 102 + 2 * s ≠ _ ∨ _; omega)]
      show (sI (sI M Q 1 (nI k)) Q 2 (nI z)).1 Q 1 = _
      rw [sI_o (Or.inr (by decide)), sI_s]
    · show (sI (sI (sI M1 (b + 1) s 1) (b + 2) s (nI k)) (b + 3) s (nI z)).1 Q 2 = _
      rw [sI_o (by show a + 1 + 102 + 2 * s ≠ _ ∨ _; omega), sI_o (by show a + 1 + 102 + 2 * s ≠ _ ∨ _; omega), sI_o (by show a + 1 + 102 + 2 * s ≠ _ ∨ _; omega)]
      show (sI (sI M Q 1 (nI k)) Q 2 (nI z)).1 Q 2 = _
      rw [sI_s]
    · show (sI (sI (sI M1 (b + 1) s 1) (b + 2) s (nI k)) (b + 3) s (nI z)).1 (b + 1) s = _
      rw [sI_o (by omega), sI_o (by omega), sI_s]
    · show (sI (sI (sI M1 (b + 1) s 1) (b + 2) s (nI k)) (b + 3) s (nI z)).1 (b + 2) s = _
      rw [sI_o (by omega), sI_s]
    · show (sI (sI (sI M1 (b + 1) s 1) (b + 2) s (nI k)) (b + 3) s (nI z)).1 (b + 3) s = _
      rw [sI_s]
    · intro i hi
      rw [fJ_s, upto_in hi, fJ_o (by omega)]
      show (fJ Ma (Q + 1) (upto (fun _ => 0) (M.2 (Q + 1)) 40)).2 (Q + 1) i = _
      rw [fJ_s, upto_in hi]
theorem lit9 {n k : Nat} (hn : n < 2 ^ 31) (hk : k < 2 ^ 31) : (nI n < nI k) = (n < k) := propext (nI_ltI hn hk)
theorem isWay_s {N : Nat} {M : Mem} {q k : Nat} (h : M.1 q 1 = nI k) (hk : k < 100) : fX3_isWay N M q = some (b1 (!decide (k < 10))) := by
  unfold fX3_isWay
  rw [h, show (10 : Int32) = nI 10 from rfl, if_b1n, decide_eq_decide.mpr (nI_ltI (by omega) (by decide))]
theorem isRow_s {N : Nat} {M : Mem} {q k : Nat} (h : M.1 q 1 = nI k) (hk : k < 100) : fX3_isRow N M q = some (b1 (!decide (4 < k))) := by
  unfold fX3_isRow
  rw [h, if_neg (nI_pos (by omega)), show (4 : Int32) = nI 4 from rfl, if_b1n, decide_eq_decide.mpr (nI_ltI (by decide) (by omega))]
/-- a shelf, as both tell it -/
def ShN (N : Nat) (M : Mem) (q b s : Nat) : Prop := fX3_isWay N M q = some 0 ∧ fX3_isRow N M q = some 0 ∧ M.1 q 1 = -1 ∧ M.1 (b + 1) s = 0
def ShR (N : Nat) (M : Mem) (q b s k z : Nat) : Prop := fX3_isWay N M q = some 0 ∧ fX3_isRow N M q = some 1 ∧ M.1 q 1 = nI k ∧ M.1 q 2 = nI z ∧ M.1 (b + 1) s = 1 ∧ M.1 (b + 2) s = nI k ∧ M.1 (b + 3) s = nI z ∧ ∀ i, i < 40 → M.2 (q + 1) i = M.2 (b + 4 + 1 + s) i
def ShW (N : Nat) (M : Mem) (q b s k : Nat) : Prop := fX3_isWay N M q = some 1 ∧ fX3_isRow N M q = some 0 ∧ M.1 q 1 = nI (10 + k) ∧ M.1 (b + 1) s = 2 ∧ M.1 (b + 13) s = nI k ∧ M.1 (b + 14) s = M.1 q 3 ∧ wok (nI k) (M.1 q 3)
theorem sh_cases {N : Nat} {M : Mem} {q b s : Nat} (h : SHr M q b s) : ShN N M q b s ∨ (∃ k z, k < 5 ∧ z ≤ 40 ∧ ShR N M q b s k z) ∨ (∃ k, 1 ≤ k ∧ k ≤ 5 ∧ ShW N M q b s k) := by
  rcases h with ⟨h1, h2⟩ | ⟨k, z, hk, hz, h1, h2, h3, h4, h5, h6⟩ | ⟨k, hk1, hk, h1, h2, h3, h4, h5⟩
  · refine Or.inl ⟨?_, ?_, h1, h2⟩
    · unfold fX3_isWay; rw [h1]; rfl
    · unfold fX3_isRow; rw [h1]; rfl
  · refine Or.inr (Or.inl ⟨k, z, hk, hz, ?_, ?_, h1, h2, h3, h4, h5, h6⟩)
    · rw [isWay_s h1 (by omega), decide_eq_true (by omega)]; rfl
    · rw [isRow_s h1 (by omega), decide_eq_false (by omega)]; rfl
  · refine Or.inr (Or.inr ⟨k, hk1, hk, ?_, ?_, h1, h2, h3, h4, h5⟩)
    · rw [isWay_s h1 (by omega), decide_eq_false (by omega)]; rfl
    · rw [isRow_s h1 (by omega), decide_eq_true (by omega)]; rfl
theorem shelf_rC {a b : Nat} {M : Mem} {w j s : Nat} (hab : a = 0 ∧ b = 119) (hj : j ≠ 17) : (rC a M w).1 (b + j) s = M.1 (b + j) s := rC_o (by omega)
theorem hp1_s {N : Nat} {M : Mem} {q z : Nat} (h : M.1 q 2 = nI z) (hz : z ≤ 40) (v : Int32) : fX3_hasPlaces N M q v 1 = some (b1 (decide ((0 : Int32) ≤ v) && decide (v ≤ nI z - 1))) := by
  unfold fX3_hasPlaces
  rw [h]
  rcases tri v (show z < 2 ^ 31 by omega) with hv | ⟨j, hj, rfl⟩
  · rw [rng_n hv (by omega)]
    by_cases h0 : v < 0
    · rw [if_pos h0]; rfl
    · rw [if_neg h0, if_neg (by decide)]
      have h1 := hv.resolve_left h0
      by_cases h2 : nI z < v
      · rw [if_pos h2]; rfl
      · have e : v = nI z := by
          rw [fa_eq]; rw [fa_le] at h1; rw [fa_lt] at h2; omega
        rw [if_neg h2, e, show nI z - nI z = 0 by grind, if_pos (by decide)]; rfl
  · rw [rng_y hj (by omega), if_neg (nI_pos (by omega)), if_neg (by decide), if_neg (nI_nlt (by omega) (by omega)), pk_sub (by omega), if_neg (show ¬ nI (z - j) < 1 from nI_nlt (b := 1) (by omega) (by omega))]; rfl
def fitS (k : Nat) (v : Int64) : Int64 :=
  if k = 0 then (((v : Int64).toInt32 : Int32).toInt8.toInt32 : Int32).toInt64 else if k = 1 then (((v : Int64).toInt32 : Int32).toInt16.toInt32 : Int32).toInt64 else if k = 2 then ((v : Int64).toInt32 : Int32).toInt64 else if k = 3 then v else if lg_cmp v 0 = 0 then 0 else 1
theorem put_c {N : Nat} {M : Mem} {q k i : Nat} (h : M.1 q 1 = nI k) (hk : k < 5) (hi : i < 40) (v : Int64) : fX3_put N M q (nI i) v = some (sJ M (q + 1) i (fitS k v)) := by
  unfold fX3_put fitS
  simp only [gd_nI hi (show 40 < 2 ^ 31 by decide)]
  rw [if_neg (nI_pos (by omega)), if_pos (show nI i < 40 from nI_lt (b := 40) hi (by decide)), h, nI_clamp (by omega)]
  have h5 : k = 0 ∨ k = 1 ∨ k = 2 ∨ k = 3 ∨ k = 4 := by omega
  rcases h5 with rfl | rfl | rfl | rfl | rfl <;> try rfl
  by_cases q0 : lg_cmp v 0 = 0
  · simp only [q0, if_true]; rfl
  · simp only [q0, if_false]; rfl
theorem fit_m {N : Nat} {M : Mem} {k : Nat} (hk : k < 5) (v : Int64) : fX7_fit N M (nI k) v = some (fitS k v) := by
  unfold fX7_fit fitS
  have h5 : k = 0 ∨ k = 1 ∨ k = 2 ∨ k = 3 ∨ k = 4 := by omega
  rcases h5 with rfl | rfl | rfl | rfl | rfl <;> try rfl
  by_cases q0 : lg_cmp v 0 = 0
  · simp only [q0, if_true]; rfl
  · simp only [q0, if_false]; rfl
theorem op_set_ {kp : Int32} {a b N : Nat} {M : Mem} (hI : Inv kp a b M) (v1 v2 : Int32) (v3 : Int64) : Op kp a b M (fX6_set N M a v1 v2 v3) (fun M1 => fX7_set N M1 b v1 v2 v3) := by
  unfold fX6_set fX7_set
  refine op_sg hI v1 id _ _ ?_
  rintro s hs rfl
  have hab := hI.1
  rcases sh_cases (N := N) (hI.2.1 s hs) with ⟨h1, h2, h3, h4⟩ | ⟨k, z, hk, hz, h1, h2, h3, h4, h5, h6, h7, h8⟩ | ⟨k, hk1, hk, h1, h2, h3, h4, -⟩
  · refine Op.ref hI (w := 4) (by decide) (by decide) (-4) ?_ ?_
    · rw [h1, bd_some, if_pos rfl, h2, bd_some, if_pos rfl, rfC4]; rfl
    · show gd _ _ _ = _
      rw [gd_nI hs (by decide), nI_clamp (by omega), shelf_rC hab (by decide), h4, if_neg (by decide), if_pos rfl, rfM4]; rfl
  · rw [h1, bd_some, if_pos rfl, h2, bd_some, if_neg (by decide), hp1_s h4 hz]
    cases e : (decide ((0 : Int32) ≤ v2) && decide (v2 ≤ nI z - 1))
    · refine Op.ref hI (w := 2) (by decide) (by decide) (-2) ?_ ?_
      · rw [bd_some, b1_if, if_neg (by decide), rfC2]; rfl
      · show gd _ _ _ = _
        rw [gd_nI hs (by decide), nI_clamp (by omega), shelf_rC hab (by decide), h5, if_neg (by decide), if_neg (by decide), shelf_rC hab (by decide), h7, in_w N _ v2 0 (nI z - 1) (by decide) rfl, e, bd_some, b1_if, if_neg (by decide), rfM2]; rfl
    · have hi : ∃ i, i < z ∧ v2 = nI i := by
        rcases tri v2 (show z < 2 ^ 31 by omega) with hv | hv
        · rw [rng_n hv (by omega)] at e; cases e
        · exact hv
      obtain ⟨i, hi, rfl⟩ := hi
      let Q := a + 1 + 102 + 2 * s
      refine ⟨1, sJ M (Q + 1) i (fitS k v3), sJ (sJ M (Q + 1) i (fitS k v3)) (b + 4 + 1 + s) i (fitS k v3), ?_, ?_, ?_, ?_⟩
      · rw [bd_some, b1_if, if_pos rfl, put_c h3 hk (by omega)]; rfl
      · exact fun x j h => ⟨rfl, sJ_o (Or.inl (show x ≠ a + 1 + 102 + 2 * s + 1 by omega))⟩
      · show gd _ _ _ = _
        rw [gd_nI hs (by decide), nI_clamp (n := s) (by omega)]
        show (if M.1 (b + 1) s = 2 then _ else if M.1 (b + 1) s = 0 then _ else bd (fX7_in N _ (nI i).toInt64 0 (M.1 (b + 3) s - 1).toInt64) (fun r6 => if r6 = 0 then _ else bd (fX7_fit N _ (M.1 (b + 2) s) v3) _)) = _
        rw [h5, if_neg (by decide), if_neg (by decide), h7, in_w N _ (nI i) 0 (nI z - 1) (by decide) rfl, e, bd_some, b1_if, if_pos rfl, h6, fit_m hk, bd_some, gd_nI (by omega) (by decide), nI_clamp (by omega)]; rfl
      · refine Inv_sh hI hs (fun _ _ _ => rfl) (fun x j _ p q => ?_) (Or.inr (Or.inl ⟨k, z, hk, hz, h3, h4, h5, h6, h7, fun j hj => ?_⟩))
        · rw [sJ_o (Or.inl q), sJ_o (Or.inl p)]
        · by_cases q : j = i
          · subst q
            rw [sJ_s, sJ_o (Or.inl (by omega))]
            show (sJ M (Q + 1) j _).2 (Q + 1) j = _
            rw [sJ_s]
          · rw [sJ_o (Or.inr q), sJ_o (Or.inr q), sJ_o (Or.inr q), sJ_o (Or.inr q)]
            exact h8 j hj
  · refine Op.ref hI (w := 3) (by decide) (by decide) (-3) ?_ ?_
    · rw [h1, bd_some, if_neg (by decide), rfC3]; rfl
    · show gd _ _ _ = _
      rw [gd_nI hs (by decide), nI_clamp (by omega), shelf_rC hab (by decide), h4, if_pos rfl, rfM3]; rfl
