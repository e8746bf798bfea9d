/-! ===== ways by days: chances, light, doers ===== -/
def WK (n : Nat) (C : Nat → Nat → Int32) : Prop := ∀ p, p < n → C 4 p = -1 ∨ wok (C 4 p) (C 5 p)
theorem WV_WK {M : Mem} {m t n : Nat} {C : Nat → Nat → Int32} (h : WV M m t n C) : WK n C := fun p hp => by
  rcases h p hp with ⟨h1, -⟩ | ⟨-, -, h3⟩
  · exact Or.inl h1
  · exact Or.inr h3
def b1k (b : Bool) : Int32 := if b = true then 1000 else 0
def suS (C : Nat → Nat → Int32) (p : Nat) (d : Int32) : Bool :=
  if C 4 p = 1 then decide (C 5 p = 1) else if C 4 p = 3 then !decide (C 5 p < nI (cntN (C 3 p))) else if C 4 p = 4 then decide ((d - d / (C 5 p / 100) * (C 5 p / 100)) = (C 5 p - C 5 p / 100 * 100)) else if C 4 p = 5 then decide (0 < edg C p (C 5 p)) else false
def chS (C : Nat → Nat → Int32) (p : Nat) (d : Int32) : Int32 := if bt (C 0 9) p = true then 1000 else if C 4 p = 2 then C 5 p else b1k (suS C p d)
theorem ie_1_1 : ((1 : Int32) = 1) = True := by simp
theorem ie_1_2 : ((1 : Int32) = 2) = False := by simp
theorem ie_1_3 : ((1 : Int32) = 3) = False := by simp
theorem ie_1_4 : ((1 : Int32) = 4) = False := by simp
theorem ie_1_5 : ((1 : Int32) = 5) = False := by simp
theorem ie_2_1 : ((2 : Int32) = 1) = False := by simp
theorem ie_2_2 : ((2 : Int32) = 2) = True := by simp
theorem ie_2_3 : ((2 : Int32) = 3) = False := by simp
theorem ie_2_4 : ((2 : Int32) = 4) = False := by simp
theorem ie_2_5 : ((2 : Int32) = 5) = False := by simp
theorem ie_3_1 : ((3 : Int32) = 1) = False := by simp
theorem ie_3_2 : ((3 : Int32) = 2) = False := by simp
theorem ie_3_3 : ((3 : Int32) = 3) = True := by simp
theorem ie_3_4 : ((3 : Int32) = 4) = False := by simp
theorem ie_3_5 : ((3 : Int32) = 5) = False := by simp
theorem ie_4_1 : ((4 : Int32) = 1) = False := by simp
theorem ie_4_2 : ((4 : Int32) = 2) = False := by simp
theorem ie_4_3 : ((4 : Int32) = 3) = False := by simp
theorem ie_4_4 : ((4 : Int32) = 4) = True := by simp
theorem ie_4_5 : ((4 : Int32) = 5) = False := by simp
theorem ie_5_1 : ((5 : Int32) = 1) = False := by simp
theorem ie_5_2 : ((5 : Int32) = 2) = False := by simp
theorem ie_5_3 : ((5 : Int32) = 3) = False := by simp
theorem ie_5_4 : ((5 : Int32) = 4) = False := by simp
theorem ie_5_5 : ((5 : Int32) = 5) = True := by simp
theorem ie_m1_1 : (((-1) : Int32) = 1) = False := by simp
theorem ie_m1_2 : (((-1) : Int32) = 2) = False := by simp
theorem ie_m1_3 : (((-1) : Int32) = 3) = False := by simp
theorem ie_m1_4 : (((-1) : Int32) = 4) = False := by simp
theorem ie_m1_5 : (((-1) : Int32) = 5) = False := by simp
theorem ie_0_1 : ((0 : Int32) = 1) = False := by simp
theorem ie_0_2 : ((0 : Int32) = 2) = False := by simp
theorem ie_0_3 : ((0 : Int32) = 3) = False := by simp
theorem ie_0_4 : ((0 : Int32) = 4) = False := by simp
theorem ie_0_5 : ((0 : Int32) = 5) = False := by simp
theorem sure_c {N : Nat} {M : Mem} {c n p : Nat} {C : Nat → Nat → Int32} (hV : CV M c C) (hC : RC n C) (hW : WK n C) (hp : p < n) (h2 : C 4 p ≠ 2) (d : Int32) : fX4_doesSurely N M c (nI p) d = some (b1 (suS C p d)) := by
  have hn := hC.1.2
  have hb : ∀ i, bt (C 3 p) i = true → i < 12 := fun i hi => Nat.lt_of_lt_of_le (hC.2.2.2.2.2.1 p (by omega) i hi).2.1 hn
  unfold fX4_doesSurely suS
  rw [gd_nI (by omega) (by decide), nI_clamp (by omega), hV 5 (by decide), hV 4 (by decide), hV 3 (by decide), bc_s N M hb, nm_eq, edge_c N hV (by omega)]
  rcases hW p hp with h | ⟨h, -⟩ | ⟨h, -⟩ | ⟨h, -⟩ | ⟨h, dd, r, hd1, hd9, hr, e⟩ | ⟨h, -⟩
  · rw [h]; simp only [ie_m1_1, ie_m1_2, ie_m1_3, ie_m1_4, ie_m1_5, if_false, if_true]; rfl
  · rw [h]; simp only [ie_1_1, ie_1_2, ie_1_3, ie_1_4, ie_1_5, if_false, if_true]; rw [if_b1]
  · exact absurd h h2
  · rw [h]; simp only [ie_3_1, ie_3_2, ie_3_3, ie_3_4, ie_3_5, if_false, if_true]; rw [bd_some, if_b1n]
  · rw [h]; simp only [ie_4_1, ie_4_2, ie_4_3, ie_4_4, ie_4_5, if_false, if_true]
    have e100 : C 5 p / 100 = nI dd := by
      rw [e, show (100 : Int32) = nI 100 from rfl, pk_div (by omega) (by decide) (by decide)]
      congr 1; omega
    rw [nm_eq, e100, if_neg (nI_nle (by omega) (by omega)), gc_of (nI_ne0 (by omega) (by omega)), if_b1]
  · rw [h]; simp only [ie_5_1, ie_5_2, ie_5_3, ie_5_4, ie_5_5, if_false, if_true]
    rw [bd_some]
    by_cases q : edg C p (C 5 p) ≤ 0
    · rw [if_pos q, decide_eq_false (fun x => (le_nlt _ _).mp q x)]; rfl
    · rw [if_neg q, decide_eq_true (fa_of_nle q)]; rfl
theorem chance_c {N : Nat} {M : Mem} {c n p : Nat} {C : Nat → Nat → Int32} (hV : CV M c C) (hC : RC n C) (hW : WK n C) (hp : p < n) (d : Int32) : fX4_chanceOf N M c (nI p) d = some (chS C p d) := by
  have hn := hC.1.2
  unfold fX4_chanceOf chS
  rw [isMust_s N hV (by omega), bd_some, b1_if, gd_nI (by omega) (by decide), nI_clamp (by omega), hV 4 (by decide), hV 5 (by decide)]
  cases bt (C 0 9) p
  · simp only [Bool.false_eq_true, if_false]
    by_cases q : C 4 p = 2
    · rw [if_pos q, if_pos q]
    · rw [if_neg q, if_neg q, sure_c hV hC hW hp q, bd_some, b1_if]
      cases suS C p d <;> rfl
  · rfl
theorem all_bits {n : Nat} (hn : n ≤ 12) {i : Nat} (hi : i < 32) : bt (nI (2 ^ n - 1)) i = decide (i < n) := by
  rw [bt_nI hi, Nat.testBit_two_pow_sub_one]
theorem thou_m {N : Nat} {M : Mem} {m t n p : Nat} {C : Nat → Nat → Int32} (hM : MV M m t n C) (hC : RC n C) (hW : WV M m t n C) (ht : t < 5) (hp : p < n) (d : Int32) (hN : 4097 < N) : fX7_thousandths N M m (nI t) (nI p) d = some (chS C p d) := by
  have hn := hC.1.2
  have hs := near_self hC hp
  unfold fX7_thousandths chS
  rw [gd_nI ht (by decide), nI_clamp (n := t) (by omega), hM.2.2.1, shr1 _ (by omega), b1_if, gd_nI (p := p) (by omega) (by decide), nI_clamp (n := p) (by omega), nm_eq, hM.2.2.2.2.1 p (by omega), bits_s N M _ (by omega), all_s N hM ht hn, sh1 (by omega)]
  cases bt (C 0 9) p
  · simp only [Bool.false_eq_true, i10, i00, if_true, if_false]
    rcases hW p hp with ⟨h, h0⟩ | ⟨k1, k2, h⟩
    · rw [h0, h]
      unfold suS
      rw [h]; simp only [ie_m1_1, ie_m1_2, ie_m1_3, ie_m1_4, ie_m1_5, ie_0_1, ie_0_2, ie_0_3, ie_0_4, ie_0_5, if_false, if_true]; rfl
    · rw [k1, k2]
      unfold suS
      rcases h with ⟨h, -⟩ | ⟨h, -⟩ | ⟨h, -⟩ | ⟨h, dd, r, hd1, hd9, hr, e⟩ | ⟨h, -⟩
      · rw [h]; simp only [ie_1_1, ie_1_2, ie_1_3, ie_1_4, ie_1_5, if_false, if_true]
        by_cases q : C 5 p = 1
        · rw [if_pos q, decide_eq_true q]; rfl
        · rw [if_neg q, decide_eq_false q]; rfl
      · rw [h]; simp only [ie_2_1, ie_2_2, ie_2_3, ie_2_4, ie_2_5, if_false, if_true]
      · rw [h]; simp only [ie_3_1, ie_3_2, ie_3_3, ie_3_4, ie_3_5, if_false, if_true]
        rw [bd_some]
        by_cases q : C 5 p < nI (cntN (C 3 p))
        · rw [if_pos q, decide_eq_true q]; rfl
        · rw [if_neg q, decide_eq_false q]; rfl
      · rw [h]; simp only [ie_4_1, ie_4_2, ie_4_3, ie_4_4, ie_4_5, if_false, if_true]
        have e100 : C 5 p / 100 = nI dd := by
          rw [e, show (100 : Int32) = nI 100 from rfl, pk_div (by omega) (by decide) (by decide)]
          congr 1; omega
        rw [gc_of (by rw [e100]; exact nI_ne0 (by omega) (by omega))]
        by_cases q : (d - d / (C 5 p / 100) * (C 5 p / 100)) = (C 5 p - C 5 p / 100 * 100)
        · rw [if_pos q, decide_eq_true q]; rfl
        · rw [if_neg q, decide_eq_false q]; rfl
      · rw [h]; simp only [ie_5_1, ie_5_2, ie_5_3, ie_5_4, ie_5_5, if_false, if_true]
        have h0 : bt ((C 5 p &&& nI (2 ^ n - 1)) &&& (nI (2 ^ p) ^^^ (-1))) p = false := by rw [off_bits _ (by omega), if_pos rfl]
        have hj := gS_join hC hp h0 (d2 := (C 5 p &&& nI (2 ^ n - 1)) &&& (nI (2 ^ p) ^^^ (-1)) ||| nI (2 ^ p)) (fun i => bt_orp _ (by omega) i)
        have ee : C 3 p &&& ((C 5 p &&& nI (2 ^ n - 1)) &&& (nI (2 ^ p) ^^^ (-1))) = C 3 p &&& C 5 p := by
          apply b_ext; intro i hi
          rw [b_and, off_bits _ (by omega), b_and, all_bits hn hi, b_and]
          by_cases q : i = p
          · subst q; rw [hs]; rfl
          · rw [if_neg q]
            cases e3 : bt (C 3 p) i
            · rfl
            · have := (hC.2.2.2.2.2.1 p (by omega) i e3).2.1
              rw [decide_eq_true this, Bool.and_true]
        have ed : edg C p ((C 5 p &&& nI (2 ^ n - 1)) &&& (nI (2 ^ p) ^^^ (-1))) = edg C p (C 5 p) := by unfold edg; rw [ee]
        rw [ed] at hj
        rw [bd_some, nm_eq, gain_m N hM hC ht hp _ (by omega), bd_some, gain_m N hM hC ht hp _ (by omega), bd_some]
        have hl : (gS C p ((C 5 p &&& nI (2 ^ n - 1)) &&& (nI (2 ^ p) ^^^ (-1)) ||| nI (2 ^ p)) ≤ gS C p ((C 5 p &&& nI (2 ^ n - 1)) &&& (nI (2 ^ p) ^^^ (-1)))) ↔ edg C p (C 5 p) ≤ 0 := by
          rw [← hj]; exact (sub_le0 (gS_bound hC hp _) (gS_bound hC hp _)).symm
        by_cases q : edg C p (C 5 p) ≤ 0
        · rw [if_pos (hl.mpr q), decide_eq_false (fun x => (le_nlt _ _).mp q x)]; rfl
        · rw [if_neg (fun x => q (hl.mp x)), decide_eq_true (fa_of_nle q)]; rfl
  · rfl
theorem ch_nat {n p : Nat} {C : Nat → Nat → Int32} (hW : WK n C) (hp : p < n) (d : Int32) : ∃ j, j ≤ 1000 ∧ chS C p d = nI j := by
  unfold chS
  by_cases h : bt (C 0 9) p = true
  · rw [if_pos h]; exact ⟨1000, by decide, rfl⟩
  · rw [if_neg h]
    by_cases h2 : C 4 p = 2
    · rw [if_pos h2]
      rcases hW p hp with h | ⟨h, -⟩ | ⟨h, j, hj, e⟩ | ⟨h, -⟩ | ⟨h, -⟩ | ⟨h, -⟩
      · rw [h] at h2; exact absurd h2 (by decide)
      · rw [h] at h2; exact absurd h2 (by decide)
      · exact ⟨j, hj, e⟩
      · rw [h] at h2; exact absurd h2 (by decide)
      · rw [h] at h2; exact absurd h2 (by decide)
      · rw [h] at h2; exact absurd h2 (by decide)
    · rw [if_neg h2]
      cases suS C p d
      · exact ⟨0, by decide, rfl⟩
      · exact ⟨1000, by decide, rfl⟩
def chN (C : Nat → Nat → Int32) (p : Nat) (d : Int32) : Nat := (chS C p d).toNatClampNeg
theorem chN_s {n p : Nat} {C : Nat → Nat → Int32} (hW : WK n C) (hp : p < n) (d : Int32) : chS C p d = nI (chN C p d) ∧ chN C p d ≤ 1000 := by
  obtain ⟨j, hj, e⟩ := ch_nat hW hp d
  unfold chN
  rw [e, nI_clamp (by omega)]
  exact ⟨rfl, hj⟩
/-! light -/
def lgt (C : Nat → Nat → Int32) (d : Int32) (L : Nat) : Nat → Nat
  | 0 => L
  | p + 1 => lgt C d L p * (1000 - chN C p d) / 1000
theorem lgt_le (C : Nat → Nat → Int32) (d : Int32) (L : Nat) : ∀ p, lgt C d L p ≤ L
  | 0 => Nat.le_refl L
  | p + 1 => by
    have a := lgt_le C d L p
    have b : lgt C d L p * (1000 - chN C p d) ≤ lgt C d L p * 1000 := Nat.mul_le_mul_left _ (by omega)
    rw [lgt]
    have c : lgt C d L p * (1000 - chN C p d) / 1000 ≤ lgt C d L p := Nat.div_le_of_le_mul (by rw [Nat.mul_comm 1000]; exact b)
    omega
theorem light_c {N : Nat} {M : Mem} {c n L : Nat} {C : Nat → Nat → Int32} (hV : CV M c C) (hC : RC n C) (hW : WK n C) (hL : L ≤ 1000000) (d : Int32) (hN : 4097 < N) : fX4_lightAfter N M c (nI L) d = some (nI (lgt C d L n)) := by
  have hn := hC.1.2
  unfold fX4_lightAfter
  obtain ⟨k, hk⟩ := lp (fun k (s : Int32 × Int32) => fX4_lightAfter_5 N M c d k s.1 s.2) (fun p => (nI (lgt C d L p), nI p)) n (fun k p hp => by
    show fX4_lightAfter_5 N M c d (k + 1) (nI (lgt C d L p)) (nI p) = fX4_lightAfter_5 N M c d k (nI (lgt C d L p * (1000 - chN C p d) / 1000)) (nI (p + 1))
    obtain ⟨e1, e2⟩ := chN_s hW hp d
    have a := lgt_le C d L p
    have b : lgt C d L p * (1000 - chN C p d) ≤ 1000000 * 1000 := Nat.mul_le_mul (by omega) (by omega)
    rw [fX4_lightAfter_5, CV0 hV, hC.2.1, if_neg (nI_ge hp (by omega)), chance_c hV hC hW hp, bd_some, nm_eq, e1, show (1000 : Int32) = nI 1000 from rfl, pk_sub e2, pk_mul, pk_div (by omega) (by decide) (by decide), nI_1]) (N := N) (by omega)
  refine hk.trans ?_
  show fX4_lightAfter_5 N M c d (k + 1) _ (nI n) = _
  rw [fX4_lightAfter_5, CV0 hV, hC.2.1, if_pos (nI_le (Nat.le_refl n) (by omega))]
theorem hour_m {N : Nat} {M : Mem} {m t n L : Nat} {C : Nat → Nat → Int32} (hM : MV M m t n C) (hC : RC n C) (hW : WV M m t n C) (ht : t < 5) (hL : L ≤ 1000000) (d : Int32) (hN : 4097 < N) : fX7_hourOf N M m (nI t) (nI L) d = some (nI (lgt C d L n)) := by
  have hn := hC.1.2
  unfold fX7_hourOf
  obtain ⟨k, hk⟩ := lp (fun k (s : Int32 × Int32) => fX7_hourOf_6 N M m (nI t) d k s.1 s.2) (fun p => (nI (lgt C d L p), nI p)) n (fun k p hp => by
    show fX7_hourOf_6 N M m (nI t) d (k + 1) (nI (lgt C d L p)) (nI p) = fX7_hourOf_6 N M m (nI t) d k (nI (lgt C d L p * (1000 - chN C p d) / 1000)) (nI (p + 1))
    obtain ⟨e1, e2⟩ := chN_s (WV_WK hW) hp d
    have a := lgt_le C d L p
    have b : lgt C d L p * (1000 - chN C p d) ≤ 1000000 * 1000 := Nat.mul_le_mul (by omega) (by omega)
    rw [fX7_hourOf_6, gd_nI ht (by decide), nI_clamp (n := t) (by omega), hM.1, if_neg (nI_ge hp (by omega)), thou_m hM hC hW ht hp d hN, bd_some, nm_eq, e1, show (1000 : Int32) = nI 1000 from rfl, pk_sub e2, nI_l (by omega), nI_l (by omega), lN_mul, show (1000 : Int64) = lN 1000 from rfl, pk_lDiv (by omega) (by decide) (by decide), lN_i, nI_1]) (N := N) (by omega)
  refine hk.trans ?_
  show fX7_hourOf_6 N M m (nI t) d (k + 1) _ (nI n) = _
  rw [fX7_hourOf_6, gd_nI ht (by decide), nI_clamp (n := t) (by omega), hM.1, if_pos (nI_le (Nat.le_refl n) (by omega))]
/-- light behind h hours -/
def lgh (C : Nat → Nat → Int32) (n : Nat) : Nat → Nat
  | 0 => 1000000
  | h + 1 => lgt C (nI (h + 1)) (lgh C n h) n
theorem lgh_le (C : Nat → Nat → Int32) (n : Nat) : ∀ h, lgh C n h ≤ 1000000
  | 0 => Nat.le_refl _
  | h + 1 => Nat.le_trans (lgt_le C _ _ n) (lgh_le C n h)
theorem op_light {kp : Int32} {a b N : Nat} {M : Mem} (hI : Inv kp a b M) (hN : 4097 < N) (v1 v2 : Int32) : Op kp a b M (fX6_light N M a v1 v2) (fun M1 => fX7_light N M1 b v1 v2) := by
  unfold fX6_light fX7_light
  refine op_st hI v1 id _ _ ?_
  rintro k t n C hk ht e1 e2 rfl hC hV hM hW
  refine op_rng hI v2 1 99 (by decide) (by decide) id _ _ (fun h2 => ?_)
  obtain ⟨h, h1, h99, rfl⟩ := rg_nI (x := 1) (y := 99) (by decide) (by decide) h2
  have hK := WV_WK hW
  refine Op.same hI (nI (lgh C n h)) ?_ ?_
  · obtain ⟨j, hj⟩ := lp (fun k (s : Int32 × Int32) => fX6_light_38 N M a (a + 4 + 1 + 11 + 8 * t) (nI h) k s.1 s.2) (fun p => (nI (lgh C n p), nI (p + 1))) h (fun k p hp => by
      show fX6_light_38 N M a _ (nI h) (k + 1) (nI (lgh C n p)) (nI (p + 1)) = fX6_light_38 N M a _ (nI h) k (nI (lgt C (nI (p + 1)) (lgh C n p) n)) (nI (p + 1 + 1))
      rw [fX6_light_38, if_neg (nI_nlt (by omega) (by omega)), light_c hV hC hK (lgh_le C n p) _ hN, bd_some, nI_1 (p + 1)]) (N := N) (by omega)
    refine hj.trans ?_
    show fX6_light_38 N M a _ (nI h) (j + 1) _ (nI (h + 1)) = _
    rw [fX6_light_38, if_pos (nI_lt (by omega) (by omega))]
  · obtain ⟨j, hj⟩ := lp (fun k (s : Int32 × Int32) => fX7_light_34 N M b (nI t) (nI h) k s.1 s.2) (fun p => (nI (lgh C n p), nI (p + 1))) h (fun k p hp => by
      show fX7_light_34 N M b (nI t) (nI h) (k + 1) (nI (lgh C n p)) (nI (p + 1)) = fX7_light_34 N M b (nI t) (nI h) k (nI (lgt C (nI (p + 1)) (lgh C n p) n)) (nI (p + 1 + 1))
      rw [fX7_light_34, if_neg (nI_nlt (by omega) (by omega)), hour_m hM hC hW (by omega) (lgh_le C n p) _ hN, bd_some, nI_1 (p + 1)]) (N := N) (by omega)
    refine hj.trans ?_
    show fX7_light_34 N M b (nI t) (nI h) (j + 1) _ (nI (h + 1)) = _
    rw [fX7_light_34, if_pos (nI_lt (by omega) (by omega))]
theorem op_late {kp : Int32} {a b N : Nat} {M : Mem} (hI : Inv kp a b M) (hN : 4097 < N) (v1 v2 : Int32) : Op kp a b M (fX6_late N M a v1 v2) (fun M1 => fX7_late N M1 b v1 v2) := by
  unfold fX6_late fX7_late
  refine op_st hI v1 id _ _ ?_
  rintro k t n C hk ht e1 e2 rfl hC hV hM hW
  refine op_rng hI v2 0 1000000 (by decide) (by decide) id _ _ (fun h2 => ?_)
  obtain ⟨v, -, hv, rfl⟩ := rg_nI (x := 0) (y := 1000000) (by decide) (by decide) h2
  have hK := WV_WK hW
  refine Op.same hI (if fa_first (fun p => decide (lgh C n (p + 1) ≤ v)) 99 < 99 then nI (fa_first (fun p => decide (lgh C n (p + 1) ≤ v)) 99 + 1) else -1) ?_ ?_
  · have z := lp_first (fun k (s : Int32 × Int32) => fX6_late_39 N M a (a + 4 + 1 + 11 + 8 * t) (nI v) k s.1 s.2) (fun p => (nI (lgh C n p), nI (p + 1))) (fun p => decide (lgh C n (p + 1) ≤ v)) 99 (fun p => some (nI (p + 1), M)) (some (-1, M)) (fun k p hp h => by
      show fX6_late_39 N M a _ (nI v) (k + 1) (nI (lgh C n p)) (nI (p + 1)) = fX6_late_39 N M a _ (nI v) k (nI (lgh C n (p + 1))) (nI (p + 1 + 1))
      have hl := lgh_le C n (p + 1)
      have h3 := of_decide_eq_false h
      rw [fX6_late_39, if_neg (show ¬ (99 : Int32) < nI (p + 1) from nI_nlt (a := 99) (by omega) (by omega)), light_c hV hC hK (lgh_le C n p) _ hN, bd_some]
      show (if nI v < nI (lgh C n (p + 1)) then _ else _) = _
      rw [if_pos (nI_lt (by omega) (by omega)), nI_1 (p + 1)]; rfl) (fun k p hp h => by
      show fX6_late_39 N M a _ (nI v) (k + 1) (nI (lgh C n p)) (nI (p + 1)) = _
      have h3 := of_decide_eq_true h
      rw [fX6_late_39, if_neg (show ¬ (99 : Int32) < nI (p + 1) from nI_nlt (a := 99) (by omega) (by omega)), light_c hV hC hK (lgh_le C n p) _ hN, bd_some]
      show (if nI v < nI (lgh C n (p + 1)) then _ else _) = _
      rw [if_neg (nI_nlt (by omega) (by omega))]) (fun k => by
      show fX6_late_39 N M a _ (nI v) (k + 1) _ (nI 100) = _
      rw [fX6_late_39, if_pos (by decide)]) (N := N) (by omega)
    refine Eq.trans z ?_
    by_cases q : fa_first (fun p => decide (lgh C n (p + 1) ≤ v)) 99 < 99
    · rw [if_pos q, if_pos q]
    · rw [if_neg q, if_neg q]
  · have z := lp_first (fun k (s : Int32 × Int32) => fX7_late_34 N M b (nI t) (nI v) k s.1 s.2) (fun p => (nI (lgh C n p), nI (p + 1))) (fun p => decide (lgh C n (p + 1) ≤ v)) 99 (fun p => some (nI (p + 1), M)) (some (-1, M)) (fun k p hp h => by
      show fX7_late_34 N M b (nI t) (nI v) (k + 1) (nI (lgh C n p)) (nI (p + 1)) = fX7_late_34 N M b (nI t) (nI v) k (nI (lgh C n (p + 1))) (nI (p + 1 + 1))
      have hl := lgh_le C n (p + 1)
      have h3 := of_decide_eq_false h
      rw [fX7_late_34, if_neg (show ¬ (99 : Int32) < nI (p + 1) from nI_nlt (a := 99) (by omega) (by omega)), hour_m hM hC hW (by omega) (lgh_le C n p) _ hN, bd_some]
      show (if nI v < nI (lgh C n (p + 1)) then _ else _) = _
      rw [if_pos (nI_lt (by omega) (by omega)), nI_1 (p + 1)]; rfl) (fun k p hp h => by
      show fX7_late_34 N M b (nI t) (nI v) (k + 1) (nI (lgh C n p)) (nI (p + 1)) = _
      have h3 := of_decide_eq_true h
      rw [fX7_late_34, if_neg (show ¬ (99 : Int32) < nI (p + 1) from nI_nlt (a := 99) (by omega) (by omega)), hour_m hM hC hW (by omega) (lgh_le C n p) _ hN, bd_some]
      show (if nI v < nI (lgh C n (p + 1)) then _ else _) = _
      rw [if_neg (nI_nlt (by omega) (by omega))]) (fun k => by
      show fX7_late_34 N M b (nI t) (nI v) (k + 1) _ (nI 100) = _
      rw [fX7_late_34, if_pos (by decide)]) (N := N) (by omega)
    refine Eq.trans z ?_
    by_cases q : fa_first (fun p => decide (lgh C n (p + 1) ≤ v)) 99 < 99
    · rw [if_pos q, if_pos q]
    · rw [if_neg q, if_neg q]
