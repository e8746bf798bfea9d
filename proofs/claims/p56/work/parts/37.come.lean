/-! ===== come: the reference ===== -/
/-- the reference's cells behind all that comes before the ties -/
def cmM (M : Mem) (m t n : Nat) (x c w : Int32) : Mem := sI (sI (sI (sI (emM M m t n) (m + 20) t x) (m + 18) t (nI (n + 1))) (m + 21 + 1 + t) n c) (m + 27 + 1 + t) n w
theorem cm_o {M : Mem} {m t n x i : Nat} {y c w : Int32} (h : x ≠ m + 18 ∧ x ≠ m + 20 ∧ x ≠ m + 21 + 1 + t ∧ x ≠ m + 27 + 1 + t ∧ x ≠ m + 33 + 1 + t ∧ x ≠ m + 39 + 1 + t ∧ x ≠ m + 45 + 1 + t ∧ x ≠ m + 51 + 1 + t) : (cmM M m t n y c w).1 x i = M.1 x i := by
  unfold cmM; rw [sI_o (by omega), sI_o (by omega), sI_o (by omega), sI_o (by omega), em_o (by omega)]
theorem cm_t {M : Mem} {m t n x i : Nat} {y c w : Int32} (h : x = m + 18 ∨ x = m + 20) (hi : i ≠ t) : (cmM M m t n y c w).1 x i = M.1 x i := by
  unfold cmM; rw [sI_o (by omega), sI_o (by omega), sI_o (by omega), sI_o (by omega), em_o (by omega)]
theorem MV_cm {M : Mem} {m t n : Nat} {C : Nat → Nat → Int32} {c w : Int32} (hM : MV M m t n C) (hC : RC n C) (ht : t < 5) (h12 : n < 12) : MV (cmM M m t n (C 0 9) c w) m t (n + 1) (moC C n c w) := by
  have hC' := hC
  obtain ⟨h1, h2, h3, h4, h5, h6⟩ := hM
  refine ⟨?_, ?_, ?_, fun p hp => ⟨?_, ?_⟩, fun p hp => ?_, fun k hk => ?_⟩
  · unfold cmM; rw [sI_o (by omega), sI_o (by omega), sI_s]
  · rw [cm_o (by omega), h2, mo_0 (by omega)]
  · unfold cmM; rw [sI_o (by omega), sI_o (by omega), sI_o (by omega), sI_s, mo_0 (by omega)]
  · unfold cmM
    rw [mo_1, sI_o (by omega)]
    by_cases q : p = n
    · subst q; rw [sI_s, if_pos rfl]
    · rw [sI_o (by omega), sI_o (by omega), sI_o (by omega), em_a (by omega) ht, if_neg q, if_neg q]; exact (h4 p (by omega)).1
  · unfold cmM
    rw [mo_2]
    by_cases q : p = n
    · subst q; rw [sI_s, if_pos rfl]
    · rw [sI_o (by omega), sI_o (by omega), sI_o (by omega), sI_o (by omega), em_a (by omega) ht, if_neg q, if_neg q]; exact (h4 p (by omega)).2
  · unfold cmM
    rw [mo_3 (by omega), sI_o (by omega), sI_o (by omega), sI_o (by omega), sI_o (by omega), em_a (by omega) ht]
    by_cases q : p = n
    · subst q; rw [if_pos rfl, near_none hC' (by omega) (Nat.le_refl p)]
    · rw [if_neg q]; exact h5 p hp
  · unfold cmM
    rw [mo_3 (by omega), sI_o (by omega), sI_o (by omega), sI_o (by omega), sI_o (by omega), em_6]
    unfold emF
    by_cases q : (k / 12 = n ∧ k % 12 < 12) ∨ (k % 12 = n ∧ k / 12 < 12)
    · rw [if_pos q]
      have e := (hC'.2.2.2.2.2.2.1 (k / 12) (by omega) (k % 12) (by omega)).1 (by
        cases e : bt (C 3 (k / 12)) (k % 12)
        · rfl
        · obtain ⟨a1, a2, -⟩ := hC'.2.2.2.2.2.1 (k / 12) (by omega) (k % 12) e
          omega)
      rw [show 12 * (k / 12) + k % 12 = k by omega] at e
      exact e.symm
    · rw [if_neg q]; exact h6 k hk
theorem WV_cm {M : Mem} {m t n : Nat} {C : Nat → Nat → Int32} {x c w : Int32} (hW : WV M m t n C) (ht : t < 5) : WV (cmM M m t n x c w) m t (n + 1) (moC C n c w) := by
  intro r hr
  unfold cmM
  rw [mo_4, mo_5, sI_o (by omega), sI_o (by omega), sI_o (by omega), sI_o (by omega), sI_o (by omega), sI_o (by omega), sI_o (by omega), sI_o (by omega), em_a (by omega) ht, em_a (by omega) ht]
  by_cases q : r = n
  · rw [if_pos q, if_pos q]; exact Or.inl ⟨rfl, rfl⟩
  · rw [if_neg q, if_neg q, if_neg q, if_neg q]; exact hW r (by omega)
/-- behind the ties -/
def adM (M : Mem) (m t n : Nat) (C : Nat → Nat → Int32) (d : Int32) : Nat → Mem
  | 0 => M
  | p + 1 => if bt d p = true then tgM (adM M m t n C d p) m t n p (adC C n d p 3 n ||| nI (2 ^ p)) (adC C n d p 3 p ||| nI (2 ^ n)) 0 else adM M m t n C d p
theorem ad_o {M : Mem} {m t n x i : Nat} {C : Nat → Nat → Int32} {d : Int32} (h1 : x ≠ m + 33 + 1 + t) (h2 : x ≠ m + 39 + 1 + t) : ∀ p, (adM M m t n C d p).1 x i = M.1 x i
  | 0 => rfl
  | p + 1 => by
    rw [adM]
    by_cases q : bt d p = true
    · rw [if_pos q, tgM_o h1 h2, ad_o h1 h2 p]
    · rw [if_neg q, ad_o h1 h2 p]
theorem ad_2 {M : Mem} {m t n x i : Nat} {C : Nat → Nat → Int32} {d : Int32} : ∀ p, (adM M m t n C d p).2 x i = M.2 x i
  | 0 => rfl
  | p + 1 => by
    rw [adM]
    by_cases q : bt d p = true
    · rw [if_pos q]; exact ad_2 p
    · rw [if_neg q, ad_2 p]
theorem MV_ad {M : Mem} {m t n : Nat} {C : Nat → Nat → Int32} {d : Int32} (hM : MV M m t (n + 1) C) (ht : t < 5) : ∀ p, MV (adM M m t n C d p) m t (n + 1) (adC C n d p)
  | 0 => hM
  | p + 1 => by
    rw [adM, adC]
    by_cases q : bt d p = true
    · rw [if_pos q, if_pos q]
      exact MV_tg (MV_ad hM ht p) ht
    · rw [if_neg q, if_neg q]; exact MV_ad hM ht p
theorem come120 {N : Nat} {M : Mem} {m t n : Nat} {C : Nat → Nat → Int32} {d : Int32} (hM : MV M m t (n + 1) C) (ht : t < 5) (h12 : n < 12) (hN : 4097 < N) : fX7_come_120 N m (nI t) d (nI n) N M 0 = some (nI n, adM M m t n C d n) := by
  obtain ⟨k, hk⟩ := lp (fun k (s : Mem × Int32) => fX7_come_120 N m (nI t) d (nI n) k s.1 s.2) (fun p => (adM M m t n C d p, nI p)) n (fun k p hp => by
    show fX7_come_120 N m (nI t) d (nI n) (k + 1) _ (nI p) = fX7_come_120 N m (nI t) d (nI n) k _ (nI (p + 1))
    rw [fX7_come_120, if_neg (nI_ge hp (by omega)), shr1 _ (by omega), b1_if, tieThem_m (MV_ad hM ht p) ht (by omega) (by omega) (by omega), bd_some, nI_1, adM]
    by_cases q : bt d p = true
    · rw [if_pos q, if_pos q]
    · rw [if_neg q, if_neg q]) (N := N) (by omega)
  refine hk.trans ?_
  show fX7_come_120 N m (nI t) d (nI n) (k + 1) _ (nI n) = _
  rw [fX7_come_120, if_pos (nI_le (Nat.le_refl n) (by omega))]
theorem op_come {kp : Int32} {a b N : Nat} {M : Mem} (hI : Inv kp a b M) (hN : 4097 < N) (v1 v2 v3 v4 : Int32) : Op kp a b M (fX6_come N M a v1 v2 v3 v4) (fun M1 => fX7_come N M1 b v1 v2 v3 v4) := by
  have hab := hI.1
  rcases st_cases hI v1 with ⟨k, hk, e1, e2, hv⟩ | ⟨k, t, n, C, hk, ht, e1, e2, rfl, hC, hV, hM, hW⟩
  · refine Op.ref hI (w := 2) (by decide) (by decide) (-2) ?_ ?_
    · unfold fX6_come; rw [streetAt_n e1 hv, bd_some, onO_none, rfC2]; rfl
    · show fX7_come N _ b v1 v2 v3 v4 = _
      unfold fX7_come
      rw [isSet_no N (k := k) (by rw [rC_o (by omega), e2]) (by omega) hv, bd_some, if_pos rfl, rfM2]; rfl
  have hn := hC.1.2
  unfold fX6_come fX7_come
  rw [streetAt_y e1 hk ht, bd_some, onO_some, gc_of (kd_street hab.1 (by omega))]
  refine op_set hI v2 hk ht e2 hC hV hM id _ _ ?_
  rintro s rfl hs
  refine op_rng hI v3 0 99 (by decide) (by decide) id _ _ (fun h3 => ?_)
  refine op_rng hI v4 0 99 (by decide) (by decide) id _ _ (fun h4 => ?_)
  obtain ⟨kc, -, hc, rfl⟩ := rg_nI (x := 0) (y := 99) (by decide) (by decide) h3
  obtain ⟨kw, -, hw, rfl⟩ := rg_nI (x := 0) (y := 99) (by decide) (by decide) h4
  rw [CV0 hV, hC.2.1]
  by_cases h12 : n < 12
  · let C1 := moC C n (nI kc) (nI kw)
    have hR : RC (n + 1) C1 := RC_mo hC h12 hc hw
    have hu : Up b M (wC M (a + 4 + 1 + 11 + 8 * t) (adC C1 n (nI s) n)) := wC_up hab (by omega)
    have hM1 := MV_fr (M' := wC M (a + 4 + 1 + 11 + 8 * t) (adC C1 n (nI s) n)) (show t < 5 by omega) (fun x i p q => (hu x i (by omega)).1) hM
    have hW1 := WV_fr (M' := wC M (a + 4 + 1 + 11 + 8 * t) (adC C1 n (nI s) n)) (show t < 5 by omega) (fun x i p q => (hu x i (by omega)).1) hW
    have hM2 := MV_cm (c := nI kc) (w := nI kw) hM1 hC (by omega) h12
    have emu : ∀ x : Int32, C 0 9 &&& (nI (2 ^ n) ^^^ (-1)) = C 0 9 := fun _ => by
      apply b_ext; intro i _
      rw [off_bits _ (by omega)]
      by_cases q : i = n
      · rw [if_pos q]
        cases e : bt (C 0 9) i
        · rfl
        · have := hC.2.2.2.1 i e; omega
      · rw [if_neg q]
    refine ⟨nI n, wC M (a + 4 + 1 + 11 + 8 * t) (adC C1 n (nI s) n), adM (cmM (wC M (a + 4 + 1 + 11 + 8 * t) (adC C1 n (nI s) n)) b t n (C 0 9) (nI kc) (nI kw)) b t n C1 (nI s) n, ?_, hu, ?_, ?_⟩
    · rw [if_pos (show nI n < 12 from nI_lt (b := 12) h12 (by decide)), admit_c hV hC h12 hc hw _ hN]; rfl
    · show gd _ _ _ = _
      have n12 : ¬ nI n = 12 := fun e => by have := (nI_eq (by omega) (by decide)).mp (show nI n = nI 12 from e); omega
      rw [gd_nI (by omega) (by decide), nI_clamp (by omega), hM1.1, nm_eq, if_neg n12, empty_m _ (by omega) h12 hN, bd_some, nm_eq, sh1 (by omega), em_o (by omega), hM1.2.2.1, emu 0, nm_eq, gd_nI h12 (by decide), nm_eq, nm_eq, nI_clamp (n := n) (by omega), nI_1]
      exact come120 hM2 (by omega) h12 hN
    · refine Inv_st hI e1 hk ht (fun x i hx => ?_) (fun x i => ?_) ⟨n + 1, adC C1 n (nI s) n, RC_ad hR n (Nat.le_refl n), ?_, MV_ad hM2 (by omega) n, ?_⟩
      · unfold EX at hx
        rw [ad_o (by omega) (by omega)]
        by_cases q : x = b + 18 ∨ x = b + 20
        · rw [cm_t q (by omega), wC_o (by omega)]
        · rw [cm_o (by omega), wC_o (by omega)]
      · rw [ad_2]; rfl
      · exact CV_fr (fun j hj i => by rw [ad_o (by omega) (by omega), cm_o (by omega)]) (wC_CV M _ _)
      · have w1 := WV_cm (x := C 0 9) (c := nI kc) (w := nI kw) hW1 (show t < 5 by omega)
        intro r hr
        rw [ad_o (by omega) (by omega), ad_o (by omega) (by omega), ad_45 (by omega), ad_45 (by omega)]
        exact w1 r hr
  · have en : n = 12 := by omega
    subst en
    refine Op.ref hI (w := 6) (by decide) (by decide) (-6) ?_ ?_
    · rw [if_neg (by decide), rfC6]; rfl
    · show gd _ _ _ = _
      rw [gd_nI (by omega) (by decide), nI_clamp (by omega), (MV_rC hab (by omega) hM).1, nm_eq, if_pos (by decide), rfM6]; rfl
