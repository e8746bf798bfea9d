/-! ===== the search's steps ===== -/
theorem done_c {N : Nat} {M : Mem} {h n x : Nat} {C : Nat → Nat → Int32} (hV : CV M (h + 1) C) (hC : RC n C) (e : M.1 h 3 = nI x) (hx : x ≤ 4096) : fX2_isDone N M h = some (b1 (decide (2 ^ n ≤ x))) := by
  have h31 := pow31 hC.1.2
  unfold fX2_isDone
  rw [sets_s N hV hC, bd_some, e]
  by_cases q : 2 ^ n ≤ x
  · rw [if_neg (fun z => Int32.not_lt.mpr (nI_le q (by omega)) z), decide_eq_true q]; rfl
  · rw [if_pos (Int32.not_le.mp (nI_ge (by omega) (by omega))), decide_eq_false q]; rfl
theorem done_m {N : Nat} {M : Mem} {m n x : Nat} {C : Nat → Nat → Int32} (hM : MV M m 4 n C) (hC : RC n C) (e : M.1 m 23 = nI x) (hx : x ≤ 4096) : fX7_isDone N M m = some (b1 (decide (2 ^ n ≤ x))) := by
  have h31 := pow31 hC.1.2
  have h1 : 1 ≤ 2 ^ n := Nat.one_le_two_pow
  unfold fX7_isDone
  rw [show fX7_all N M m 4 = _ from all_s N hM (by decide) hC.1.2, bd_some, e]
  by_cases q : 2 ^ n ≤ x
  · rw [if_neg (show ¬ nI x ≤ nI (2 ^ n - 1) from nI_ge (by omega) (by omega)), decide_eq_true q]; rfl
  · rw [if_pos (nI_le (by omega) (by omega)), decide_eq_false q]; rfl
def ctR (C : Nat → Nat → Int32) (n x j : Nat) : Nat := fb_ct (fun i => rst C n (nI (x + i))) j
def lsR (C : Nat → Nat → Int32) (n x : Nat) (v : Int32) : Nat → Int32
  | 0 => v
  | j + 1 => if rst C n (nI (x + j)) = true then nI (x + j) else lsR C n x v j
def AJ (M M' : Mem) (o f3 f4 f5 : Nat) : Prop := (∀ y i, (y ≠ o ∨ (i ≠ f3 ∧ i ≠ f4 ∧ i ≠ f5)) → M'.1 y i = M.1 y i) ∧ M'.2 = M.2
theorem AJ.sI {M M' : Mem} {o f3 f4 f5 : Nat} (h : AJ M M' o f3 f4 f5) {i : Nat} (v : Int32) (hi : i = f3 ∨ i = f4 ∨ i = f5) : AJ M (sI M' o i v) o f3 f4 f5 := ⟨fun y j q => by rw [sI_o (by omega)]; exact h.1 y j q, h.2⟩
theorem ctR_s (C : Nat → Nat → Int32) (n x j : Nat) : ctR C n x (j + 1) = ctR C n x j + (if rst C n (nI (x + j)) = true then 1 else 0) := rfl
theorem adv_c {N : Nat} {M : Mem} {h n x v : Nat} {C : Nat → Nat → Int32} (hV : CV M (h + 1) C) (hC : RC n C) (e3 : M.1 h 3 = nI x) (hx : x ≤ 2 ^ n) (hv : v ≤ 999) (hN : 4097 < N) :
    ∃ M', fX2_advance N M h (nI v) = some (nI (ctR C n x (min v (2 ^ n - x))), M') ∧ AJ M M' h 3 4 5 ∧ M'.1 h 3 = nI (x + min v (2 ^ n - x)) ∧ M'.1 h 4 = M.1 h 4 + nI (ctR C n x (min v (2 ^ n - x))) ∧ M'.1 h 5 = lsR C n x (M.1 h 5) (min v (2 ^ n - x)) := by
  have h31 := pow31 hC.1.2
  unfold fX2_advance
  rw [nm_eq]
  obtain ⟨q, hq⟩ : ∃ q, q = min v (2 ^ n - x) := ⟨_, rfl⟩
  rw [← hq]
  obtain ⟨k, ⟨Mw, w⟩, ⟨ew, hA, h3, h4, h5⟩, e⟩ := lpI (fun k (s : Mem × Int32) => fX2_advance_7 N h (nI v) (M.1 h 4) k s.1 s.2) (fun j s => s.2 = nI j ∧ AJ M s.1 h 3 4 5 ∧ s.1.1 h 3 = nI (x + j) ∧ s.1.1 h 4 = M.1 h 4 + nI (ctR C n x j) ∧ s.1.1 h 5 = lsR C n x (M.1 h 5) j) q (fun k p s hp hs => by
    obtain ⟨Mw, w⟩ := s
    obtain ⟨ew, hA, h3, h4, h5⟩ := hs
    have ew : w = nI p := ew
    subst ew
    have hA : AJ M Mw h 3 4 5 := hA
    have h3 : Mw.1 h 3 = nI (x + p) := h3
    have h4 : Mw.1 h 4 = M.1 h 4 + nI (ctR C n x p) := h4
    have h5 : Mw.1 h 5 = lsR C n x (M.1 h 5) p := h5
    have hVw : CV Mw (h + 1) C := CV_fr (fun j hj i => hA.1 _ _ (Or.inl (by omega))) hV
    cases r : rst C n (nI (x + p))
    · refine ⟨(sI Mw h 3 (nI (x + p) + 1), nI (p + 1)), ⟨rfl, hA.sI _ (by omega), ?_, ?_, ?_⟩, ?_⟩
      · show (sI Mw h 3 _).1 h 3 = _
        rw [sI_s, nI_1, Nat.add_assoc]
      · show (sI Mw h 3 _).1 h 4 = _
        rw [sI_o (by omega), h4, ctR_s, if_neg (by rw [r]; decide), Nat.add_zero]
      · show (sI Mw h 3 _).1 h 5 = _
        rw [sI_o (by omega), h5, lsR, if_neg (by rw [r]; decide)]
      · show fX2_advance_7 N h (nI v) (M.1 h 4) (k + 1) Mw (nI p) = fX2_advance_7 N h (nI v) (M.1 h 4) k _ (nI (p + 1))
        rw [fX2_advance_7, if_neg (nI_ge (by omega) (by omega)), done_c hVw hC h3 (by omega), bd_some, b1_if, decide_eq_false (by omega), if_neg (by decide), h3, rest_c N hVw hC _ (by omega), bd_some, b1_if, r, if_neg (by decide), nm_eq, nI_1 (a := p)]
    · refine ⟨(sI (sI (sI Mw h 4 (M.1 h 4 + nI (ctR C n x p) + 1)) h 5 (nI (x + p))) h 3 (nI (x + p) + 1), nI (p + 1)), ⟨rfl, ((hA.sI _ (by omega)).sI _ (by omega)).sI _ (by omega), ?_, ?_, ?_⟩, ?_⟩
      · show (sI (sI (sI Mw h 4 _) h 5 _) h 3 _).1 h 3 = _
        rw [sI_s, nI_1, Nat.add_assoc]
      · show (sI (sI (sI Mw h 4 _) h 5 _) h 3 _).1 h 4 = _
        rw [sI_o (by omega), sI_o (by omega), sI_s, ctR_s, if_pos r, Int32.add_assoc, nI_1]
      · show (sI (sI (sI Mw h 4 _) h 5 _) h 3 _).1 h 5 = _
        rw [sI_o (by omega), sI_s, lsR, if_pos r]
      · show fX2_advance_7 N h (nI v) (M.1 h 4) (k + 1) Mw (nI p) = fX2_advance_7 N h (nI v) (M.1 h 4) k _ (nI (p + 1))
        rw [fX2_advance_7, if_neg (nI_ge (by omega) (by omega)), done_c hVw hC h3 (by omega), bd_some, b1_if, decide_eq_false (by omega), if_neg (by decide), h3, rest_c N hVw hC _ (by omega), bd_some, b1_if, r, if_pos rfl, nm_eq, nm_eq, nm_eq, sI_o (a := h) (x := h) (i := 4) (j := 3) (by omega), sI_o (a := h) (x := h) (i := 5) (j := 3) (by omega), sI_o (a := h) (x := h) (i := 4) (j := 3) (by omega), h3, h4, nI_1 (a := p)]) (N := N) (by omega) (s0 := (M, 0)) ⟨rfl, ⟨fun _ _ _ => rfl, rfl⟩, by rw [Nat.add_zero]; exact e3, by show M.1 h 4 = M.1 h 4 + 0; rw [Int32.add_zero], rfl⟩
  have ew : w = nI q := ew
  subst ew
  have h4 : Mw.1 h 4 = M.1 h 4 + nI (ctR C n x q) := h4
  have hA : AJ M Mw h 3 4 5 := hA
  have h3 : Mw.1 h 3 = nI (x + q) := h3
  refine ⟨Mw, ?_, hA, h3, h4, h5⟩
  refine Eq.trans e ?_
  show fX2_advance_7 N h (nI v) (M.1 h 4) (k + 1) Mw (nI q) = _
  have es : Mw.1 h 4 - M.1 h 4 = nI (ctR C n x q) := by rw [h4, Int32.add_comm, Int32.add_sub_cancel]
  rw [fX2_advance_7, es]
  by_cases z : v ≤ q
  · rw [if_pos (nI_le z (by omega))]
  · have hVw : CV Mw (h + 1) C := CV_fr (fun j hj i => hA.1 _ _ (Or.inl (by omega))) hV
    rw [if_neg (nI_ge (by omega) (by omega)), done_c hVw hC h3 (by omega), bd_some, b1_if, decide_eq_true (by omega), if_pos rfl]
theorem adv_m {N : Nat} {M : Mem} {m n x v : Nat} {C : Nat → Nat → Int32} (hM : MV M m 4 n C) (hC : RC n C) (e3 : M.1 m 23 = nI x) (hx : x ≤ 2 ^ n) (hv : v ≤ 999) (hN : 4097 < N) :
    ∃ M', fX7_step_45 N m (nI v) N M 0 0 = some (nI (ctR C n x (min v (2 ^ n - x))), M') ∧ AJ M M' m 23 24 25 ∧ M'.1 m 23 = nI (x + min v (2 ^ n - x)) ∧ M'.1 m 24 = M.1 m 24 + nI (ctR C n x (min v (2 ^ n - x))) ∧ M'.1 m 25 = lsR C n x (M.1 m 25) (min v (2 ^ n - x)) := by
  have h31 := pow31 hC.1.2
  obtain ⟨q, hq⟩ : ∃ q, q = min v (2 ^ n - x) := ⟨_, rfl⟩
  rw [← hq]
  obtain ⟨k, ⟨Mw, w2, w⟩, ⟨ew, ew2, hA, h3, h4, h5⟩, e⟩ := lpI (fun k (s : Mem × Int32 × Int32) => fX7_step_45 N m (nI v) k s.1 s.2.1 s.2.2) (fun j s => s.2.2 = nI j ∧ s.2.1 = nI (ctR C n x j) ∧ AJ M s.1 m 23 24 25 ∧ s.1.1 m 23 = nI (x + j) ∧ s.1.1 m 24 = M.1 m 24 ∧ s.1.1 m 25 = lsR C n x (M.1 m 25) j) q (fun k p s hp hs => by
    obtain ⟨Mw, w2, w⟩ := s
    obtain ⟨ew, ew2, hA, h3, h4, h5⟩ := hs
    have ew : w = nI p := ew
    subst ew
    have ew2 : w2 = nI (ctR C n x p) := ew2
    subst ew2
    have hA : AJ M Mw m 23 24 25 := hA
    have h3 : Mw.1 m 23 = nI (x + p) := h3
    have h4 : Mw.1 m 24 = M.1 m 24 := h4
    have h5 : Mw.1 m 25 = lsR C n x (M.1 m 25) p := h5
    have hMw : MV Mw m 4 n C := MV_fr (by decide) (fun x i a b => hA.1 _ _ (Or.inl (by omega))) hM
    cases r : rst C n (nI (x + p))
    · refine ⟨(sI Mw m 23 (nI (x + p) + 1), nI (ctR C n x p), nI (p + 1)), ⟨rfl, ?_, hA.sI _ (by omega), ?_, ?_, ?_⟩, ?_⟩
      · show nI (ctR C n x p) = _
        rw [ctR_s, if_neg (by rw [r]; decide), Nat.add_zero]
      · show (sI Mw m 23 _).1 m 23 = _
        rw [sI_s, nI_1, Nat.add_assoc]
      · show (sI Mw m 23 _).1 m 24 = _
        rw [sI_o (by omega), h4]
      · show (sI Mw m 23 _).1 m 25 = _
        rw [sI_o (by omega), h5, lsR, if_neg (by rw [r]; decide)]
      · show fX7_step_45 N m (nI v) (k + 1) Mw (nI (ctR C n x p)) (nI p) = fX7_step_45 N m (nI v) k _ (nI (ctR C n x p)) (nI (p + 1))
        rw [fX7_step_45, if_neg (nI_ge (by omega) (by omega)), done_m hMw hC h3 (by omega), bd_some, b1_if, decide_eq_false (by omega), if_neg (by decide), h3, show fX7_isRest N Mw m 4 (nI (x + p)) = _ from rest_m N hMw hC (by decide) _ (by omega), bd_some, b1_if, r, if_neg (by decide), nm_eq, nI_1 (a := p)]
    · refine ⟨(sI (sI Mw m 25 (nI (x + p))) m 23 (nI (x + p) + 1), nI (ctR C n x p) + 1, nI (p + 1)), ⟨rfl, ?_, (hA.sI _ (by omega)).sI _ (by omega), ?_, ?_, ?_⟩, ?_⟩
      · show nI (ctR C n x p) + 1 = _
        rw [ctR_s, if_pos r, nI_1]
      · show (sI (sI Mw m 25 _) m 23 _).1 m 23 = _
        rw [sI_s, nI_1, Nat.add_assoc]
      · show (sI (sI Mw m 25 _) m 23 _).1 m 24 = _
        rw [sI_o (by omega), sI_o (by omega), h4]
      · show (sI (sI Mw m 25 _) m 23 _).1 m 25 = _
        rw [sI_o (by omega), sI_s, lsR, if_pos r]
      · show fX7_step_45 N m (nI v) (k + 1) Mw (nI (ctR C n x p)) (nI p) = fX7_step_45 N m (nI v) k _ (nI (ctR C n x p) + 1) (nI (p + 1))
        rw [fX7_step_45, if_neg (nI_ge (by omega) (by omega)), done_m hMw hC h3 (by omega), bd_some, b1_if, decide_eq_false (by omega), if_neg (by decide), h3, show fX7_isRest N Mw m 4 (nI (x + p)) = _ from rest_m N hMw hC (by decide) _ (by omega), bd_some, b1_if, r, if_pos rfl, nm_eq, nm_eq, sI_o (a := m) (x := m) (i := 25) (j := 23) (by omega), h3, nI_1 (a := p)]) (N := N) (by omega) (s0 := (M, 0, 0)) ⟨rfl, rfl, ⟨fun _ _ _ => rfl, rfl⟩, by rw [Nat.add_zero]; exact e3, rfl, rfl⟩
  have ew : w = nI q := ew
  subst ew
  have ew2 : w2 = nI (ctR C n x q) := ew2
  subst ew2
  have h4 : Mw.1 m 24 = M.1 m 24 := h4
  have hA : AJ M Mw m 23 24 25 := hA
  have h3 : Mw.1 m 23 = nI (x + q) := h3
  refine ⟨sI Mw m 24 (M.1 m 24 + nI (ctR C n x q)), ?_, hA.sI _ (by omega), by rw [sI_o (by omega)]; exact h3, sI_s, by rw [sI_o (by omega)]; exact h5⟩
  refine Eq.trans e ?_
  show fX7_step_45 N m (nI v) (k + 1) Mw (nI (ctR C n x q)) (nI q) = _
  rw [fX7_step_45, h4]
  by_cases z : v ≤ q
  · rw [if_pos (nI_le z (by omega)), nm_eq]
  · have hMw : MV Mw m 4 n C := MV_fr (by decide) (fun x i a b => hA.1 _ _ (Or.inl (by omega))) hM
    rw [if_neg (nI_ge (by omega) (by omega)), done_m hMw hC h3 (by omega), bd_some, b1_if, decide_eq_true (by omega), if_pos rfl, nm_eq]
theorem op_step {kp : Int32} {a b N : Nat} {M : Mem} (hI : Inv kp a b M) (hN : 4097 < N) (v1 : Int32) : Op kp a b M (fX6_step N M a v1) (fun M1 => fX7_step N M1 b v1) := by
  unfold fX6_step fX7_step
  refine op_rng hI v1 1 999 (by decide) (by decide) id _ _ (fun h1 => ?_)
  obtain ⟨v, -, hv, rfl⟩ := rg_nI (x := 1) (y := 999) (by decide) (by decide) h1
  have hab := hI.1
  obtain ⟨hst, hkn, hse, hhn⟩ := hI.2.2.2.2.1
  rcases hhn with ⟨e1, e2⟩ | ⟨s, n, C, x, e1, hs, e2, e3, hC, hV, hM, hx, e4, e5, e6, e7⟩
  · refine Op.ref hI (w := 5) (by decide) (by decide) (-5) ?_ ?_
    · rw [if_pos e1, rfC5]; rfl
    · show (if _ then _ else _) = _
      rw [if_pos (by rw [rC_o (by omega), e2]), rfM5]; rfl
  have h31 := pow31 hC.1.2
  have ne1 : ¬ M.1 (a + 4 + 3) 1 = 0 := by rw [e1]; decide
  by_cases z : 2 ^ n ≤ x
  · refine Op.ref hI (w := 5) (by decide) (by decide) (-5) ?_ ?_
    · rw [if_neg ne1, done_c hV hC e4 (by omega), bd_some, b1_if, decide_eq_true z, if_pos rfl, rfC5]; rfl
    · show (if _ then _ else _) = _
      rw [if_neg (by rw [rC_o (by omega), e3]; exact nI_ne_m1 (by omega)), done_m (MV_rC hab (by decide) hM) hC (by rw [rC_o (by omega)]; exact e5) (by omega), bd_some, b1_if, decide_eq_true z, if_pos rfl, rfM5]; rfl
  · obtain ⟨M1, ha1, hA, a3, a4, a5⟩ := adv_c (N := N) (v := v) hV hC e4 hx hv hN
    have hu : Up b M M1 := fun y i h => ⟨hA.1 _ _ (Or.inl (by omega)), by rw [hA.2]⟩
    have hM1 : MV M1 b 4 n C := MV_fr (by decide) (fun x i p q => (hu x i (by omega)).1) hM
    obtain ⟨M2, hb1, hB, b3, b4, b5⟩ := adv_m (N := N) (v := v) hM1 hC (by rw [(hu b 23 (by omega)).1, e5]) hx hv hN
    refine ⟨nI (ctR C n x (min v (2 ^ n - x))), M1, M2, ?_, hu, ?_, ?_⟩
    · rw [if_neg ne1, done_c hV hC e4 (by omega), bd_some, b1_if, decide_eq_false z, if_neg (by decide), ha1, bd_some]
    · show (if _ then _ else _) = _
      rw [if_neg (by rw [(hu b 22 (by omega)).1, e3]; exact nI_ne_m1 (by omega)), done_m hM1 hC (by rw [(hu b 23 (by omega)).1, e5]) (by omega), bd_some, b1_if, decide_eq_false z, if_neg (by decide), hb1]
    · have f : ∀ y i, (y ≠ a + 4 + 3 ∨ (i ≠ 3 ∧ i ≠ 4 ∧ i ≠ 5)) → (y ≠ b ∨ (i ≠ 23 ∧ i ≠ 24 ∧ i ≠ 25)) → M2.1 y i = M.1 y i := fun y i p q => by rw [hB.1 _ _ q, hA.1 _ _ p]
      refine Inv_tw hI (fun y i h => f _ _ (by unfold IT at h; omega) (by unfold IT at h; omega)) (fun _ _ _ => by rw [hB.2, hA.2]) ?_
      obtain ⟨k, hk, e1', e2', hs'⟩ := hst
      refine ⟨⟨k, hk, by rw [f _ _ (by omega) (by omega), e1'], by rw [f _ _ (by omega) (by omega), e2'], fun t ht => STr_fr (by omega) (fun x i p q => f _ _ (by omega) (by omega)) (fun x i p q => f _ _ (by omega) (by omega)) (hs' t ht)⟩, fun d hd => ?_, by rw [f _ _ (by omega) (by omega), f _ _ (by omega) (by omega), hse], Or.inr ⟨s, n, C, x + min v (2 ^ n - x), by rw [f _ _ (by omega) (by omega), e1], hs, by rw [f _ _ (by omega) (by omega), e2], by rw [f _ _ (by omega) (by omega), e3], hC, CV_fr (fun j hj i => f _ _ (by omega) (by omega)) hV, MV_fr (by decide) (fun x i p q => f _ _ (by omega) (by omega)) hM, by omega, by rw [hB.1 _ _ (by omega), a3], b3, ?_, ?_⟩⟩
      · rw [f _ _ (by omega) (by omega), f _ _ (by omega) (by omega)]; exact hkn d hd
      · rw [hB.1 _ _ (by omega), a4, b4, (hu b 24 (by omega)).1, e6]
      · rw [hB.1 _ _ (by omega), a5, b5, (hu b 25 (by omega)).1, e7]
theorem op_search {kp : Int32} {a b N : Nat} {M : Mem} (hI : Inv kp a b M) (v1 : Int32) : Op kp a b M (fX6_search N M a v1) (fun M1 => fX7_search N M1 b v1) := by
  unfold fX6_search fX7_search
  refine op_rng hI v1 0 4 (by decide) (by decide) id _ _ (fun h1 => ?_)
  obtain ⟨v, -, hv, rfl⟩ := rg_nI (x := 0) (y := 4) (by decide) (by decide) h1
  have hab := hI.1
  obtain ⟨hst, hkn, hse, hhn⟩ := hI.2.2.2.2.1
  rcases hhn with ⟨e1, e2⟩ | ⟨s, n, C, x, e1, hs, e2, e3, hC, hV, hM, hx, e4, e5, e6, e7⟩
  · refine Op.ref hI (w := 5) (by decide) (by decide) (-5) ?_ ?_
    · rw [if_pos e1, rfC5]; rfl
    · show (if _ then _ else _) = _
      rw [if_pos (by rw [rC_o (by omega), e2]), rfM5]; rfl
  have h31 := pow31 hC.1.2
  have ne1 : ¬ M.1 (a + 4 + 3) 1 = 0 := by rw [e1]; decide
  have ne2 : ¬ M.1 b 22 = -1 := by rw [e3]; exact nI_ne_m1 (by omega)
  refine Op.same hI (if v = 0 then nI s else if v = 1 then nI x else if v = 2 then M.1 b 24 else if v = 3 then M.1 b 25 else b1 (decide (2 ^ n ≤ x))) ?_ ?_
  · rw [if_neg ne1, e2, e4, e6, e7, done_c hV hC e4 (by omega), bd_some, b1_if]
    have h5 : v = 0 ∨ v = 1 ∨ v = 2 ∨ v = 3 ∨ v = 4 := by omega
    rcases h5 with rfl | rfl | rfl | rfl | rfl <;> try rfl
    by_cases z : 2 ^ n ≤ x
    · rw [decide_eq_true z]; rfl
    · rw [decide_eq_false z]; rfl
  · show (if _ then _ else _) = _
    rw [if_neg ne2, e3, e5, done_m hM hC e5 (by omega), bd_some, b1_if]
    have h5 : v = 0 ∨ v = 1 ∨ v = 2 ∨ v = 3 ∨ v = 4 := by omega
    rcases h5 with rfl | rfl | rfl | rfl | rfl <;> try rfl
    by_cases z : 2 ^ n ≤ x
    · rw [decide_eq_true z]; rfl
    · rw [decide_eq_false z]; rfl
/-! what stands: the counts -/
def usdN (M : Mem) (b : Nat) : Nat → Nat
  | 0 => 0
  | s + 1 => usdN M b s + (if M.1 (b + 1) s = 0 then 0 else 1)
theorem used_c {N : Nat} {M : Mem} {a b : Nat} (h : ∀ s, s < 8 → SHr M (a + 1 + 102 + 2 * s) b s) (hN : 4097 < N) : fX6_shelvesInUse N M a = some (nI (usdN M b 8)) := by
  unfold fX6_shelvesInUse
  obtain ⟨k, hk⟩ := lp (fun k (s : Int32 × Int32) => fX6_shelvesInUse_4 N M a k s.1 s.2) (fun p => (nI (usdN M b p), nI p)) 8 (fun k p hp => by
    show fX6_shelvesInUse_4 N M a (k + 1) _ (nI p) = fX6_shelvesInUse_4 N M a k _ (nI (p + 1))
    rw [fX6_shelvesInUse_4, if_neg (show ¬ (8 : Int32) ≤ nI p from nI_ge (b := 8) hp (by omega)), gd_nI hp (by omega), nI_clamp (by omega), nI_1, nI_1, usdN]
    rcases h p hp with ⟨h1, h2⟩ | ⟨k', z, hk', hz, h1, h2, h3, -⟩ | ⟨k', hk1, hk', h1, h2, -⟩
    · rw [if_pos h1, if_pos h2]; rfl
    · rw [if_neg (by rw [h1]; exact nI_ne_m1 (by omega)), if_neg (by rw [h3]; decide)]
    · rw [if_neg (by rw [h1]; exact nI_ne_m1 (by omega)), if_neg (by rw [h2]; decide)]) (N := N) (by omega)
  refine hk.trans ?_
  show fX6_shelvesInUse_4 N M a (k + 1) _ (nI 8) = _
  rw [fX6_shelvesInUse_4, if_pos (by decide)]
theorem used_m {N : Nat} {M : Mem} {b : Nat} (hN : 4097 < N) : fX7_status_51 N M b N 0 0 = some (nI (usdN M b 8)) := by
  obtain ⟨k, hk⟩ := lp (fun k (s : Int32 × Int32) => fX7_status_51 N M b k s.1 s.2) (fun p => (nI (usdN M b p), nI p)) 8 (fun k p hp => by
    show fX7_status_51 N M b (k + 1) _ (nI p) = fX7_status_51 N M b k _ (nI (p + 1))
    rw [fX7_status_51, if_neg (show ¬ (8 : Int32) ≤ nI p from nI_ge (b := 8) hp (by omega)), gd_nI hp (by omega), nI_clamp (by omega), nm_eq, nm_eq, Int32.add_zero, nI_1, nI_1, usdN]
    by_cases q : M.1 (b + 1) p = 0
    · rw [if_pos q, if_pos q]; rfl
    · rw [if_neg q, if_neg q]) (N := N) (by omega)
  refine hk.trans ?_
  show fX7_status_51 N M b (k + 1) _ (nI 8) = _
  rw [fX7_status_51, if_pos (by decide)]
theorem op_status {kp : Int32} {a b N : Nat} {M : Mem} (hI : Inv kp a b M) (hN : 4097 < N) (v1 : Int32) : ∃ r, fX6_status N M a v1 = some r ∧ fX7_status N M b v1 = some r := by
  have hab := hI.1
  obtain ⟨⟨k, hk, e1, e2, -⟩, -, hse, -⟩ := hI.2.2.2.2.1
  obtain ⟨z, hz, t1, t2, -⟩ := hI.2.2.1
  have hrf := hI.2.2.2.1
  unfold fX6_status fX7_status
  rw [e1, e2, t1, t2, hse, used_c hI.2.1 hN, used_m hN, within_r, in_r N _ v1 12 16 (by decide) (by decide), bd_some]
  by_cases q0 : v1 = 0
  · exact ⟨_, by rw [if_pos q0], by rw [if_pos q0]⟩
  by_cases q1 : v1 = 1
  · exact ⟨_, by rw [if_neg q0, if_pos q1], by rw [if_neg q0, if_pos q1]⟩
  by_cases q2 : v1 = 2
  · exact ⟨_, by rw [if_neg q0, if_neg q1, if_pos q2], by rw [if_neg q0, if_neg q1, if_pos q2]⟩
  by_cases q3 : v1 = 3
  · exact ⟨_, by rw [if_neg q0, if_neg q1, if_neg q2, if_pos q3], by rw [if_neg q0, if_neg q1, if_neg q2, if_pos q3]⟩
  rw [if_neg q0, if_neg q1, if_neg q2, if_neg q3, if_neg q0, if_neg q1, if_neg q2, if_neg q3, bd_some, bd_some, b1_if, b1_if]
  cases h : rg v1 12 16
  · exact ⟨_, by rw [if_neg (by decide)], by rw [if_neg (by decide)]⟩
  obtain ⟨j, hj1, hj2, rfl⟩ := rg_nI (x := 12) (y := 16) (by decide) (by decide) h
  have e12 : nI j - 12 = nI (j - 12) := by
    have h5 : j = 12 ∨ j = 13 ∨ j = 14 ∨ j = 15 ∨ j = 16 := by omega
    rcases h5 with rfl | rfl | rfl | rfl | rfl <;> rfl
  have e10 : nI j - 10 = nI (j - 12 + 2) := by
    have h5 : j = 12 ∨ j = 13 ∨ j = 14 ∨ j = 15 ∨ j = 16 := by omega
    rcases h5 with rfl | rfl | rfl | rfl | rfl <;> rfl
  refine ⟨M.1 (a + 102) (j - 12), ?_, ?_⟩
  · rw [if_pos rfl, e12, gd_nI (by omega) (by decide), nI_clamp (by omega)]
  · rw [if_pos rfl, e10, gd_nI (by omega) (by decide), nI_clamp (by omega), hrf _ (by omega)]
