/-! ===== draws and doers; rotas ===== -/
theorem sI_id {M : Mem} {a i : Nat} {v : Int32} (h : M.1 a i = v) : sI M a i v = M := mem_ext (fun x j => by
  by_cases q : x = a ∧ j = i
  · obtain ⟨rfl, rfl⟩ := q; rw [sI_s, h]
  · rw [sI_o (by omega)]) (fun _ _ => rfl)
theorem sI_tw {M : Mem} {a i : Nat} {v w : Int32} : sI (sI M a i v) a i w = sI M a i w := mem_ext (fun x j => by
  by_cases q : x = a ∧ j = i
  · obtain ⟨rfl, rfl⟩ := q; rw [sI_s, sI_s]
  · rw [sI_o (by omega), sI_o (by omega), sI_o (by omega)]) (fun _ _ => rfl)
def lcg (s : Int32) : Int32 := s * 1103515245 + 12345
def drw (s : Int32) : Int32 := ((s.toUInt32 >>> ((16 : Int32).toUInt32 &&& Int32.toUInt32 31)).toInt32) - ((s.toUInt32 >>> ((16 : Int32).toUInt32 &&& Int32.toUInt32 31)).toInt32) / 1000 * 1000
theorem draw_c (N : Nat) (M : Mem) (tw : Nat) (s : Int32) : fX5_draw N (sI M tw 4 s) tw 1000 = some (drw (lcg s), sI M tw 4 (lcg s)) := by
  unfold fX5_draw
  rw [sI_s, sI_tw, nm_eq, if_neg (by decide), gc_of (by decide), sI_s]; rfl
theorem draw_m (N : Nat) (M : Mem) (m : Nat) (s : Int32) : fX7_draw N (sI M m 21 s) m 1000 = some (drw (lcg s), sI M m 21 (lcg s)) := by
  unfold fX7_draw
  rw [sI_s, sI_tw, nm_eq, gc_of (by decide), sI_s]; rfl
/-- one of lots, that needn't -/
def lotB (C : Nat → Nat → Int32) (p : Nat) : Bool := !bt (C 0 9) p && decide (C 4 p = 2)
/-- the seed and the set behind one more person -/
def dst (C : Nat → Nat → Int32) (d : Int32) (p : Nat) (s w : Int32) : Int32 × Int32 :=
  if lotB C p = true then (lcg s, if chS C p d ≤ drw (lcg s) then w else w ||| nI (2 ^ p)) else (s, if chS C p d ≤ 0 then w else w ||| nI (2 ^ p))
theorem dst_y {C : Nat → Nat → Int32} {d : Int32} {p : Nat} {s w : Int32} (h : lotB C p = true) : dst C d p s w = (lcg s, if chS C p d ≤ drw (lcg s) then w else w ||| nI (2 ^ p)) := if_pos h
theorem dst_n {C : Nat → Nat → Int32} {d : Int32} {p : Nat} {s w : Int32} (h : ¬ lotB C p = true) : dst C d p s w = (s, if chS C p d ≤ 0 then w else w ||| nI (2 ^ p)) := if_neg h
def drs (C : Nat → Nat → Int32) (d s0 : Int32) : Nat → Int32 × Int32
  | 0 => (s0, 0)
  | p + 1 => dst C d p (drs C d s0 p).1 (drs C d s0 p).2
theorem doers_cs {N a t n p k : Nat} {M : Mem} {C : Nat → Nat → Int32} {d s w : Int32} (ht : t < 4) (hV : CV M (a + 4 + 1 + 11 + 8 * t) C) (hC : RC n C) (hW : WK n C) (hp : p < n) :
    fX6_doers_37 N a (a + 4 + 1 + 11 + 8 * t) d (k + 1) (sI M (a + 4) 4 s) w (nI p) = fX6_doers_37 N a (a + 4 + 1 + 11 + 8 * t) d k (sI M (a + 4) 4 (dst C d p s w).1) (dst C d p s w).2 (nI (p + 1)) := by
  have hn := hC.1.2
  have hVp : CV (sI M (a + 4) 4 s) (a + 4 + 1 + 11 + 8 * t) C := CV_fr (fun j hj i => sI_o (by omega)) hV
  rw [fX6_doers_37]
  generalize fX6_doers_37 N a (a + 4 + 1 + 11 + 8 * t) d k = F
  rw [CV0 hVp, hC.2.1, if_neg (nI_ge hp (by omega)), chance_c hVp hC hW hp, bd_some, gd_nI (by omega) (by decide), nI_clamp (by omega), hVp 4 (by decide), isMust_s N hVp (by omega), bd_some, b1_if, draw_c, sh1 (by omega), nI_1]
  by_cases hl : lotB C p = true
  · rw [dst_y hl]
    unfold lotB at hl
    rw [Bool.and_eq_true, decide_eq_true_eq] at hl
    have hb : bt (C 0 9) p = false := by simpa using hl.1
    generalize lcg s = s1
    generalize drw s1 = x
    rw [if_pos hl.2, hb, if_neg (show ¬ false = true by decide), if_neg (show ¬ (1 : Int32) = 0 by decide), bd_some]
    by_cases q : chS C p d ≤ x
    · rw [if_pos q, if_pos q]
    · rw [if_neg q, if_neg q]; rfl
  · rw [dst_n hl]
    generalize lcg s = s1
    generalize drw s1 = x
    unfold lotB at hl
    by_cases h2 : C 4 p = 2
    · have hb : bt (C 0 9) p = true := by
        cases e : bt (C 0 9) p
        · rw [e, decide_eq_true h2] at hl; exact absurd rfl hl
        · rfl
      rw [if_pos h2, hb, if_pos (show true = true by rfl), if_pos (show (0 : Int32) = 0 by rfl)]
      by_cases q : chS C p d ≤ 0
      · rw [if_pos q, if_pos q]
      · rw [if_neg q, if_neg q, nm_eq]
    · rw [if_neg h2, if_pos (show (0 : Int32) = 0 by rfl)]
      by_cases q : chS C p d ≤ 0
      · rw [if_pos q, if_pos q]
      · rw [if_neg q, if_neg q, nm_eq]
theorem doers_c {N a t n : Nat} {M : Mem} {C : Nat → Nat → Int32} (ht : t < 4) (hV : CV M (a + 4 + 1 + 11 + 8 * t) C) (hC : RC n C) (hW : WK n C) (d : Int32) (hN : 4097 < N) :
    fX6_doers_37 N a (a + 4 + 1 + 11 + 8 * t) d N M 0 0 = some ((drs C d (M.1 (a + 4) 4) n).2, sI M (a + 4) 4 (drs C d (M.1 (a + 4) 4) n).1) := by
  have hn := hC.1.2
  have hVs : ∀ s, CV (sI M (a + 4) 4 s) (a + 4 + 1 + 11 + 8 * t) C := fun s => CV_fr (fun j hj i => sI_o (by omega)) hV
  obtain ⟨k, hk⟩ := lp (fun k (s : Mem × Int32 × Int32) => fX6_doers_37 N a (a + 4 + 1 + 11 + 8 * t) d k s.1 s.2.1 s.2.2) (fun p => (sI M (a + 4) 4 (drs C d (M.1 (a + 4) 4) p).1, (drs C d (M.1 (a + 4) 4) p).2, nI p)) n (fun k p hp => doers_cs ht hV hC hW hp) (N := N) (by omega)
  refine Eq.trans ?_ (hk.trans ?_)
  · show fX6_doers_37 N a _ d N M 0 0 = fX6_doers_37 N a _ d N (sI M (a + 4) 4 (M.1 (a + 4) 4)) 0 (nI 0)
    rw [sI_id rfl]; rfl
  · show fX6_doers_37 N a _ d (k + 1) _ _ (nI n) = _
    rw [fX6_doers_37, CV0 (hVs _), hC.2.1, if_pos (nI_le (Nat.le_refl n) (by omega))]
theorem or_0 (x : Int32) : x ||| 0 = x := by apply b_ext; intro i _; rw [b_or, b_0, Bool.or_false]
theorem ch_1000 {n p : Nat} {C : Nat → Nat → Int32} {d : Int32} (h : lotB C p = false) : (chS C p d ≤ 0 → ¬ chS C p d = 1000) ∧ (¬ chS C p d ≤ 0 → chS C p d = 1000) := by
  unfold lotB at h
  unfold chS
  cases e : bt (C 0 9) p
  · rw [e, Bool.not_false, Bool.true_and, decide_eq_false_iff_not] at h
    rw [if_neg (by decide), if_neg h]
    cases suS C p d
    · exact ⟨fun _ => by decide, fun x => absurd (by decide) x⟩
    · exact ⟨fun x => absurd x (by decide), fun _ => rfl⟩
  · rw [if_pos rfl]
    exact ⟨fun x => absurd x (by decide), fun _ => rfl⟩
theorem doers_ms {N m t n p k : Nat} {M : Mem} {C : Nat → Nat → Int32} {d s w : Int32} (ht : t < 5) (hM : MV M m t n C) (hC : RC n C) (hW : WV M m t n C) (hp : p < n) (hN : 4097 < N) :
    fX7_doers_32 N m (nI t) d (k + 1) (sI M m 21 s) w (nI p) = fX7_doers_32 N m (nI t) d k (sI M m 21 (dst C d p s w).1) (dst C d p s w).2 (nI (p + 1)) := by
  have hn := hC.1.2
  have hMp : MV (sI M m 21 s) m t n C := MV_fr ht (fun x i h1 h2 => sI_o (by omega)) hM
  have hWp : WV (sI M m 21 s) m t n C := WV_fr ht (fun x i h1 h2 => sI_o (by omega)) hW
  have e2 : ((sI M m 21 s).1 (m + 45 + 1 + t) p = 2) ↔ C 4 p = 2 := by
    rcases hWp p hp with ⟨h1, h2⟩ | ⟨h1, -, -⟩
    · rw [h2, h1]; exact ⟨fun x => absurd x (by decide), fun x => absurd x (by decide)⟩
    · rw [h1]
  rw [fX7_doers_32]
  generalize fX7_doers_32 N m (nI t) d k = F
  rw [gd_nI ht (by decide), nI_clamp (n := t) (by omega), hMp.1, if_neg (nI_ge hp (by omega)), thou_m hMp hC hWp ht hp d hN, bd_some, hMp.2.2.1, shr1 _ (by omega), b1_if, gd_nI (p := p) (by omega) (by decide), nI_clamp (n := p) (by omega), draw_m, sh1 (by omega), nI_1]
  by_cases hl : lotB C p = true
  · rw [dst_y hl]
    unfold lotB at hl
    rw [Bool.and_eq_true, decide_eq_true_eq] at hl
    have hb : bt (C 0 9) p = false := by simpa using hl.1
    generalize lcg s = s1
    generalize drw s1 = x
    rw [hb, if_neg (show ¬ false = true by decide), if_pos (e2.mpr hl.2), if_neg (show ¬ (1 : Int32) = 0 by decide), bd_some]
    by_cases q : chS C p d ≤ x
    · rw [if_pos q, if_pos (show (0 : Int32) = 0 by rfl), nm_eq, or_0, if_pos q]
    · rw [if_neg q, if_neg (show ¬ (1 : Int32) = 0 by decide), nm_eq, if_neg q]
  · have hlf : lotB C p = false := by simpa using hl
    obtain ⟨c1, c2⟩ := ch_1000 (n := n) (d := d) hlf
    rw [dst_n hl]
    generalize lcg s = s1
    generalize drw s1 = x
    have key : ∀ X Y : Option (Int32 × Mem), (if chS C p d = 1000 then X else Y) = if chS C p d ≤ 0 then Y else X := fun X Y => by
      by_cases q : chS C p d ≤ 0
      · rw [if_pos q, if_neg (c1 q)]
      · rw [if_neg q, if_pos (c2 q)]
    unfold lotB at hlf
    cases hb : bt (C 0 9) p
    · rw [hb, Bool.not_false, Bool.true_and, decide_eq_false_iff_not] at hlf
      rw [if_neg (show ¬ false = true by decide), if_neg (fun x => hlf (e2.mp x)), if_pos (show (0 : Int32) = 0 by rfl), key]
      by_cases q : chS C p d ≤ 0
      · rw [if_pos q, if_pos (show (0 : Int32) = 0 by rfl), nm_eq, or_0, if_pos q]
      · rw [if_neg q, if_neg (show ¬ (1 : Int32) = 0 by decide), nm_eq, if_neg q]
    · rw [if_pos (show true = true by rfl), if_pos (show (0 : Int32) = 0 by rfl), key]
      by_cases q : chS C p d ≤ 0
      · rw [if_pos q, if_pos (show (0 : Int32) = 0 by rfl), nm_eq, or_0, if_pos q]
      · rw [if_neg q, if_neg (show ¬ (1 : Int32) = 0 by decide), nm_eq, if_neg q]
theorem doers_m {N m t n : Nat} {M : Mem} {C : Nat → Nat → Int32} (ht : t < 5) (hM : MV M m t n C) (hC : RC n C) (hW : WV M m t n C) (d : Int32) (hN : 4097 < N) :
    fX7_doers_32 N m (nI t) d N M 0 0 = some ((drs C d (M.1 m 21) n).2, sI M m 21 (drs C d (M.1 m 21) n).1) := by
  have hn := hC.1.2
  have hMs : ∀ s, MV (sI M m 21 s) m t n C := fun s => MV_fr ht (fun x i h1 h2 => sI_o (by omega)) hM
  obtain ⟨k, hk⟩ := lp (fun k (s : Mem × Int32 × Int32) => fX7_doers_32 N m (nI t) d k s.1 s.2.1 s.2.2) (fun p => (sI M m 21 (drs C d (M.1 m 21) p).1, (drs C d (M.1 m 21) p).2, nI p)) n (fun k p hp => doers_ms ht hM hC hW hp hN) (N := N) (by omega)
  refine Eq.trans ?_ (hk.trans ?_)
  · show fX7_doers_32 N m (nI t) d N M 0 0 = fX7_doers_32 N m (nI t) d N (sI M m 21 (M.1 m 21)) 0 (nI 0)
    rw [sI_id rfl]; rfl
  · show fX7_doers_32 N m (nI t) d (k + 1) _ _ (nI n) = _
    rw [fX7_doers_32, gd_nI ht (by decide), nI_clamp (n := t) (by omega), (hMs _).1, if_pos (nI_le (Nat.le_refl n) (by omega))]
theorem seed_inv {kp : Int32} {a b : Nat} {M : Mem} (hI : Inv kp a b M) (s : Int32) : Inv kp a b (sI (sI M (a + 4) 4 s) b 21 s) := by
  have hab := hI.1
  have f : ∀ x i, ¬ (x = a + 4 ∧ i = 4) → ¬ (x = b ∧ i = 21) → (sI (sI M (a + 4) 4 s) b 21 s).1 x i = M.1 x i := fun x i h1 h2 => by rw [sI_o (by omega), sI_o (by omega)]
  refine Inv_tw hI (fun x i h => f x i (by unfold IT at h; omega) (by unfold IT at h; omega)) (fun _ _ _ => rfl) ?_
  obtain ⟨⟨k, hk, e1, e2, hs⟩, hd, e3, hh⟩ := hI.2.2.2.2.1
  refine ⟨⟨k, hk, by rw [f _ _ (by omega) (by omega), e1], by rw [f _ _ (by omega) (by omega), e2], fun t ht => STr_fr (by omega) (fun x i p q => f _ _ (by omega) (by omega)) (fun x i p q => f _ _ (by omega) (by omega)) (hs t ht)⟩, fun d hd2 => ?_, by rw [sI_o (by omega), sI_s, sI_s], HNr_fr (fun x i p q => f _ _ (by omega) (by omega)) (fun x i p q => f _ _ (by omega) (by omega)) (fun i p q => f _ _ (by omega) (by omega)) hh⟩
  rw [f _ _ (by omega) (by omega), f _ _ (by omega) (by omega)]; exact hd d hd2
theorem op_doers {kp : Int32} {a b N : Nat} {M : Mem} (hI : Inv kp a b M) (hN : 4097 < N) (v1 v2 : Int32) : Op kp a b M (fX6_doers N M a v1 v2) (fun M1 => fX7_doers N M1 b v1 v2) := by
  unfold fX6_doers fX7_doers
  refine op_st hI v1 id _ _ ?_
  rintro k t n C hk ht e1 e2 rfl hC hV hM hW
  refine op_rng hI v2 0 999 (by decide) (by decide) id _ _ (fun h2 => ?_)
  have hab := hI.1
  have es := hI.2.2.2.2.1.2.2.1
  let s1 := (drs C v2 (M.1 (a + 4) 4) n).1
  have hu : Up b M (sI M (a + 4) 4 s1) := fun x i h => ⟨sI_o (by omega), rfl⟩
  refine ⟨(drs C v2 (M.1 (a + 4) 4) n).2, sI M (a + 4) 4 s1, sI (sI M (a + 4) 4 s1) b 21 s1, doers_c (by omega) hV hC (WV_WK hW) v2 hN, hu, ?_, seed_inv hI s1⟩
  have z := doers_m (N := N) (M := sI M (a + 4) 4 s1) (show t < 5 by omega) (MV_fr (by omega) (fun x i p q => (hu x i (by omega)).1) hM) hC (WV_fr (by omega) (fun x i p q => (hu x i (by omega)).1) hW) v2 hN
  rw [(hu b 21 (Nat.le_refl b)).1, ← es] at z
  exact z
theorem op_seed {kp : Int32} {a b N : Nat} {M : Mem} (hI : Inv kp a b M) (v1 : Int32) : Op kp a b M (fX6_seed N M a v1) (fun M1 => fX7_seed N M1 b v1) := by
  have hab := hI.1
  have es := hI.2.2.2.2.1.2.2.1
  refine ⟨M.1 (a + 4) 4, sI M (a + 4) 4 v1, sI (sI M (a + 4) 4 v1) b 21 v1, rfl, fun x i h => ⟨sI_o (by omega), rfl⟩, ?_, seed_inv hI v1⟩
  show fX7_seed N _ b v1 = _
  unfold fX7_seed
  rw [nm_eq, nm_eq, sI_o (by omega), ← es]
/-! rotas -/
def dayB (n : Nat) (w : Int64) : Bool := decide (0 ≤ w) && decide (w ≤ lN (2 ^ n - 1))
def dayX (C : Nat → Nat → Int32) (w : Int64) : Int32 := w.toInt32 ||| C 0 9
def rotF (C : Nat → Nat → Int32) (f : Nat → Int64) (p d : Nat) : Int32 := gS C p (dayX C (f d) &&& (nI (2 ^ p) ^^^ (-1))) - gS C p (dayX C (f d))
def rotB (C : Nat → Nat → Int32) (f : Nat → Int64) (x p : Nat) : Bool := !bt (C 0 9) p && decide (0 < isum (rotF C f p) x)
theorem day_N {n : Nat} (hn : n ≤ 12) {w : Int64} (h : dayB n w = true) : ∃ s, s < 2 ^ n ∧ w = lN s := by
  have h31 := pow31 hn
  have h0 := Nat.two_pow_pos n
  unfold dayB at h
  rw [Bool.and_eq_true, decide_eq_true_eq, decide_eq_true_eq] at h
  obtain ⟨s, hs, rfl⟩ := pk_lOf (x := w) (fun q => by rw [fa_lt64] at q; have := h.1; rw [fa_le64] at this; omega)
  exact ⟨s, by have := (pk_lLE hs (by omega)).mp h.2; omega, rfl⟩
theorem told_c2 {N : Nat} {M : Mem} {q b s k z d : Nat} (h : ShR N M q b s k z) (hz : z ≤ 40) (hd : d < z) : fX3_told N M q (nI d) = some (M.2 (b + 4 + 1 + s) d) := by
  obtain ⟨h1, h2, h3, h4, h5, h6, h7, h8⟩ := h
  unfold fX3_told
  rw [h2, bd_some, if_neg (by decide), hp1_s h4 hz, rng_y hd (by omega), bd_some, b1_if, if_pos rfl, gd_nI (by omega) (by decide), nI_clamp (by omega), h8 d (by omega)]
theorem isRota_c {N : Nat} {M : Mem} {c n q b s k z x : Nat} {C : Nat → Nat → Int32} (hV : CV M c C) (hC : RC n C) (h : ShR N M q b s k z) (hz : z ≤ 40) (hx : x ≤ 40) (hN : 4097 < N) :
    fX6_isRota N M c q (nI x) = some (b1 (decide (x ≤ z) && decide (fa_first (fun d => !dayB n (M.2 (b + 4 + 1 + s) d)) x = x))) := by
  have hn := hC.1.2
  have h31 := pow31 hn
  have h0 := Nat.two_pow_pos n
  unfold fX6_isRota
  rw [show (0 : Int32) = nI 0 from rfl, hp_nn h.2.2.2.1 hz (by decide) (by omega), bd_some, Nat.zero_add]
  show (if b1 _ = 0 then _ else _) = _
  rw [b1_if]
  by_cases q1 : x ≤ z
  · rw [decide_eq_true q1, if_pos rfl, Bool.true_and]
    have a := lp_first (fun k (s : Int32) => fX6_isRota_13 N M c q (nI x) k s) nI (fun d => !dayB n (M.2 (b + 4 + 1 + s) d)) x (fun _ => some 0) (some 1) (fun k d hd hh => by
      show fX6_isRota_13 N M c q (nI x) (k + 1) (nI d) = fX6_isRota_13 N M c q (nI x) k (nI (d + 1))
      have hh2 : dayB n (M.2 (b + 4 + 1 + s) d) = true := by simpa using hh
      obtain ⟨v, hv, ev⟩ := day_N hn hh2
      rw [fX6_isRota_13, if_neg (nI_ge hd (by omega)), told_c2 h hz (by omega), bd_some, sets_s N hV hC, bd_some, nI_l (by omega), ev, if_neg (fun w => by
        rw [lg_cmp_lt, fa_lt64, pk_lT (by omega)] at w
        have : (0 : Int64).toInt = 0 := by decide
        omega), if_pos ((lg_cmp_lt _ _).mpr ((pk_lLT (by omega) (by omega)).mpr hv)), nI_1]) (fun k d hd hh => by
      show fX6_isRota_13 N M c q (nI x) (k + 1) (nI d) = some 0
      have hh2 : dayB n (M.2 (b + 4 + 1 + s) d) = false := by simpa using hh
      rw [fX6_isRota_13, if_neg (nI_ge hd (by omega)), told_c2 h hz (by omega), bd_some, sets_s N hV hC, bd_some, nI_l (by omega)]
      by_cases w0 : lg_cmp (M.2 (b + 4 + 1 + s) d) 0 < 0
      · rw [if_pos w0]
      · rw [if_neg w0, if_neg]
        intro w
        rw [lg_cmp_lt] at w w0
        unfold dayB at hh2
        rw [decide_eq_true (by rw [fa_le64]; rw [fa_lt64] at w0; omega), Bool.true_and, decide_eq_false_iff_not] at hh2
        rw [fa_le64, pk_lT (by omega)] at hh2
        rw [fa_lt64, pk_lT (by omega)] at w
        omega) (fun k => by
      show fX6_isRota_13 N M c q (nI x) (k + 1) (nI x) = some 1
      rw [fX6_isRota_13, if_pos (nI_le (Nat.le_refl x) (by omega))]) (N := N) (by omega)
    refine a.trans ?_
    have hle := fa_first_le (fun d => !dayB n (M.2 (b + 4 + 1 + s) d)) x
    by_cases q2 : fa_first (fun d => !dayB n (M.2 (b + 4 + 1 + s) d)) x < x
    · rw [if_pos q2, decide_eq_false (by omega)]; rfl
    · rw [if_neg q2, decide_eq_true (by omega)]; rfl
  · rw [decide_eq_false q1]; rfl
theorem dayX_bits {n : Nat} {C : Nat → Nat → Int32} (hC : RC n C) {w : Int64} (h : dayB n w = true) : ∀ i, bt (dayX C w) i = true → i < 12 := fun i hi => by
  have hn := hC.1.2
  obtain ⟨s, hs, rfl⟩ := day_N hn h
  unfold dayX at hi
  rw [lN_i] at hi
  exact Nat.lt_of_lt_of_le (or_lt hC hs i hi) hn
theorem leave_c {N : Nat} {M : Mem} {c n q b s k z x p : Nat} {C : Nat → Nat → Int32} (hV : CV M c C) (hC : RC n C) (h : ShR N M q b s k z) (hz : z ≤ 40) (hx : x ≤ z) (hd : ∀ d, d < x → dayB n (M.2 (b + 4 + 1 + s) d) = true) (hp : p < n) (hN : 4097 < N) :
    fX6_gainByLeaving N M c (nI p) q (nI x) = some (isum (rotF C (M.2 (b + 4 + 1 + s)) p) x) := by
  have hn := hC.1.2
  unfold fX6_gainByLeaving
  obtain ⟨j, hj⟩ := lp (fun k (s : Int32 × Int32) => fX6_gainByLeaving_6 N M c q (nI p) (nI x) k s.1 s.2) (fun d => (isum (rotF C (M.2 (b + 4 + 1 + s)) p) d, nI d)) x (fun k d hdx => by
    show fX6_gainByLeaving_6 N M c q (nI p) (nI x) (k + 1) _ (nI d) = fX6_gainByLeaving_6 N M c q (nI p) (nI x) k (isum (rotF C (M.2 (b + 4 + 1 + s)) p) d + rotF C (M.2 (b + 4 + 1 + s)) p d) (nI (d + 1))
    have hb := dayX_bits hC (hd d hdx)
    have hb2 : ∀ i, bt (dayX C (M.2 (b + 4 + 1 + s) d) &&& (nI (2 ^ p) ^^^ (-1))) i = true → i < 12 := fun i hi => hb i (by rw [b_and, Bool.and_eq_true] at hi; exact hi.1)
    rw [fX6_gainByLeaving_6, if_neg (nI_ge hdx (by omega)), told_c2 h hz (by omega), bd_some, nm_eq, CV0 hV, sh1 (by omega)]
    show bd (fX4_gainOf N M c (nI p) (dayX C (M.2 (b + 4 + 1 + s) d) &&& (nI (2 ^ p) ^^^ (-1)))) (fun r4 => bd (fX4_gainOf N M c (nI p) (dayX C (M.2 (b + 4 + 1 + s) d))) _) = _
    rw [gain_c N hV (by omega) hb2, bd_some, gain_c N hV (by omega) hb, bd_some, nm_eq, nI_1]; rfl) (N := N) (by omega)
  refine hj.trans ?_
  show fX6_gainByLeaving_6 N M c q (nI p) (nI x) (j + 1) _ (nI x) = _
  rw [fX6_gainByLeaving_6, if_pos (nI_le (Nat.le_refl x) (by omega))]
theorem rota_c {N : Nat} {M : Mem} {a c n q b s k z x : Nat} {C : Nat → Nat → Int32} (hV : CV M c C) (hC : RC n C) (h : ShR N M q b s k z) (hz : z ≤ 40) (hx : x ≤ z) (hd : ∀ d, d < x → dayB n (M.2 (b + 4 + 1 + s) d) = true) (hN : 4097 < N) :
    fX6_rota_95 N M a c q (nI x) N 0 = some (fst1 (rotB C (M.2 (b + 4 + 1 + s)) x) n, M) := by
  have hn := hC.1.2
  have z0 := lp_first (fun k (s : Int32) => fX6_rota_95 N M a c q (nI x) k s) nI (rotB C (M.2 (b + 4 + 1 + s)) x) n (fun p => some (nI p, M)) (some (-1, M)) (fun k p hp hh => by
    show fX6_rota_95 N M a c q (nI x) (k + 1) (nI p) = fX6_rota_95 N M a c q (nI x) k (nI (p + 1))
    rw [fX6_rota_95, CV0 hV, hC.2.1, if_neg (nI_ge hp (by omega)), isMust_s N hV (by omega), bd_some, b1_if, leave_c hV hC h hz hx hd hp hN, bd_some, nI_1]
    unfold rotB at hh
    cases e : bt (C 0 9) p
    · rw [e, Bool.not_false, Bool.true_and, decide_eq_false_iff_not] at hh
      rw [if_neg (by decide), if_pos ((le_nlt _ _).mpr hh)]
    · rfl) (fun k p hp hh => by
    show fX6_rota_95 N M a c q (nI x) (k + 1) (nI p) = _
    rw [fX6_rota_95, CV0 hV, hC.2.1, if_neg (nI_ge hp (by omega)), isMust_s N hV (by omega), bd_some, b1_if, leave_c hV hC h hz hx hd hp hN, bd_some, nI_1]
    unfold rotB at hh
    rw [Bool.and_eq_true, decide_eq_true_eq] at hh
    have e : bt (C 0 9) p = false := by simpa using hh.1
    rw [e, if_neg (by decide), if_neg (fun w => (le_nlt _ _).mp w hh.2)]) (fun k => by
    show fX6_rota_95 N M a c q (nI x) (k + 1) (nI n) = _
    rw [fX6_rota_95, CV0 hV, hC.2.1, if_pos (nI_le (Nat.le_refl n) (by omega))]) (N := N) (by omega)
  refine Eq.trans z0 ?_
  unfold fst1
  by_cases w : fa_first (rotB C (M.2 (b + 4 + 1 + s)) x) n < n
  · rw [if_pos w, if_pos w]
  · rw [if_neg w, if_neg w]
theorem r148 {N : Nat} {M : Mem} {m t n s x p : Nat} {C : Nat → Nat → Int32} (hM : MV M m t n C) (hC : RC n C) (ht : t < 5) (hs : s < 8) (hx : x ≤ 40) (hp : p < n) (K : Int32 → Option (Int32 × Mem)) (hN : 4097 < N) :
    fX7_rota_148 N M m (nI t) (nI s) (nI x) (nI p) K N 0 0 = K (isum (rotF C (M.2 (m + 4 + 1 + s)) p) x) := by
  have hn := hC.1.2
  obtain ⟨j, hj⟩ := lp (fun k (q : Int32 × Int32) => fX7_rota_148 N M m (nI t) (nI s) (nI x) (nI p) K k q.1 q.2) (fun d => (isum (rotF C (M.2 (m + 4 + 1 + s)) p) d, nI d)) x (fun k d hdx => by
    show fX7_rota_148 N M m (nI t) (nI s) (nI x) (nI p) K (k + 1) _ (nI d) = fX7_rota_148 N M m (nI t) (nI s) (nI x) (nI p) K k (isum (rotF C (M.2 (m + 4 + 1 + s)) p) d + rotF C (M.2 (m + 4 + 1 + s)) p d) (nI (d + 1))
    rw [fX7_rota_148, if_neg (nI_ge hdx (by omega)), gd_nI hs (by decide), gd_nI (p := d) (by omega) (by decide), gd_nI ht (by decide), nm_eq, nI_clamp (n := s) (by omega), nI_clamp (n := d) (by omega), nI_clamp (n := t) (by omega), hM.2.2.1, sh1 (by omega), gain_m N hM hC ht hp _ (by omega), bd_some, gain_m N hM hC ht hp _ (by omega), bd_some, nm_eq, nI_1]; rfl) (N := N) (by omega)
  refine hj.trans ?_
  show fX7_rota_148 N M m (nI t) (nI s) (nI x) (nI p) K (j + 1) _ (nI x) = _
  rw [fX7_rota_148, if_pos (nI_le (Nat.le_refl x) (by omega))]
theorem r131 {N : Nat} {M : Mem} {m t n s x : Nat} {C : Nat → Nat → Int32} (hM : MV M m t n C) (hC : RC n C) (ht : t < 5) (hs : s < 8) (hx : x ≤ 40) (hN : 4097 < N) :
    fX7_rota_131 N M m (nI t) (nI s) (nI x) N 0 = some (fst1 (rotB C (M.2 (m + 4 + 1 + s)) x) n, M) := by
  have hn := hC.1.2
  have z0 := lp_first (fun k (q : Int32) => fX7_rota_131 N M m (nI t) (nI s) (nI x) k q) nI (rotB C (M.2 (m + 4 + 1 + s)) x) n (fun p => some (nI p, M)) (some (-1, M)) (fun k p hp hh => by
    show fX7_rota_131 N M m (nI t) (nI s) (nI x) (k + 1) (nI p) = fX7_rota_131 N M m (nI t) (nI s) (nI x) k (nI (p + 1))
    rw [fX7_rota_131, gd_nI ht (by decide), nI_clamp (n := t) (by omega), hM.1, if_neg (nI_ge hp (by omega)), r148 hM hC ht hs hx hp _ hN, gd_nI ht (by decide), hM.2.2.1, shr1 _ (by omega), b1_if, nI_1]
    unfold rotB at hh
    cases e : bt (C 0 9) p
    · rw [e, Bool.not_false, Bool.true_and, decide_eq_false_iff_not] at hh
      rw [if_neg (by decide), if_pos ((le_nlt _ _).mpr hh)]
    · rfl) (fun k p hp hh => by
    show fX7_rota_131 N M m (nI t) (nI s) (nI x) (k + 1) (nI p) = _
    rw [fX7_rota_131, gd_nI ht (by decide), nI_clamp (n := t) (by omega), hM.1, if_neg (nI_ge hp (by omega)), r148 hM hC ht hs hx hp _ hN, gd_nI ht (by decide), hM.2.2.1, shr1 _ (by omega), b1_if, nI_1]
    unfold rotB at hh
    rw [Bool.and_eq_true, decide_eq_true_eq] at hh
    have e : bt (C 0 9) p = false := by simpa using hh.1
    rw [e, if_neg (by decide), if_neg (fun w => (le_nlt _ _).mp w hh.2)]) (fun k => by
    show fX7_rota_131 N M m (nI t) (nI s) (nI x) (k + 1) (nI n) = _
    rw [fX7_rota_131, gd_nI ht (by decide), nI_clamp (n := t) (by omega), hM.1, if_pos (nI_le (Nat.le_refl n) (by omega))]) (N := N) (by omega)
  refine Eq.trans z0 ?_
  unfold fst1
  by_cases w : fa_first (rotB C (M.2 (m + 4 + 1 + s)) x) n < n
  · rw [if_pos w, if_pos w]
  · rw [if_neg w, if_neg w]
theorem r92 {N : Nat} {M : Mem} {m t n s x k : Nat} {C : Nat → Nat → Int32} (h : M.1 m 10 = nI k) (hk : k < 5) (ht : t < k) (hM : MV M m t n C) (hC : RC n C) (hs : s < 8) (hx : x ≤ 40) (hN : 4097 < N) :
    fX7_rota_92 N M m (nI t) (nI s) (nI x) N 0 = if fa_first (fun d => !dayB n (M.2 (m + 4 + 1 + s) d)) x < x then some (-2, rM m M 2) else some (fst1 (rotB C (M.2 (m + 4 + 1 + s)) x) n, M) := by
  have hn := hC.1.2
  refine lp_first (fun k (q : Int32) => fX7_rota_92 N M m (nI t) (nI s) (nI x) k q) nI (fun d => !dayB n (M.2 (m + 4 + 1 + s) d)) x (fun _ => some (-2, rM m M 2)) (some (fst1 (rotB C (M.2 (m + 4 + 1 + s)) x) n, M)) (fun k d hd hh => ?_) (fun k d hd hh => ?_) (fun k => ?_) (N := N) (by omega)
  · show fX7_rota_92 N M m (nI t) (nI s) (nI x) (k + 1) (nI d) = fX7_rota_92 N M m (nI t) (nI s) (nI x) k (nI (d + 1))
    have hh2 : (decide (0 ≤ M.2 (m + 4 + 1 + s) d) && decide (M.2 (m + 4 + 1 + s) d ≤ lN (2 ^ n - 1))) = true := by simpa [dayB] using hh
    rw [fX7_rota_92, if_neg (nI_ge hd (by omega)), gd_nI hs (by decide), gd_nI (p := d) (by omega) (by decide), nI_clamp (n := s) (by omega), nI_clamp (n := d) (by omega), isSet_l N h hk ht hM hn, bd_some, b1_if, hh2, if_pos rfl, nI_1]
  · show fX7_rota_92 N M m (nI t) (nI s) (nI x) (k + 1) (nI d) = _
    have hh2 : (decide (0 ≤ M.2 (m + 4 + 1 + s) d) && decide (M.2 (m + 4 + 1 + s) d ≤ lN (2 ^ n - 1))) = false := by
      have e : dayB n (M.2 (m + 4 + 1 + s) d) = false := by simpa using hh
      exact e
    rw [fX7_rota_92, if_neg (nI_ge hd (by omega)), gd_nI hs (by decide), gd_nI (p := d) (by omega) (by decide), nI_clamp (n := s) (by omega), nI_clamp (n := d) (by omega), isSet_l N h hk ht hM hn, bd_some, b1_if, hh2, if_neg (by decide), rfM2]; rfl
  · show fX7_rota_92 N M m (nI t) (nI s) (nI x) (k + 1) (nI x) = _
    rw [fX7_rota_92, if_pos (nI_le (Nat.le_refl x) (by omega)), r131 hM hC (by omega) hs hx hN]
theorem op_rota {kp : Int32} {a b N : Nat} {M : Mem} (hI : Inv kp a b M) (hN : 4097 < N) (v1 v2 v3 : Int32) : Op kp a b M (fX6_rota N M a v1 v2 v3) (fun M1 => fX7_rota N M1 b v1 v2 v3) := by
  unfold fX6_rota fX7_rota
  have hab := hI.1
  rcases st_cases hI v1 with ⟨k, hk, e1, e2, hv⟩ | ⟨k, t, n, C, hk, ht, e1, e2, rfl, hC, hV, hM, hW⟩
  · refine Op.ref hI (w := 2) (by decide) (by decide) (-2) ?_ ?_
    · rw [streetAt_n e1 hv, bd_some, onO_none]
      rcases tri v2 (show 8 < 2 ^ 31 by decide) with h2 | ⟨q, hq, rfl⟩
      · rw [shelfAt_n h2, bd_some, onO_none, rfC2]; rfl
      · rw [shelfAt_y hq, bd_some, onO_some, gc_of (kd_shelf hab.1 hq), rfC2]; rfl
    · show bd _ _ = _
      rw [isStreet_n N (k := k) (by rw [rC_o (by omega), e2]) (by omega) hv, bd_some, if_pos rfl, rfM2]; rfl
  have hn := hC.1.2
  have iy : ∀ M1, Up b M M1 → fX7_isStreet N M1 b (nI t) = some 1 := fun M1 hu => isStreet_y N (k := k) (by rw [(hu b 10 (Nat.le_refl b)).1, e2]) (by omega) ht
  rw [streetAt_y e1 hk ht, bd_some, onO_some, gc_of (kd_street hab.1 (by omega))]
  refine Op.eq (Y' := fun M1 => bd (fX7_in N M1 v2.toInt64 0 7) (fun r4 => if r4 = 0 then bd (fX7_refuse N M1 b (-2)) (fun r6 => some (id r6.1, r6.2)) else bd (fX7_in N M1 v3.toInt64 1 40) (fun r7 => if r7 = 0 then bd (fX7_refuse N M1 b (-2)) (fun r20 => some (r20.1, r20.2)) else gd v2 8 (if M1.1 (b + 1) v2.toNatClampNeg = 2 then bd (fX7_refuse N M1 b (-3)) (fun r19 => some (r19.1, r19.2)) else if M1.1 (b + 1) v2.toNatClampNeg = 0 then bd (fX7_refuse N M1 b (-4)) (fun r18 => some (r18.1, r18.2)) else if v3 ≤ M1.1 (b + 3) v2.toNatClampNeg then fX7_rota_92 N M1 b (nI t) v2 v3 N 0 else bd (fX7_refuse N M1 b (-2)) (fun r17 => some (r17.1, r17.2)))))) rfl (fun M1 hu => by
    show bd _ _ = _
    rw [iy M1 hu, bd_some, if_neg (by decide)]; rfl) ?_
  refine op_sg hI v2 id _ _ ?_
  rintro s hs rfl
  refine op_rng hI v3 1 40 (by decide) (by decide) id _ _ (fun h3 => ?_)
  obtain ⟨x, hx1, hx, rfl⟩ := rg_nI (x := 1) (y := 40) (by decide) (by decide) h3
  rcases sh_cases (N := N) (hI.2.1 s hs) with ⟨g1, g2, g3, g4⟩ | ⟨kk, z, hkk, hz, hR⟩ | ⟨kk, hk1, hkk, g1, g2, g3, g4, -⟩
  · refine Op.refs hI (w := 4) (by decide) (by decide) (-4) ?_ (fun M1 hM1 => ?_)
    · rw [g1, bd_some, if_pos rfl, g2, bd_some, if_pos rfl, rfC4]; rfl
    · show gd _ _ _ = _
      rw [gd_nI hs (by decide), nI_clamp (by omega), hM1 1 _ (by decide), g4, if_neg (by decide), if_pos rfl, rfM4]; rfl
  · have hR' := hR
    obtain ⟨g1, g2, g3, g4, g5, g6, g7, g8⟩ := hR
    rw [g1, bd_some, if_pos rfl, g2, bd_some, if_neg (by decide), isRota_c hV hC hR' hz hx hN, bd_some, b1_if]
    by_cases q1 : x ≤ z
    · rw [decide_eq_true q1, Bool.true_and]
      have hle := fa_first_le (fun d => !dayB n (M.2 (b + 4 + 1 + s) d)) x
      by_cases q2 : fa_first (fun d => !dayB n (M.2 (b + 4 + 1 + s) d)) x < x
      · refine Op.ref hI (w := 2) (by decide) (by decide) (-2) ?_ ?_
        · rw [decide_eq_false (by omega), if_neg (by decide), rfC2]; rfl
        · show gd _ _ _ = _
          rw [gd_nI hs (by decide), nI_clamp (by omega), shelf_rC hab (by decide), g5, if_neg (by decide), if_neg (by decide), shelf_rC hab (by decide), g7, if_pos (nI_le q1 (by omega)), r92 (k := k) (by rw [rC_o (by omega), e2]) (by omega) ht (MV_rC hab (by omega) hM) hC hs hx hN]
          exact if_pos q2
      · have e0 : fa_first (fun d => !dayB n (M.2 (b + 4 + 1 + s) d)) x = x := by omega
        have hd : ∀ d, d < x → dayB n (M.2 (b + 4 + 1 + s) d) = true := fun d hd => by
          have := fa_first_no (fun d => !dayB n (M.2 (b + 4 + 1 + s) d)) x d (by omega)
          simpa using this
        refine Op.same hI (fst1 (rotB C (M.2 (b + 4 + 1 + s)) x) n) ?_ ?_
        · rw [decide_eq_true e0, if_pos rfl, rota_c hV hC hR' hz q1 hd hN]
        · show gd _ _ _ = _
          rw [gd_nI hs (by decide), nI_clamp (by omega), g5, if_neg (by decide), if_neg (by decide), g7, if_pos (nI_le q1 (by omega)), r92 (k := k) e2 (by omega) ht hM hC hs hx hN, if_neg q2]
    · refine Op.refs hI (w := 2) (by decide) (by decide) (-2) ?_ (fun M1 hM1 => ?_)
      · rw [decide_eq_false q1, Bool.false_and, if_neg (by decide), rfC2]; rfl
      · show gd _ _ _ = _
        rw [gd_nI hs (by decide), nI_clamp (by omega), hM1 1 _ (by decide), g5, if_neg (by decide), if_neg (by decide), hM1 3 _ (by decide), g7, if_neg (nI_ge (by omega) (by omega)), rfM2]; rfl
  · refine Op.refs hI (w := 3) (by decide) (by decide) (-3) ?_ (fun M1 hM1 => ?_)
    · rw [g1, bd_some, if_neg (by decide), rfC3]; rfl
    · show gd _ _ _ = _
      rw [gd_nI hs (by decide), nI_clamp (by omega), hM1 1 _ (by decide), g4, if_pos rfl, rfM3]; rfl
