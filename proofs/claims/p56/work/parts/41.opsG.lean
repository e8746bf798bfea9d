/-! ===== ties tried: cuts, adds, less ===== -/
theorem rg_price {k : Nat} (h : k ≤ 9) : rg (nI k) (-1) 9 = true ∧ ¬ nI k = -1 := by
  refine ⟨?_, nI_ne_m1 (by omega)⟩
  unfold rg
  rw [decide_eq_true (show nI k ≤ 9 from nI_le (b := 9) h (by decide)), Bool.and_true, decide_eq_true_eq, fa_le, nI_toInt (by omega)]
  have a1 : (-1 : Int32).toInt = -1 := by decide
  omega
theorem trial_inv {kp : Int32} {a b : Nat} {M : Mem} {T : Nat → Nat → Int32} (hI : Inv kp a b M) : Inv kp a b (wC M (a + 92) T) := by
  have hab := hI.1
  refine Inv_fr hI (fun x i hx hi => ?_) (fun i => wC_o (by omega) i) (fun _ _ _ => rfl) (fun i hi => ?_)
  · unfold IS at hi; exact wC_o (by omega) i
  · rw [wC_o (by omega), wC_o (by omega)]; exact hI.2.2.2.1 i hi
theorem trial_up {a b : Nat} {M : Mem} {T : Nat → Nat → Int32} (hab : a = 0 ∧ b = 119) : Up b M (wC M (a + 92) T) := fun x i h => ⟨wC_o (by omega) i, rfl⟩
/-- the class's trial beside its street -/
def Tri (a t n : Nat) (M : Mem) (T : Nat → Nat → Int32) (C : Nat → Nat → Int32) : Prop := RC n T ∧ RC n C ∧ EqV C T ∧ CV M (a + 92) T ∧ CV M (a + 4 + 1 + 11 + 8 * t) C
theorem tri_mk {a t n : Nat} {M : Mem} {C : Nat → Nat → Int32} (ht : t < 4) (hC : RC n C) (hV : CV M (a + 4 + 1 + 11 + 8 * t) C) : Tri a t n (wC M (a + 92) (beC C (fun j i => M.1 (a + 92 + j) i))) (beC C (fun j i => M.1 (a + 92 + j) i)) C :=
  ⟨RC_eq (be_eq C _) hC, hC, be_eq C _, wC_CV M _ _, CV_fr (fun j hj i => wC_o (by omega) i) hV⟩
theorem tri_wr {a t n : Nat} {M : Mem} {T T' C : Nat → Nat → Int32} (ht : t < 4) (h : Tri a t n M T C) : CV (wC M (a + 92) T') (a + 92) T' ∧ CV (wC M (a + 92) T') (a + 4 + 1 + 11 + 8 * t) C :=
  ⟨wC_CV M _ _, CV_fr (fun j hj i => wC_o (by omega) i) h.2.2.2.2⟩
def cutB (T : Nat → Nat → Int32) (d : Int32) (p q : Nat) : Bool := bt (T 3 p) q && (decide (gS T p d < gS (ptC T p q) p d) || decide (gS T q d < gS (ptC T p q) q d))
theorem isCut_c {N a t n p q : Nat} {M : Mem} {T C : Nat → Nat → Int32} (ht : t < 4) (h : Tri a t n M T C) (hp : p < n) (hq : q < n) (hpq : p ≠ q) (hnr : bt (T 3 p) q = true) {d : Int32} (hd : ∀ i, bt d i = true → i < 12) : fX6_isCut N M a (a + 4 + 1 + 11 + 8 * t) (nI p) (nI q) d = some (b1 (cutB T d p q), M) := by
  obtain ⟨hT, hC, hE, hV, hS⟩ := h
  have hn := hC.1.2
  obtain ⟨w1, w2⟩ := tri_wr (T' := ptC T p q) ht ⟨hT, hC, hE, hV, hS⟩
  have ep : (if bt (C 3 p) q = true then C 6 (12 * p + q) else -1) = T 6 (12 * p + q) := by
    rw [← hE.2.2.2.1 3 p (by omega) (by omega), if_pos hnr, hE.2.2.2.2 _ (by omega)]
  have ej : fX4_join N (wC M (a + 92) (ptC T p q)) (a + 92) (nI p) (nI q) (T 6 (12 * p + q)) = some M := by
    rw [join_c w1 (RC_pt hT hp hq hpq) hp hq hpq, wC_twice, wC_cong (pt_jn hT hp hq hpq hnr), wC_same hV]
  unfold fX6_isCut cutB
  rw [part_c hV hT hp hq hpq, bd_some, gain_c N w1 (by omega) hd, bd_some, gain_c N w2 (by omega) hd, bd_some, priceOf_c w2 hC hp hq hpq, ep, bd_some, ej, bd_some, gain_c N w1 (by omega) hd, bd_some, gain_c N w2 (by omega) hd, bd_some, ← gS_eq hE (show p < 12 by omega), ← gS_eq hE (show q < 12 by omega), hnr, Bool.true_and]
  by_cases c1 : gS T p d < gS (ptC T p q) p d
  · rw [if_pos c1, decide_eq_true c1]; rfl
  · rw [if_neg c1, decide_eq_false c1, Bool.false_or]
    by_cases c2 : gS (ptC T p q) q d ≤ gS T q d
    · rw [if_pos c2, bd_some, ej, decide_eq_false (fun x => (le_nlt _ _).mp c2 x)]; rfl
    · rw [if_neg c2, decide_eq_true (fa_of_nle c2)]; rfl
theorem cuts_c {N a t n : Nat} {M : Mem} {T C : Nat → Nat → Int32} (ht : t < 4) (h : Tri a t n M T C) {d : Int32} (hd : ∀ i, bt d i = true → i < 12) (hN : 4097 < N) : fX6_cuts_29 N a (a + 4 + 1 + 11 + 8 * t) d N M 0 = some (prR (cutB T d) n prS (-1), M) := by
  have hh := h
  obtain ⟨hT, hC, hE, hV, hS⟩ := h
  have hn := hC.1.2
  rw [← prR_map (fun r => some (r, M))]
  have en : ∀ p q, p < n → q < n → p ≠ q → fX4_areNear N M (a + 4 + 1 + 11 + 8 * t) (nI p) (nI q) = some (b1 (bt (T 3 p) q)) := fun p q hp hq hpq => by rw [areNear_s N hS hC hp hq hpq, hE.2.2.2.1 3 p (by omega) (by omega)]
  refine lp_pair (fun k Mw w => fX6_cuts_29 N a (a + 4 + 1 + 11 + 8 * t) d k Mw w) (fun u K k Mw w => fX6_cuts_44 N a (a + 4 + 1 + 11 + 8 * t) d u K k Mw w) M n (cutB T d) _ _ (by omega) (fun k p hp => ?_) (fun k => ?_) (fun p K k q hpq hq hP => ?_) (fun p K k q hpq hq hP => ?_) (fun p K k hp => ?_)
  · show fX6_cuts_29 N a _ d (k + 1) M (nI p) = _
    rw [fX6_cuts_29, CV0 hS, hC.2.1, if_neg (nI_ge hp (by omega)), nm_eq, nI_1]
  · show fX6_cuts_29 N a _ d (k + 1) M (nI n) = _
    rw [fX6_cuts_29, CV0 hS, hC.2.1, if_pos (nI_le (Nat.le_refl n) (by omega))]
  · show fX6_cuts_44 N a _ d (nI p) K (k + 1) M (nI q) = fX6_cuts_44 N a _ d (nI p) K k M (nI (q + 1))
    rw [fX6_cuts_44, CV0 hS, hC.2.1, if_neg (nI_ge hq (by omega)), en p q (by omega) hq (by omega), bd_some, b1_if, nI_1]
    cases e : bt (T 3 p) q
    · rw [if_neg (by decide)]
    · rw [if_pos rfl, isCut_c ht hh (by omega) hq (by omega) e hd, bd_some, hP]; rfl
  · show fX6_cuts_44 N a _ d (nI p) K (k + 1) M (nI q) = _
    have e : bt (T 3 p) q = true := by unfold cutB at hP; rw [Bool.and_eq_true] at hP; exact hP.1
    rw [fX6_cuts_44, CV0 hS, hC.2.1, if_neg (nI_ge hq (by omega)), en p q (by omega) hq (by omega), bd_some, b1_if, e, if_pos rfl, isCut_c ht hh (by omega) hq (by omega) e hd, bd_some, hP]; rfl
  · show fX6_cuts_44 N a _ d (nI p) K (k + 1) M (nI n) = _
    rw [fX6_cuts_44, CV0 hS, hC.2.1, if_pos (nI_le (Nat.le_refl n) (by omega))]
/-- the reference's tie, tried and taken back -/
theorem tie_cut {N : Nat} {M : Mem} {m t n p q k : Nat} {C : Nat → Nat → Int32} (h : M.1 m 10 = nI k) (hk : k < 5) (ht : t < k) (hM : MV M m t n C) (hC : RC n C) (hp : p < n) (hq : q < n) (hpq : p ≠ q) (hnr : bt (C 3 p) q = true) :
    ∃ Mx, fX7_tie N M m (nI t) (nI p) (nI q) (-1) = some (C 6 (12 * p + q), Mx) ∧ MV Mx m t n (ptC C p q) ∧ ∃ r, fX7_tie N Mx m (nI t) (nI p) (nI q) (C 6 (12 * p + q)) = some (r, M) := by
  have hn := hC.1.2
  have hMx : MV (tgM M m t p q (C 3 p &&& (nI (2 ^ q) ^^^ (-1))) (C 3 q &&& (nI (2 ^ p) ^^^ (-1))) 0) m t n (ptC C p q) := MV_tg hM (by omega)
  refine ⟨_, ?_, hMx, ?_⟩
  · rw [tie_m h hk ht hM hC hp hq hpq (v := -1) (by decide), if_pos hnr]
    unfold tiM; rw [if_pos rfl]
  · obtain ⟨v, hv, ev⟩ := (hC.2.2.2.2.2.2.1 p (by omega) q (by omega)).2.2
    obtain ⟨r1, r2⟩ := rg_price hv
    have z := tie_m (N := N) (k := k) (by rw [tgM_o (by omega) (by omega), h]) hk ht hMx (RC_pt hC hp hq hpq) hp hq hpq (v := C 6 (12 * p + q)) (by rw [ev]; exact r1)
    unfold tiM at z
    rw [if_neg (show ¬ C 6 (12 * p + q) = -1 by rw [ev]; exact r2)] at z
    have e1 : ptC C p q 3 p = C 3 p &&& (nI (2 ^ q) ^^^ (-1)) := by unfold ptC; rw [tg_3, if_neg hpq, if_pos rfl]
    have e2 : ptC C p q 3 q = C 3 q &&& (nI (2 ^ p) ^^^ (-1)) := by unfold ptC; rw [tg_3, if_pos rfl]
    rw [e1, e2, tgM_tgM hM hC hp hq hpq (off_or (by omega) hnr) (off_or (by omega) (by rw [near_sym hC hp hq]; exact hnr))] at z
    exact ⟨_, z⟩
theorem tie_add {N : Nat} {M : Mem} {m t n p q k : Nat} {C : Nat → Nat → Int32} (h : M.1 m 10 = nI k) (hk : k < 5) (ht : t < k) (hM : MV M m t n C) (hC : RC n C) (hp : p < n) (hq : q < n) (hpq : p ≠ q) (hnr : bt (C 3 p) q = false) {v : Nat} (hv : v ≤ 9) :
    ∃ Mx, fX7_tie N M m (nI t) (nI p) (nI q) (nI v) = some (-1, Mx) ∧ MV Mx m t n (jnC C p q (nI v)) ∧ ∃ r, fX7_tie N Mx m (nI t) (nI p) (nI q) (-1) = some (r, M) := by
  have hn := hC.1.2
  obtain ⟨r1, r2⟩ := rg_price hv
  have hMx : MV (tgM M m t p q (C 3 p ||| nI (2 ^ q)) (C 3 q ||| nI (2 ^ p)) (nI v)) m t n (jnC C p q (nI v)) := MV_tg hM (by omega)
  refine ⟨_, ?_, hMx, ?_⟩
  · rw [tie_m h hk ht hM hC hp hq hpq (v := nI v) r1, if_neg (by rw [hnr]; decide)]
    unfold tiM; rw [if_neg r2]
  · have z := tie_m (N := N) (k := k) (by rw [tgM_o (by omega) (by omega), h]) hk ht hMx (RC_jn hC hp hq hpq ⟨v, hv, rfl⟩) hp hq hpq (v := -1) (by decide)
    unfold tiM at z
    rw [if_pos rfl] at z
    have e1 : jnC C p q (nI v) 3 p = C 3 p ||| nI (2 ^ q) := by unfold jnC; rw [tg_3, if_neg hpq, if_pos rfl]
    have e2 : jnC C p q (nI v) 3 q = C 3 q ||| nI (2 ^ p) := by unfold jnC; rw [tg_3, if_pos rfl]
    have e0 : C 6 (12 * p + q) = 0 := (hC.2.2.2.2.2.2.1 p (by omega) q (by omega)).1 hnr
    have y := tgM_tgM (A := C 3 p ||| nI (2 ^ q)) (B := C 3 q ||| nI (2 ^ p)) (v := nI v) hM hC hp hq hpq (or_off2 (q := q) (by omega) hnr) (or_off2 (q := p) (by omega) (by rw [near_sym hC hp hq]; exact hnr))
    rw [e0] at y
    rw [e1, e2, y] at z
    exact ⟨_, z⟩
theorem cuts_m {N m t n k : Nat} {M : Mem} {T : Nat → Nat → Int32} (h : M.1 m 10 = nI k) (hk : k < 5) (ht : t < k) (hM : MV M m t n T) (hT : RC n T) (d : Int32) (hN : 4097 < N) : fX7_cuts_19 N m (nI t) d N M 0 = some (prR (cutB T d) n prS (-1), M) := by
  have hn := hT.1.2
  rw [← prR_map (fun r => some (r, M))]
  refine lp_pair (fun k Mw w => fX7_cuts_19 N m (nI t) d k Mw w) (fun u K k Mw w => fX7_cuts_34 N m (nI t) d u K k Mw w) M n (cutB T d) _ _ (by omega) (fun k p hp => ?_) (fun k => ?_) (fun p K k q hpq hq hP => ?_) (fun p K k q hpq hq hP => ?_) (fun p K k hp => ?_)
  · show fX7_cuts_19 N m (nI t) d (k + 1) M (nI p) = _
    rw [fX7_cuts_19, gd_nI (by omega) (by decide), nI_clamp (by omega), hM.1, if_neg (nI_ge hp (by omega)), nm_eq, nI_1]
  · show fX7_cuts_19 N m (nI t) d (k + 1) M (nI n) = _
    rw [fX7_cuts_19, gd_nI (by omega) (by decide), nI_clamp (by omega), hM.1, if_pos (nI_le (Nat.le_refl n) (by omega))]
  · show fX7_cuts_34 N m (nI t) d (nI p) K (k + 1) M (nI q) = fX7_cuts_34 N m (nI t) d (nI p) K k M (nI (q + 1))
    rw [fX7_cuts_34, gd_nI (by omega) (by decide), nI_clamp (n := t) (by omega), hM.1, if_neg (nI_ge hq (by omega)), gd_nI (p := p) (by omega) (by decide), nI_clamp (n := p) (by omega), hM.2.2.2.2.1 p (by omega), shr1 _ (by omega), b1_if, nI_1]
    cases e : bt (T 3 p) q
    · rw [if_neg (by decide)]
    · obtain ⟨Mx, x1, x2, r, x3⟩ := tie_cut (N := N) h hk ht hM hT (by omega) hq (by omega) e
      unfold cutB at hP
      rw [e, Bool.true_and, Bool.or_eq_false_iff, decide_eq_false_iff_not, decide_eq_false_iff_not] at hP
      rw [if_pos rfl, gain_m N hM hT (by omega) (by omega) d (by omega), bd_some, gain_m N hM hT (by omega) hq d (by omega), bd_some, x1, bd_some, gain_m N x2 (RC_pt hT (by omega) hq (by omega)) (by omega) (by omega) d (by omega), bd_some, if_neg hP.1, gain_m N x2 (RC_pt hT (by omega) hq (by omega)) (by omega) hq d (by omega), bd_some, if_pos ((le_nlt _ _).mpr hP.2), x3, bd_some, if_pos rfl]
  · show fX7_cuts_34 N m (nI t) d (nI p) K (k + 1) M (nI q) = _
    have e : bt (T 3 p) q = true := by unfold cutB at hP; rw [Bool.and_eq_true] at hP; exact hP.1
    obtain ⟨Mx, x1, x2, r, x3⟩ := tie_cut (N := N) h hk ht hM hT (show p < n by omega) hq (by omega) e
    unfold cutB at hP
    rw [e, Bool.true_and, Bool.or_eq_true, decide_eq_true_eq, decide_eq_true_eq] at hP
    rw [fX7_cuts_34, gd_nI (by omega) (by decide), nI_clamp (n := t) (by omega), hM.1, if_neg (nI_ge hq (by omega)), gd_nI (p := p) (by omega) (by decide), nI_clamp (n := p) (by omega), hM.2.2.2.2.1 p (by omega), shr1 _ (by omega), b1_if, e, if_pos rfl, gain_m N hM hT (by omega) (by omega) d (by omega), bd_some, gain_m N hM hT (by omega) hq d (by omega), bd_some, x1, bd_some, gain_m N x2 (RC_pt hT (by omega) hq (by omega)) (by omega) (by omega) d (by omega), bd_some]
    by_cases c1 : gS T p d < gS (ptC T p q) p d
    · rw [if_pos c1, x3, bd_some, if_neg (by decide)]; rfl
    · rw [if_neg c1, gain_m N x2 (RC_pt hT (by omega) hq (by omega)) (by omega) hq d (by omega), bd_some, if_neg (fun x => (le_nlt _ _).mp x (hP.resolve_left c1)), x3, bd_some, if_neg (by decide)]; rfl
  · show fX7_cuts_34 N m (nI t) d (nI p) K (k + 1) M (nI n) = _
    rw [fX7_cuts_34, gd_nI (by omega) (by decide), nI_clamp (by omega), hM.1, if_pos (nI_le (Nat.le_refl n) (by omega))]
theorem op_cuts {kp : Int32} {a b N : Nat} {M : Mem} (hI : Inv kp a b M) (hN : 4097 < N) (v1 v2 : Int32) : Op kp a b M (fX6_cuts N M a v1 v2) (fun M1 => fX7_cuts N M1 b v1 v2) := by
  unfold fX6_cuts fX7_cuts
  refine op_ws hI v1 v2 id _ _ ?_
  rintro k t n C s hk ht e1 e2 rfl rfl hs hC hV hM hW
  have hab := hI.1
  have htr := tri_mk (a := a) (show t < 4 by omega) hC hV
  have hu := trial_up (M := M) (T := beC C (fun j i => M.1 (a + 92 + j) i)) hab
  have hM1 := MV_eq htr.2.2.1 hC.1.2 (MV_fr (M' := wC M (a + 92) (beC C (fun j i => M.1 (a + 92 + j) i))) (show t < 5 by omega) (fun x i p q => (hu x i (by omega)).1) hM)
  refine ⟨prR (cutB (beC C (fun j i => M.1 (a + 92 + j) i)) (nI s)) n prS (-1), _, wC M (a + 92) (beC C (fun j i => M.1 (a + 92 + j) i)), ?_, hu, ?_, trial_inv hI⟩
  · rw [become_c hV (by omega), bd_some]
    exact cuts_c (by omega) htr (set12 hC hs) hN
  · exact cuts_m (k := k) (by rw [(hu b 10 (Nat.le_refl b)).1, e2]) (by omega) ht hM1 htr.1 _ hN
/-! adds -/
def addB (T : Nat → Nat → Int32) (d v : Int32) (p q : Nat) : Bool := !bt (T 3 p) q && (decide (gS T p d < gS (jnC T p q v) p d) && decide (gS T q d < gS (jnC T p q v) q d))
theorem isAdd_c {N a t n p q v : Nat} {M : Mem} {T C : Nat → Nat → Int32} (ht : t < 4) (h : Tri a t n M T C) (hp : p < n) (hq : q < n) (hpq : p ≠ q) (hnr : bt (T 3 p) q = false) (hv : v ≤ 9) {d : Int32} (hd : ∀ i, bt d i = true → i < 12) : fX6_isAdded N M a (a + 4 + 1 + 11 + 8 * t) (nI p) (nI q) d (nI v) = some (b1 (addB T d (nI v) p q), M) := by
  obtain ⟨hT, hC, hE, hV, hS⟩ := h
  have hn := hC.1.2
  obtain ⟨w1, w2⟩ := tri_wr (T' := jnC T p q (nI v)) ht ⟨hT, hC, hE, hV, hS⟩
  have ej : fX4_part N (wC M (a + 92) (jnC T p q (nI v))) (a + 92) (nI p) (nI q) = some M := by
    rw [part_c w1 (RC_jn hT hp hq hpq ⟨v, hv, rfl⟩) hp hq hpq, wC_twice, wC_cong (jn_pt hT hp hq hpq hnr), wC_same hV]
  unfold fX6_isAdded addB
  rw [join_c hV hT hp hq hpq, bd_some, gain_c N w1 (by omega) hd, bd_some, gain_c N w2 (by omega) hd, bd_some, ej, bd_some, gain_c N w1 (by omega) hd, bd_some, gain_c N w2 (by omega) hd, bd_some, ← gS_eq hE (show p < 12 by omega), ← gS_eq hE (show q < 12 by omega), hnr, Bool.not_false, Bool.true_and]
  by_cases c1 : gS (jnC T p q (nI v)) p d ≤ gS T p d
  · rw [if_pos c1, decide_eq_false (fun x => (le_nlt _ _).mp c1 x)]; rfl
  · rw [if_neg c1, decide_eq_true (fa_of_nle c1), Bool.true_and]
    by_cases c2 : gS (jnC T p q (nI v)) q d ≤ gS T q d
    · rw [if_pos c2, decide_eq_false (fun x => (le_nlt _ _).mp c2 x)]; rfl
    · rw [if_neg c2, decide_eq_true (fa_of_nle c2)]; rfl
theorem adds_c {N a t n v : Nat} {M : Mem} {T C : Nat → Nat → Int32} (ht : t < 4) (h : Tri a t n M T C) (hv : v ≤ 9) {d : Int32} (hd : ∀ i, bt d i = true → i < 12) (hN : 4097 < N) : fX6_adds_42 N a (a + 4 + 1 + 11 + 8 * t) d (nI v) N M 0 = some (prR (addB T d (nI v)) n prS (-1), M) := by
  have hh := h
  obtain ⟨hT, hC, hE, hV, hS⟩ := h
  have hn := hC.1.2
  rw [← prR_map (fun r => some (r, M))]
  have en : ∀ p q, p < n → q < n → p ≠ q → fX4_areNear N M (a + 4 + 1 + 11 + 8 * t) (nI p) (nI q) = some (b1 (bt (T 3 p) q)) := fun p q hp hq hpq => by rw [areNear_s N hS hC hp hq hpq, hE.2.2.2.1 3 p (by omega) (by omega)]
  refine lp_pair (fun k Mw w => fX6_adds_42 N a (a + 4 + 1 + 11 + 8 * t) d (nI v) k Mw w) (fun u K k Mw w => fX6_adds_58 N a (a + 4 + 1 + 11 + 8 * t) d (nI v) u K k Mw w) M n (addB T d (nI v)) _ _ (by omega) (fun k p hp => ?_) (fun k => ?_) (fun p K k q hpq hq hP => ?_) (fun p K k q hpq hq hP => ?_) (fun p K k hp => ?_)
  · show fX6_adds_42 N a _ d (nI v) (k + 1) M (nI p) = _
    rw [fX6_adds_42, CV0 hS, hC.2.1, if_neg (nI_ge hp (by omega)), nm_eq, nI_1]
  · show fX6_adds_42 N a _ d (nI v) (k + 1) M (nI n) = _
    rw [fX6_adds_42, CV0 hS, hC.2.1, if_pos (nI_le (Nat.le_refl n) (by omega))]
  · show fX6_adds_58 N a _ d (nI v) (nI p) K (k + 1) M (nI q) = fX6_adds_58 N a _ d (nI v) (nI p) K k M (nI (q + 1))
    rw [fX6_adds_58, CV0 hS, hC.2.1, if_neg (nI_ge hq (by omega)), en p q (by omega) hq (by omega), bd_some, b1_if, nI_1]
    cases e : bt (T 3 p) q
    · rw [if_neg (by decide), isAdd_c ht hh (by omega) hq (by omega) e hv hd, bd_some, hP]; rfl
    · rw [if_pos rfl]
  · show fX6_adds_58 N a _ d (nI v) (nI p) K (k + 1) M (nI q) = _
    have e : bt (T 3 p) q = false := by unfold addB at hP; rw [Bool.and_eq_true] at hP; simpa using hP.1
    rw [fX6_adds_58, CV0 hS, hC.2.1, if_neg (nI_ge hq (by omega)), en p q (by omega) hq (by omega), bd_some, b1_if, e, if_neg (by decide), isAdd_c ht hh (by omega) hq (by omega) e hv hd, bd_some, hP]; rfl
  · show fX6_adds_58 N a _ d (nI v) (nI p) K (k + 1) M (nI n) = _
    rw [fX6_adds_58, CV0 hS, hC.2.1, if_pos (nI_le (Nat.le_refl n) (by omega))]
theorem adds_m {N m t n k v : Nat} {M : Mem} {T : Nat → Nat → Int32} (h : M.1 m 10 = nI k) (hk : k < 5) (ht : t < k) (hM : MV M m t n T) (hT : RC n T) (hv : v ≤ 9) (d : Int32) (hN : 4097 < N) : fX7_adds_32 N m (nI t) d (nI v) N M 0 = some (prR (addB T d (nI v)) n prS (-1), M) := by
  have hn := hT.1.2
  rw [← prR_map (fun r => some (r, M))]
  have hj : ∀ p q, p < n → q < n → p ≠ q → RC n (jnC T p q (nI v)) := fun p q a b c => RC_jn hT a b c ⟨v, hv, rfl⟩
  refine lp_pair (fun k Mw w => fX7_adds_32 N m (nI t) d (nI v) k Mw w) (fun u K k Mw w => fX7_adds_49 N m (nI t) d (nI v) u K k Mw w) M n (addB T d (nI v)) _ _ (by omega) (fun k p hp => ?_) (fun k => ?_) (fun p K k q hpq hq hP => ?_) (fun p K k q hpq hq hP => ?_) (fun p K k hp => ?_)
  · show fX7_adds_32 N m (nI t) d (nI v) (k + 1) M (nI p) = _
    rw [fX7_adds_32, gd_nI (by omega) (by decide), nI_clamp (by omega), hM.1, if_neg (nI_ge hp (by omega)), nm_eq, nI_1]
  · show fX7_adds_32 N m (nI t) d (nI v) (k + 1) M (nI n) = _
    rw [fX7_adds_32, gd_nI (by omega) (by decide), nI_clamp (by omega), hM.1, if_pos (nI_le (Nat.le_refl n) (by omega))]
  · show fX7_adds_49 N m (nI t) d (nI v) (nI p) K (k + 1) M (nI q) = fX7_adds_49 N m (nI t) d (nI v) (nI p) K k M (nI (q + 1))
    rw [fX7_adds_49, gd_nI (by omega) (by decide), nI_clamp (n := t) (by omega), hM.1, if_neg (nI_ge hq (by omega)), gd_nI (p := p) (by omega) (by decide), nI_clamp (n := p) (by omega), hM.2.2.2.2.1 p (by omega), shr1 _ (by omega), b1_if, nI_1]
    cases e : bt (T 3 p) q
    · obtain ⟨Mx, x1, x2, r, x3⟩ := tie_add (N := N) h hk ht hM hT (show p < n by omega) hq (by omega) e hv
      unfold addB at hP
      rw [e, Bool.not_false, Bool.true_and, Bool.and_eq_false_iff, decide_eq_false_iff_not, decide_eq_false_iff_not] at hP
      rw [if_neg (by decide), gain_m N hM hT (by omega) (by omega) d (by omega), bd_some, gain_m N hM hT (by omega) hq d (by omega), bd_some, x1, bd_some, gain_m N x2 (hj p q (by omega) hq (by omega)) (by omega) (by omega) d (by omega), bd_some]
      by_cases c1 : gS (jnC T p q (nI v)) p d ≤ gS T p d
      · rw [if_pos c1, x3, bd_some, if_pos rfl]
      · rw [if_neg c1, gain_m N x2 (hj p q (by omega) hq (by omega)) (by omega) hq d (by omega), bd_some, if_pos ((le_nlt _ _).mpr (hP.resolve_left (fun x => x (fa_of_nle c1)))), x3, bd_some, if_pos rfl]
    · rw [if_pos rfl]
  · show fX7_adds_49 N m (nI t) d (nI v) (nI p) K (k + 1) M (nI q) = _
    have e : bt (T 3 p) q = false := by unfold addB at hP; rw [Bool.and_eq_true] at hP; simpa using hP.1
    obtain ⟨Mx, x1, x2, r, x3⟩ := tie_add (N := N) h hk ht hM hT (show p < n by omega) hq (by omega) e hv
    unfold addB at hP
    rw [e, Bool.not_false, Bool.true_and, Bool.and_eq_true, decide_eq_true_eq, decide_eq_true_eq] at hP
    rw [fX7_adds_49, gd_nI (by omega) (by decide), nI_clamp (n := t) (by omega), hM.1, if_neg (nI_ge hq (by omega)), gd_nI (p := p) (by omega) (by decide), nI_clamp (n := p) (by omega), hM.2.2.2.2.1 p (by omega), shr1 _ (by omega), b1_if, e, if_neg (by decide), gain_m N hM hT (by omega) (by omega) d (by omega), bd_some, gain_m N hM hT (by omega) hq d (by omega), bd_some, x1, bd_some, gain_m N x2 (hj p q (by omega) hq (by omega)) (by omega) (by omega) d (by omega), bd_some, if_neg (fun x => (le_nlt _ _).mp x hP.1), gain_m N x2 (hj p q (by omega) hq (by omega)) (by omega) hq d (by omega), bd_some, if_neg (fun x => (le_nlt _ _).mp x hP.2), x3, bd_some, if_neg (by decide)]; rfl
  · show fX7_adds_49 N m (nI t) d (nI v) (nI p) K (k + 1) M (nI n) = _
    rw [fX7_adds_49, gd_nI (by omega) (by decide), nI_clamp (by omega), hM.1, if_pos (nI_le (Nat.le_refl n) (by omega))]
theorem op_adds {kp : Int32} {a b N : Nat} {M : Mem} (hI : Inv kp a b M) (hN : 4097 < N) (v1 v2 v3 : Int32) : Op kp a b M (fX6_adds N M a v1 v2 v3) (fun M1 => fX7_adds N M1 b v1 v2 v3) := by
  unfold fX6_adds fX7_adds
  refine op_ws hI v1 v2 id _ _ ?_
  rintro k t n C s hk ht e1 e2 rfl rfl hs hC hV hM hW
  refine op_rng hI v3 0 9 (by decide) (by decide) id _ _ (fun h3 => ?_)
  obtain ⟨v, -, hv, rfl⟩ := rg_nI (x := 0) (y := 9) (by decide) (by decide) h3
  have hab := hI.1
  have htr := tri_mk (a := a) (show t < 4 by omega) hC hV
  have hu := trial_up (M := M) (T := beC C (fun j i => M.1 (a + 92 + j) i)) hab
  have hM1 := MV_eq htr.2.2.1 hC.1.2 (MV_fr (M' := wC M (a + 92) (beC C (fun j i => M.1 (a + 92 + j) i))) (show t < 5 by omega) (fun x i p q => (hu x i (by omega)).1) hM)
  refine ⟨prR (addB (beC C (fun j i => M.1 (a + 92 + j) i)) (nI s) (nI v)) n prS (-1), _, wC M (a + 92) (beC C (fun j i => M.1 (a + 92 + j) i)), ?_, hu, ?_, trial_inv hI⟩
  · rw [become_c hV (by omega), bd_some]
    exact adds_c (by omega) htr hv (set12 hC hs) hN
  · exact adds_m (k := k) (by rw [(hu b 10 (Nat.le_refl b)).1, e2]) (by omega) ht hM1 htr.1 hv _ hN
/-! less -/
def lesB (T : Nat → Nat → Int32) (n w p q : Nat) : Bool := !bt (T 3 p) q && anyS (fun s => decide (cntN (nI s) < w) && rst (jnC T p q 0) n (nI s)) (2 ^ n)
theorem isLess_c {N a t n p q w : Nat} {M : Mem} {T C : Nat → Nat → Int32} (h : Tri a t n M T C) (hp : p < n) (hq : q < n) (hpq : p ≠ q) (hnr : bt (T 3 p) q = false) (hw : w ≤ 32) (hN : 4097 < N) : fX6_isLessened N M a (nI p) (nI q) (nI w) = some (b1 (lesB T n w p q), M) := by
  obtain ⟨hT, hC, hE, hV, hS⟩ := h
  have hn := hC.1.2
  have w1 : CV (wC M (a + 92) (jnC T p q 0)) (a + 92) (jnC T p q 0) := wC_CV M _ _
  have hj : RC n (jnC T p q 0) := RC_jn hT hp hq hpq ⟨0, by omega, rfl⟩
  have ej : fX4_part N (wC M (a + 92) (jnC T p q 0)) (a + 92) (nI p) (nI q) = some M := by
    rw [part_c w1 hj hp hq hpq, wC_twice, wC_cong (jn_pt hT hp hq hpq hnr), wC_same hV]
  unfold fX6_isLessened lesB
  rw [join_c hV hT hp hq hpq, bd_some, below_c N w1 hj (by omega) (by omega), bd_some, ej, bd_some, gc_b1, hnr, Bool.not_false, Bool.true_and]
theorem less_c {N a t n w : Nat} {M : Mem} {T C : Nat → Nat → Int32} (h : Tri a t n M T C) (hw : w ≤ 32) (hN : 4097 < N) : fX6_less_56 N a (a + 4 + 1 + 11 + 8 * t) (nI w) N M 0 = some (prR (lesB T n w) n prS (-1), M) := by
  have hh := h
  obtain ⟨hT, hC, hE, hV, hS⟩ := h
  have hn := hC.1.2
  rw [← prR_map (fun r => some (r, M))]
  have en : ∀ p q, p < n → q < n → p ≠ q → fX4_areNear N M (a + 4 + 1 + 11 + 8 * t) (nI p) (nI q) = some (b1 (bt (T 3 p) q)) := fun p q hp hq hpq => by rw [areNear_s N hS hC hp hq hpq, hE.2.2.2.1 3 p (by omega) (by omega)]
  refine lp_pair (fun k Mw w' => fX6_less_56 N a (a + 4 + 1 + 11 + 8 * t) (nI w) k Mw w') (fun u K k Mw w' => fX6_less_71 N a (a + 4 + 1 + 11 + 8 * t) (nI w) u K k Mw w') M n (lesB T n w) _ _ (by omega) (fun k p hp => ?_) (fun k => ?_) (fun p K k q hpq hq hP => ?_) (fun p K k q hpq hq hP => ?_) (fun p K k hp => ?_)
  · show fX6_less_56 N a _ (nI w) (k + 1) M (nI p) = _
    rw [fX6_less_56, CV0 hS, hC.2.1, if_neg (nI_ge hp (by omega)), nm_eq, nI_1]
  · show fX6_less_56 N a _ (nI w) (k + 1) M (nI n) = _
    rw [fX6_less_56, CV0 hS, hC.2.1, if_pos (nI_le (Nat.le_refl n) (by omega))]
  · show fX6_less_71 N a _ (nI w) (nI p) K (k + 1) M (nI q) = fX6_less_71 N a _ (nI w) (nI p) K k M (nI (q + 1))
    rw [fX6_less_71, CV0 hS, hC.2.1, if_neg (nI_ge hq (by omega)), en p q (by omega) hq (by omega), bd_some, b1_if, nI_1]
    cases e : bt (T 3 p) q
    · rw [if_neg (by decide), isLess_c hh (by omega) hq (by omega) e hw hN, bd_some, hP]; rfl
    · rw [if_pos rfl]
  · show fX6_less_71 N a _ (nI w) (nI p) K (k + 1) M (nI q) = _
    have e : bt (T 3 p) q = false := by unfold lesB at hP; rw [Bool.and_eq_true] at hP; simpa using hP.1
    rw [fX6_less_71, CV0 hS, hC.2.1, if_neg (nI_ge hq (by omega)), en p q (by omega) hq (by omega), bd_some, b1_if, e, if_neg (by decide), isLess_c hh (by omega) hq (by omega) e hw hN, bd_some, hP]; rfl
  · show fX6_less_71 N a _ (nI w) (nI p) K (k + 1) M (nI n) = _
    rw [fX6_less_71, CV0 hS, hC.2.1, if_pos (nI_le (Nat.le_refl n) (by omega))]
theorem pick_any {n w : Nat} {D : Nat → Nat → Int32} (hn : n ≤ 12) :
    (anyS (fun s => decide (cntN (nI s) < w) && rst D n (nI s)) (2 ^ n) = true) ↔ ∃ s, s < 2 ^ n ∧ (pick (fun s => rst D n (nI s)) (fun s => vlS D n 0 (nI s)) (2 ^ n)).1 = nI s ∧ cntN (nI s) < w := by
  have h31 := pow31 hn
  unfold anyS
  rw [decide_eq_true_eq]
  constructor
  · intro h
    have y := fa_first_yes (fun s => decide (cntN (nI s) < w) && rst D n (nI s)) (2 ^ n) h
    try dsimp only at y
    rw [Bool.and_eq_true, decide_eq_true_eq] at y
    rcases pick_spec (fun s => rst D n (nI s)) (fun s => vlS D n 0 (nI s)) (2 ^ n) (by omega) with ⟨-, h2⟩ | ⟨s, hs, h1, h2, h3⟩
    · have := h2 _ h
      try dsimp only at this
      rw [y.2] at this; cases this
    · refine ⟨s, hs, by rw [h1], ?_⟩
      have := h3 _ h y.2
      have v0 : ∀ x, vlS D n 0 (nI x) = -nI (cntN (nI x)) := fun x => rfl
      try dsimp only at this
      rw [v0, v0, fa_le] at this
      have c1 := cnt_le (nI s)
      have c2 := cnt_le (nI (fa_first (fun s => decide (cntN (nI s) < w) && rst D n (nI s)) (2 ^ n)))
      have t : ∀ x, x ≤ 32 → (-nI x).toInt = -(x : Int) := (by decide +kernel : ∀ x, x ≤ 32 → (-nI x).toInt = -(x : Int))
      rw [t _ c1, t _ c2] at this
      omega
  · rintro ⟨s, hs, h1, h2⟩
    rcases pick_spec (fun s => rst D n (nI s)) (fun s => vlS D n 0 (nI s)) (2 ^ n) (by omega) with ⟨h3, -⟩ | ⟨s', hs', h3, h4, -⟩
    · rw [h3] at h1
      exact absurd h1.symm (nI_ne_m1 (by omega))
    · have e : s' = s := by
        rw [h3] at h1
        exact (nI_eq (by omega) (by omega)).mp h1
      subst e
      rcases Nat.lt_or_ge (fa_first (fun s => decide (cntN (nI s) < w) && rst D n (nI s)) (2 ^ n)) (2 ^ n) with q | q
      · exact q
      · have z := fa_first_no (fun s => decide (cntN (nI s) < w) && rst D n (nI s)) (2 ^ n) s' (by omega)
        try dsimp only at z
        try dsimp only at h4
        rw [h4, decide_eq_true h2] at z; cases z
theorem less_m {N m t n k : Nat} {M : Mem} {T : Nat → Nat → Int32} {now : Int32} (h : M.1 m 10 = nI k) (hk : k < 5) (ht : t < k) (hM : MV M m t n T) (hT : RC n T) (hN : 4097 < N) : fX7_less_36 N m (nI t) now N M 0 = some (prR (lesB T n (cntN now)) n prS (-1), M) := by
  have hn := hT.1.2
  have h31 := pow31 hn
  rw [← prR_map (fun r => some (r, M))]
  have hj : ∀ p q, p < n → q < n → p ≠ q → RC n (jnC T p q 0) := fun p q a b c => RC_jn hT a b c ⟨0, by omega, rfl⟩
  have hc := cnt_le now
  refine lp_pair (fun k Mw w => fX7_less_36 N m (nI t) now k Mw w) (fun u K k Mw w => fX7_less_51 N m (nI t) now u K k Mw w) M n (lesB T n (cntN now)) _ _ (by omega) (fun k p hp => ?_) (fun k => ?_) (fun p K k q hpq hq hP => ?_) (fun p K k q hpq hq hP => ?_) (fun p K k hp => ?_)
  · show fX7_less_36 N m (nI t) now (k + 1) M (nI p) = _
    rw [fX7_less_36, gd_nI (by omega) (by decide), nI_clamp (by omega), hM.1, if_neg (nI_ge hp (by omega)), nm_eq, nI_1]
  · show fX7_less_36 N m (nI t) now (k + 1) M (nI n) = _
    rw [fX7_less_36, gd_nI (by omega) (by decide), nI_clamp (by omega), hM.1, if_pos (nI_le (Nat.le_refl n) (by omega))]
  · show fX7_less_51 N m (nI t) now (nI p) K (k + 1) M (nI q) = fX7_less_51 N m (nI t) now (nI p) K k M (nI (q + 1))
    rw [fX7_less_51, gd_nI (by omega) (by decide), nI_clamp (n := t) (by omega), hM.1, if_neg (nI_ge hq (by omega)), gd_nI (p := p) (by omega) (by decide), nI_clamp (n := p) (by omega), hM.2.2.2.2.1 p (by omega), shr1 _ (by omega), b1_if, nI_1]
    cases e : bt (T 3 p) q
    · obtain ⟨Mx, x1, x2, r, x3⟩ := tie_add (N := N) (v := 0) h hk ht hM hT (show p < n by omega) hq (by omega) e (by decide)
      have x2' : MV Mx m t n (jnC T p q 0) := x2
      have hs := seek_m (N := N) (b := 0) x2' (hj p q (by omega) hq (by omega)) (by omega) (by decide) (by omega)
      unfold lesB at hP
      rw [e, Bool.not_false, Bool.true_and] at hP
      rw [if_neg (by decide), show fX7_tie N M m (nI t) (nI p) (nI q) 0 = _ from x1, bd_some, show fX7_seek N Mx m (nI t) 0 = _ from hs, bd_some, x3, bd_some]
      rcases pick_spec (fun s => rst (jnC T p q 0) n (nI s)) (fun s => vlS (jnC T p q 0) n 0 (nI s)) (2 ^ n) (by omega) with ⟨h3, -⟩ | ⟨s', hs', h3, h4, -⟩
      · rw [if_pos h3]
      · have hlt : ¬ cntN (nI s') < cntN now := fun z => by
          have := (pick_any (w := cntN now) (D := jnC T p q 0) hn).mpr ⟨s', hs', by rw [h3], z⟩
          rw [hP] at this; cases this
        have c1 := cnt_le (nI s')
        show (if (pick (fun s => rst (jnC T p q 0) n (nI s)) (fun s => vlS (jnC T p q 0) n 0 (nI s)) (2 ^ n)).1 = -1 then _ else _) = _
        have h5 : (pick (fun s => rst (jnC T p q 0) n (nI s)) (fun s => vlS (jnC T p q 0) n 0 (nI s)) (2 ^ n)).1 = nI s' := by rw [h3]
        rw [h5, if_neg (nI_ne_m1 (by omega)), bits_s N _ _ (by omega), bd_some, bits_s N _ _ (by omega), bd_some, if_pos (nI_le (by omega) (by omega))]
    · rw [if_pos rfl]
  · show fX7_less_51 N m (nI t) now (nI p) K (k + 1) M (nI q) = _
    have e : bt (T 3 p) q = false := by unfold lesB at hP; rw [Bool.and_eq_true] at hP; simpa using hP.1
    obtain ⟨Mx, x1, x2, r, x3⟩ := tie_add (N := N) (v := 0) h hk ht hM hT (show p < n by omega) hq (by omega) e (by decide)
    have x2' : MV Mx m t n (jnC T p q 0) := x2
    have hs := seek_m (N := N) (b := 0) x2' (hj p q (by omega) hq (by omega)) (by omega) (by decide) (by omega)
    unfold lesB at hP
    rw [e, Bool.not_false, Bool.true_and] at hP
    obtain ⟨s', hs', h3, h4⟩ := (pick_any (w := cntN now) (D := jnC T p q 0) hn).mp hP
    have c1 := cnt_le (nI s')
    rw [fX7_less_51, gd_nI (by omega) (by decide), nI_clamp (n := t) (by omega), hM.1, if_neg (nI_ge hq (by omega)), gd_nI (p := p) (by omega) (by decide), nI_clamp (n := p) (by omega), hM.2.2.2.2.1 p (by omega), shr1 _ (by omega), b1_if, e, if_neg (by decide), show fX7_tie N M m (nI t) (nI p) (nI q) 0 = _ from x1, bd_some, show fX7_seek N Mx m (nI t) 0 = _ from hs, bd_some, x3, bd_some]
    show (if (pick (fun s => rst (jnC T p q 0) n (nI s)) (fun s => vlS (jnC T p q 0) n 0 (nI s)) (2 ^ n)).1 = -1 then _ else _) = _
    rw [h3, if_neg (nI_ne_m1 (by omega)), bits_s N _ _ (by omega), bd_some, bits_s N _ _ (by omega), bd_some, if_neg (nI_ge h4 (by omega))]; rfl
  · show fX7_less_51 N m (nI t) now (nI p) K (k + 1) M (nI n) = _
    rw [fX7_less_51, gd_nI (by omega) (by decide), nI_clamp (by omega), hM.1, if_pos (nI_le (Nat.le_refl n) (by omega))]
theorem op_less {kp : Int32} {a b N : Nat} {M : Mem} (hI : Inv kp a b M) (hN : 4097 < N) (v1 : Int32) : Op kp a b M (fX6_less N M a v1) (fun M1 => fX7_less N M1 b v1) := by
  unfold fX6_less fX7_less
  refine op_st hI v1 id _ _ ?_
  rintro k t n C hk ht e1 e2 rfl hC hV hM hW
  have hab := hI.1
  have h31 := pow31 hC.1.2
  have hch := choose_r (N := N) (b := 0) hV hC (by decide) (by omega)
  rw [show fX4_choose N M (a + 4 + 1 + 11 + 8 * t) 0 1 = _ from hch, bd_some]
  rcases pick_spec (fun s => rst C n (nI s)) (fun s => vlS C n 0 (nI s)) (2 ^ n) (by omega) with ⟨h3, -⟩ | ⟨s', hs', h3, h4, -⟩
  · refine Op.ref hI (w := 5) (by decide) (by decide) (-5) ?_ ?_
    · rw [if_pos h3, rfC5]; rfl
    · show bd _ _ = _
      rw [show fX7_seek N (rC a M 5) b (nI t) 0 = _ from seek_m (N := N) (b := 0) (MV_rC hab (by omega) hM) hC (by omega) (by decide) (by omega), bd_some, if_pos h3, rfM5]; rfl
  · have htr := tri_mk (a := a) (show t < 4 by omega) hC hV
    have hu := trial_up (M := M) (T := beC C (fun j i => M.1 (a + 92 + j) i)) hab
    have hM0 := MV_fr (M' := wC M (a + 92) (beC C (fun j i => M.1 (a + 92 + j) i))) (show t < 5 by omega) (fun x i p q => (hu x i (by omega)).1) hM
    have hM1 := MV_eq htr.2.2.1 hC.1.2 hM0
    have c1 := cnt_le (nI s')
    refine ⟨prR (lesB (beC C (fun j i => M.1 (a + 92 + j) i)) n (cntN (nI s'))) n prS (-1), _, wC M (a + 92) (beC C (fun j i => M.1 (a + 92 + j) i)), ?_, hu, ?_, trial_inv hI⟩
    · rw [h3, if_neg (nI_ne_m1 (by omega)), become_c hV (by omega), bd_some, bc_n N _ (by omega), bd_some]
      exact less_c htr c1 hN
    · show bd _ _ = _
      rw [show fX7_seek N _ b (nI t) 0 = _ from seek_m (N := N) (b := 0) hM0 hC (by omega) (by decide) (by omega), bd_some, h3, if_neg (nI_ne_m1 (by omega))]
      exact less_m (k := k) (by rw [(hu b 10 (Nat.le_refl b)).1, e2]) (by omega) ht hM1 htr.1 hN
