/-! ring, all -/
def tn (C : Nat → Nat → Int32) (p q : Nat) : Nat → Nat → Int32 := if bt (C 3 p) q = true then C else jnC C p q 0
theorem tn_y {C : Nat → Nat → Int32} {p q : Nat} (h : bt (C 3 p) q = true) : tn C p q = C := if_pos h
theorem tn_n {C : Nat → Nat → Int32} {p q : Nat} (h : bt (C 3 p) q = false) : tn C p q = jnC C p q 0 := if_neg (by rw [h]; decide)
theorem RC_tn {n p q : Nat} {C : Nat → Nat → Int32} (hC : RC n C) (hp : p < n) (hq : q < n) (hpq : p ≠ q) : RC n (tn C p q) := by
  cases h : bt (C 3 p) q
  · rw [tn_n h]; exact RC_jn hC hp hq hpq ⟨0, by decide, rfl⟩
  · rw [tn_y h]; exact hC
theorem tn_c {N c n p q : Nat} {M : Mem} {C : Nat → Nat → Int32} {α : Type} (hV : CV M c C) (hC : RC n C) (hp : p < n) (hq : q < n) (hpq : p ≠ q) (K : Mem → Option α) :
    bd (fX4_areNear N M c (nI p) (nI q)) (fun r2 => if r2 = 0 then bd (fX4_join N M c (nI p) (nI q) 0) (fun r4 => K r4) else K M) = K (wC M c (tn C p q)) := by
  rw [areNear_s N hV hC hp hq hpq, bd_some, b1_if]
  cases h : bt (C 3 p) q
  · rw [if_neg (by decide), join_c hV hC hp hq hpq, bd_some, tn_n h]
  · rw [if_pos rfl, tn_y h, wC_same hV]
theorem tn_m {N b t n p q : Nat} {M : Mem} {C : Nat → Nat → Int32} (hM : MV M b t n C) (hW : WV M b t n C) (ht : t < 5) (hp : p < 12) (hq : q < 12) (hpq : p ≠ q) :
    ∃ M', fX7_tieNew N M b (nI t) (nI p) (nI q) = some M' ∧ HS M M' b t ∧ MV M' b t n (tn C p q) ∧ WV M' b t n (tn C p q) := by
  unfold fX7_tieNew
  rw [if_neg (fun e => hpq ((nI_k (by omega) (by omega)).mp e)), gd_nI ht (by decide), gd_nI hp (by decide), nI_clamp (by omega), nI_clamp (by omega), hM.2.2.2.2.1 p hp, shr1 _ (by omega), b1_if]
  cases h : bt (C 3 p) q
  · rw [if_neg (by decide), tieThem_m hM ht hp hq hpq, bd_some, tn_n h]
    exact ⟨_, rfl, ⟨fun x i h => tgM_o (by unfold SX at h; omega) (by unfold SX at h; omega), rfl⟩, MV_tg hM ht, WV_tg hW ht⟩
  · rw [if_pos rfl, tn_y h]
    exact ⟨M, rfl, HS.rf M b t, hM, hW⟩
def rq (n r : Nat) : Nat := if r + 1 = n then 0 else r + 1
def rgC (C : Nat → Nat → Int32) (n : Nat) : Nat → Nat → Nat → Int32
  | 0 => C
  | k + 1 => tn (rgC C n k) k (rq n k)
theorem rq_ok {n r : Nat} (h : r < n) (h3 : 3 ≤ n) : rq n r < n ∧ r ≠ rq n r := by
  unfold rq; split <;> omega
theorem RC_rg {n : Nat} {C : Nat → Nat → Int32} (hC : RC n C) (h3 : 3 ≤ n) : ∀ k, k ≤ n → RC n (rgC C n k)
  | 0, _ => hC
  | k + 1, h => RC_tn (RC_rg hC h3 k (by omega)) (by omega) (rq_ok (by omega) h3).1 (rq_ok (by omega) h3).2
variable {N q c b t z n p : Nat} {f : Nat → Nat} {Mc Mm : Mem}
theorem ring_c {M : Mem} {C : Nat → Nat → Int32} (hV : CV M c C) (hC : RC n C) (h3 : 3 ≤ n) (hN : 4097 < N) : fX4_joinNeighbours N M c = some (wC M c (rgC C n n)) := by
  have hn := hC.1.2
  unfold fX4_joinNeighbours
  obtain ⟨k, hk⟩ := lp (fun k (s : Mem × Int32) => fX4_joinNeighbours_2 N c k s.1 s.2) (fun k => (wC M c (rgC C n k), nI k)) n (fun j k hk => by
    show fX4_joinNeighbours_2 N c (j + 1) (wC M c (rgC C n k)) (nI k) = fX4_joinNeighbours_2 N c j (wC M c (rgC C n (k + 1))) (nI (k + 1))
    have hVk := wC_CV M c (rgC C n k)
    have hCk := RC_rg hC h3 k (by omega)
    have hr := rq_ok hk h3
    have e := tn_c (N := N) hVk hCk hk hr.1 hr.2 (fun M' => fX4_joinNeighbours_2 N c j M' (nI k + 1))
    rw [wC_twice] at e
    rw [fX4_joinNeighbours_2, CV0 hVk, hCk.2.1, if_neg (nI_ge hk (by omega)), nI_1]
    rw [nI_1] at e
    rw [rgC, ← e]
    unfold rq
    by_cases w : k + 1 = n
    · rw [if_pos (nI_le (by omega) (by omega)), if_pos w]; rfl
    · rw [if_neg (nI_ge (by omega) (by omega)), if_neg w, nm_eq]) (N := N) (by omega)
  refine Eq.trans ?_ (hk.trans ?_)
  · show fX4_joinNeighbours_2 N c N M 0 = fX4_joinNeighbours_2 N c N (wC M c C) (nI 0)
    rw [wC_same hV]; rfl
  · show fX4_joinNeighbours_2 N c (k + 1) (wC M c (rgC C n n)) (nI n) = _
    rw [fX4_joinNeighbours_2, CV0 (wC_CV M c _), (RC_rg hC h3 n (Nat.le_refl n)).2.1, if_pos (nI_le (Nat.le_refl n) (by omega))]
theorem ring_m {M : Mem} {C : Nat → Nat → Int32} (hM : MV M b t n C) (hW : WV M b t n C) (ht : t < 5) (hn : n ≤ 12) (h3 : 3 ≤ n) (hN : 4097 < N) : ∃ M', fX7_statement_306 N b (nI t) (nI n) N M 0 = some (1, M') ∧ HS M M' b t ∧ MV M' b t n (rgC C n n) ∧ WV M' b t n (rgC C n n) := by
  obtain ⟨k, ⟨Mw, w⟩, ⟨ew, hH, hMw, hWw⟩, e⟩ := lpI (fun k (s : Mem × Int32) => fX7_statement_306 N b (nI t) (nI n) k s.1 s.2) (fun k s => s.2 = nI k ∧ HS M s.1 b t ∧ MV s.1 b t n (rgC C n k) ∧ WV s.1 b t n (rgC C n k)) n (fun j k s hk hs => by
    obtain ⟨Mw, w⟩ := s
    obtain ⟨ew, hH, hMw, hWw⟩ := hs
    have ew : w = nI k := ew
    subst ew
    have hr := rq_ok hk h3
    obtain ⟨M', a1, a2, a3, a4⟩ := tn_m (N := N) hMw hWw ht (show k < 12 by omega) (show rq n k < 12 by omega) hr.2
    refine ⟨(M', nI (k + 1)), ⟨rfl, hH.tr a2, a3, a4⟩, ?_⟩
    show fX7_statement_306 N b (nI t) (nI n) (j + 1) Mw (nI k) = fX7_statement_306 N b (nI t) (nI n) j M' (nI (k + 1))
    have er : (k + 1) % n = rq n k := by
      unfold rq; split
      · next h => rw [h, Nat.mod_self]
      · exact Nat.mod_eq_of_lt (by omega)
    rw [fX7_statement_306, if_neg (nI_ge hk (by omega)), gc_of (nI_ne0 (by omega) (by omega)), nI_1, pk_rem (by omega) (by omega) (by omega), er, a1, bd_some]) (N := N) (by omega) (s0 := (M, 0)) ⟨rfl, HS.rf M b t, hM, hW⟩
  have ew : w = nI n := ew
  subst ew
  refine ⟨Mw, e.trans ?_, hH, hMw, hWw⟩
  show fX7_statement_306 N b (nI t) (nI n) (k + 1) Mw (nI n) = _
  rw [fX7_statement_306, if_pos (nI_le (Nat.le_refl n) (by omega))]
theorem out_ring (hq : q + 1 < c) (ht : t < 5) (hp : p ≤ z) (hSC : SC q z f p Mc) (hSM : SM b z f p Mm) {C : Nat → Nat → Int32} (hS : ST c b t n C Mc Mm) (h3 : 3 ≤ n) (hN : 4097 < N) :
    OUT q c b t z f n p Mc Mm (bd (fX4_joinNeighbours N Mc c) (fun r22 => some (1, r22))) (fX7_statement_306 N b (nI t) (nI n) N Mm 0) := by
  obtain ⟨hC, hV, hM, hW⟩ := hS
  obtain ⟨M', a1, a2, a3, a4⟩ := ring_m (N := N) hM hW ht hC.1.2 h3 hN
  rw [ring_c hV hC h3 hN, a1, bd_some]
  exact out_y hq ht hp hSC hSM ⟨fun x i h => wC_o (by omega) i, rfl⟩ a2 ⟨RC_rg hC h3 n (Nat.le_refl n), wC_CV _ _ _, a3, a4⟩
/-! all with all, in two orders -/
def cI (D : Nat → Nat → Int32) (k : Nat) : Nat → Nat → Nat → Int32
  | 0 => D
  | m + 1 => tn (cI D k m) k (k + 1 + m)
def cO (C : Nat → Nat → Int32) (n : Nat) : Nat → Nat → Nat → Int32
  | 0 => C
  | k + 1 => cI (cO C n k) k (n - (k + 1))
def mI (D : Nat → Nat → Int32) (k : Nat) : Nat → Nat → Nat → Int32
  | 0 => D
  | m + 1 => tn (mI D k m) m k
def mO (C : Nat → Nat → Int32) : Nat → Nat → Nat → Int32
  | 0 => C
  | k + 1 => mI (mO C k) k k
theorem RC_cI {n k : Nat} {D : Nat → Nat → Int32} (hD : RC n D) : ∀ m, k + 1 + m ≤ n → RC n (cI D k m)
  | 0, _ => hD
  | m + 1, h => RC_tn (RC_cI hD m (by omega)) (by omega) (by omega) (by omega)
theorem RC_cO {n : Nat} {C : Nat → Nat → Int32} (hC : RC n C) : ∀ k, k ≤ n → RC n (cO C n k)
  | 0, _ => hC
  | k + 1, h => RC_cI (RC_cO hC k (by omega)) _ (by omega)
theorem RC_mI {n k : Nat} {D : Nat → Nat → Int32} (hD : RC n D) (hk : k < n) : ∀ m, m ≤ k → RC n (mI D k m)
  | 0, _ => hD
  | m + 1, h => RC_tn (RC_mI hD hk m (by omega)) (by omega) (by omega) (by omega)
theorem RC_mO {n : Nat} {C : Nat → Nat → Int32} (hC : RC n C) : ∀ k, k ≤ n → RC n (mO C k)
  | 0, _ => hC
  | k + 1, h => RC_mI (RC_mO hC k (by omega)) (by omega) k (Nat.le_refl k)
def AD (C D : Nat → Nat → Int32) (P : Nat → Nat → Prop) : Prop := (∀ j i, j ≠ 3 → D j i = C j i) ∧ ∀ i k, bt (D 3 i) k = true ↔ (bt (C 3 i) k = true ∨ P i k)
theorem AD.cg {C D : Nat → Nat → Int32} {P P' : Nat → Nat → Prop} (h : AD C D P) (e : ∀ i k, P i k ↔ P' i k) : AD C D P' := ⟨h.1, fun i k => by rw [h.2 i k, e i k]⟩
theorem AD_tn {n p q : Nat} {C D : Nat → Nat → Int32} {P : Nat → Nat → Prop} (h : AD C D P) (hD : RC n D) (hp : p < n) (hq : q < n) (hpq : p ≠ q) : AD C (tn D p q) (fun i k => P i k ∨ (i = p ∧ k = q) ∨ (i = q ∧ k = p)) := by
  have hn := hD.1.2
  cases e : bt (D 3 p) q
  · rw [tn_n e]
    have z1 := ((hD.2.2.2.2.2.2.1 p (by omega) q (by omega)).1 e)
    have e' : bt (D 3 q) p = false := by
      cases e2 : bt (D 3 q) p
      · rfl
      · have a := (hD.2.2.2.2.2.1 q (by omega) p e2).2.2.2
        rw [e] at a; cases a
    have z2 := ((hD.2.2.2.2.2.2.1 q (by omega) p (by omega)).1 e')
    refine ⟨fun j i hj => ?_, fun i k => ?_⟩
    · rw [← h.1 j i hj]
      unfold jnC
      by_cases j6 : j = 6
      · subst j6
        rw [tg_6]
        by_cases w : i = 12 * q + p ∨ i = 12 * p + q
        · rw [if_pos w]
          rcases w with rfl | rfl
          · exact z2.symm
          · exact z1.symm
        · rw [if_neg w]
      · by_cases j7 : j = 7
        · subst j7
          rw [tg_7, z1, z2]
          by_cases w : i = q
          · subst w; rw [if_pos rfl]; rw [Int32.sub_self, Int32.add_zero]
          · rw [if_neg w]
            by_cases w2 : i = p
            · subst w2; rw [if_pos rfl]; rw [Int32.sub_self, Int32.add_zero]
            · rw [if_neg w2]
        · exact tg_0 ⟨hj, j6, j7⟩
    · unfold jnC
      rw [tg_3]
      by_cases w : i = q
      · subst w
        rw [if_pos rfl, or_bits _ (by omega)]
        by_cases w2 : k = p
        · subst w2; rw [if_pos rfl]; exact ⟨fun _ => Or.inr (Or.inr (Or.inr ⟨rfl, rfl⟩)), fun _ => rfl⟩
        · rw [if_neg w2, h.2]
          constructor
          · rintro (a | a)
            · exact Or.inl a
            · exact Or.inr (Or.inl a)
          · rintro (a | a | a | a)
            · exact Or.inl a
            · exact Or.inr a
            · exact absurd a.1.symm hpq
            · exact absurd a.2 w2
      · rw [if_neg w]
        by_cases w3 : i = p
        · subst w3
          rw [if_pos rfl, or_bits _ (by omega)]
          by_cases w2 : k = q
          · subst w2; rw [if_pos rfl]; exact ⟨fun _ => Or.inr (Or.inr (Or.inl ⟨rfl, rfl⟩)), fun _ => rfl⟩
          · rw [if_neg w2, h.2]
            constructor
            · rintro (a | a)
              · exact Or.inl a
              · exact Or.inr (Or.inl a)
            · rintro (a | a | a | a)
              · exact Or.inl a
              · exact Or.inr a
              · exact absurd a.2 w2
              · exact absurd a.1 w
        · rw [if_neg w3, h.2]
          constructor
          · rintro (a | a)
            · exact Or.inl a
            · exact Or.inr (Or.inl a)
          · rintro (a | a | a | a)
            · exact Or.inl a
            · exact Or.inr a
            · exact absurd a.1 w3
            · exact absurd a.1 w
  · rw [tn_y e]
    have e' := (hD.2.2.2.2.2.1 p (by omega) q e).2.2.2
    refine ⟨h.1, fun i k => ?_⟩
    constructor
    · intro a
      rcases (h.2 i k).mp a with x | x
      · exact Or.inl x
      · exact Or.inr (Or.inl x)
    · rintro (a | a | ⟨rfl, rfl⟩ | ⟨rfl, rfl⟩)
      · exact (h.2 i k).mpr (Or.inl a)
      · exact (h.2 i k).mpr (Or.inr a)
      · exact e
      · exact e'
def PO (n k i j : Nat) : Prop := (i < k ∧ i < j ∧ j < n) ∨ (j < k ∧ j < i ∧ i < n)
def PN (n k m i j : Nat) : Prop := PO n k i j ∨ (i = k ∧ k < j ∧ j < k + 1 + m) ∨ (j = k ∧ k < i ∧ i < k + 1 + m)
def QO (k i j : Nat) : Prop := (i < j ∧ j < k) ∨ (j < i ∧ i < k)
def QN (k m i j : Nat) : Prop := QO k i j ∨ (i < m ∧ j = k) ∨ (j < m ∧ i = k)
theorem AD_cI {n k : Nat} {C D : Nat → Nat → Int32} (h : AD C D (PO n k)) (hD : RC n D) : ∀ m, k + 1 + m ≤ n → AD C (cI D k m) (PN n k m)
  | 0, _ => h.cg (fun i j => by unfold PN PO; omega)
  | m + 1, hm => (AD_tn (AD_cI h hD m (by omega)) (RC_cI hD m (by omega)) (by omega) (by omega) (by omega)).cg (fun i j => by unfold PN PO; omega)
theorem AD_cO {n : Nat} {C : Nat → Nat → Int32} (hC : RC n C) : ∀ k, k ≤ n → AD C (cO C n k) (PO n k)
  | 0, _ => ⟨fun _ _ _ => rfl, fun i j => ⟨Or.inl, fun h => h.resolve_right (by unfold PO; omega)⟩⟩
  | k + 1, h => (AD_cI (AD_cO hC k (by omega)) (RC_cO hC k (by omega)) (n - (k + 1)) (by omega)).cg (fun i j => by unfold PN PO; omega)
theorem AD_mI {n k : Nat} {C D : Nat → Nat → Int32} (h : AD C D (QO k)) (hD : RC n D) (hk : k < n) : ∀ m, m ≤ k → AD C (mI D k m) (QN k m)
  | 0, _ => h.cg (fun i j => by unfold QN QO; omega)
  | m + 1, hm => (AD_tn (AD_mI h hD hk m (by omega)) (RC_mI hD hk m (by omega)) (by omega) hk (by omega)).cg (fun i j => by unfold QN QO; omega)
theorem AD_mO {n : Nat} {C : Nat → Nat → Int32} (hC : RC n C) : ∀ k, k ≤ n → AD C (mO C k) (QO k)
  | 0, _ => ⟨fun _ _ _ => rfl, fun i j => ⟨Or.inl, fun h => h.resolve_right (by unfold QO; omega)⟩⟩
  | k + 1, h => (AD_mI (AD_mO hC k (by omega)) (RC_mO hC k (by omega)) (by omega) k (Nat.le_refl k)).cg (fun i j => by unfold QN QO; omega)
theorem all_eq {n : Nat} {C : Nat → Nat → Int32} (hC : RC n C) : cO C n n = mO C n := by
  have a := AD_cO hC n (Nat.le_refl n)
  have b := AD_mO hC n (Nat.le_refl n)
  funext j i
  by_cases w : j = 3
  · subst w
    apply b_ext
    intro k _
    have e : bt (cO C n n 3 i) k = true ↔ bt (mO C n 3 i) k = true := by
      rw [a.2, b.2]
      have : PO n n i k ↔ QO n i k := by unfold PO QO; omega
      rw [this]
    cases x : bt (cO C n n 3 i) k
    · cases y : bt (mO C n 3 i) k
      · rfl
      · rw [e.mpr y] at x; cases x
    · rw [e.mp x]
  · rw [a.1 _ _ w, b.1 _ _ w]
theorem all_c1 {M : Mem} {D : Nat → Nat → Int32} {k : Nat} {K : Mem → Option Mem} (hD : RC n D) (hk : k < n) (hN : 4097 < N) : fX4_joinAll_14 N c (nI k) K N (wC M c D) (nI (k + 1)) = K (wC M c (cI D k (n - (k + 1)))) := by
  have hn := hD.1.2
  obtain ⟨j, hj⟩ := lp (fun j (s : Mem × Int32) => fX4_joinAll_14 N c (nI k) K j s.1 s.2) (fun m => (wC M c (cI D k m), nI (k + 1 + m))) (n - (k + 1)) (fun j m hm => by
    show fX4_joinAll_14 N c (nI k) K (j + 1) (wC M c (cI D k m)) (nI (k + 1 + m)) = fX4_joinAll_14 N c (nI k) K j (wC M c (cI D k (m + 1))) (nI (k + 1 + (m + 1)))
    have hVk := wC_CV M c (cI D k m)
    have hCk := RC_cI hD m (show k + 1 + m ≤ n by omega)
    have e := tn_c (N := N) hVk hCk hk (show k + 1 + m < n by omega) (show k ≠ k + 1 + m by omega) (fun M' => fX4_joinAll_14 N c (nI k) K j M' (nI (k + 1 + m) + 1))
    rw [wC_twice] at e
    rw [fX4_joinAll_14, CV0 hVk, hCk.2.1, if_neg (nI_ge (by omega) (by omega)), e, nI_1]
    rfl) (N := N) (by omega)
  refine hj.trans ?_
  show fX4_joinAll_14 N c (nI k) K (j + 1) (wC M c (cI D k (n - (k + 1)))) (nI (k + 1 + (n - (k + 1)))) = _
  rw [fX4_joinAll_14, CV0 (wC_CV M c _), (RC_cI hD (n - (k + 1)) (by omega)).2.1, if_pos (nI_le (by omega) (by omega))]
theorem all_c {M : Mem} {C : Nat → Nat → Int32} (hV : CV M c C) (hC : RC n C) (hN : 4097 < N) : fX4_joinAll N M c = some (wC M c (cO C n n)) := by
  have hn := hC.1.2
  unfold fX4_joinAll
  obtain ⟨k, hk⟩ := lp (fun k (s : Mem × Int32) => fX4_joinAll_2 N c k s.1 s.2) (fun k => (wC M c (cO C n k), nI k)) n (fun j k hk => by
    show fX4_joinAll_2 N c (j + 1) (wC M c (cO C n k)) (nI k) = fX4_joinAll_2 N c j (wC M c (cO C n (k + 1))) (nI (k + 1))
    have hCk := RC_cO hC k (by omega)
    rw [fX4_joinAll_2, CV0 (wC_CV M c _), hCk.2.1, if_neg (nI_ge hk (by omega)), nm_eq, nI_1, all_c1 hCk hk hN]
    rfl) (N := N) (by omega)
  refine Eq.trans ?_ (hk.trans ?_)
  · show fX4_joinAll_2 N c N M 0 = fX4_joinAll_2 N c N (wC M c C) (nI 0)
    rw [wC_same hV]; rfl
  · show fX4_joinAll_2 N c (k + 1) (wC M c (cO C n n)) (nI n) = _
    rw [fX4_joinAll_2, CV0 (wC_CV M c _), (RC_cO hC n (Nat.le_refl n)).2.1, if_pos (nI_le (Nat.le_refl n) (by omega))]
theorem all_m1 {M : Mem} {D : Nat → Nat → Int32} {k : Nat} {u2 : Int32} {K : Mem → Option (Int32 × Mem)} (hM : MV M b t n D) (hW : WV M b t n D) (ht : t < 5) (hk : k < n) (hn : n ≤ 12) (hN : 4097 < N) :
    ∃ M', fX7_statement_353 N b (nI t) u2 (nI k) K N M 0 = K M' ∧ HS M M' b t ∧ MV M' b t n (mI D k k) ∧ WV M' b t n (mI D k k) := by
  obtain ⟨j, ⟨Mw, w⟩, ⟨ew, hH, hMw, hWw⟩, e⟩ := lpI (fun j (s : Mem × Int32) => fX7_statement_353 N b (nI t) u2 (nI k) K j s.1 s.2) (fun m s => s.2 = nI m ∧ HS M s.1 b t ∧ MV s.1 b t n (mI D k m) ∧ WV s.1 b t n (mI D k m)) k (fun j m s hm hs => by
    obtain ⟨Mw, w⟩ := s
    obtain ⟨ew, hH, hMw, hWw⟩ := hs
    have ew : w = nI m := ew
    subst ew
    obtain ⟨M', a1, a2, a3, a4⟩ := tn_m (N := N) hMw hWw ht (show m < 12 by omega) (show k < 12 by omega) (by omega)
    refine ⟨(M', nI (m + 1)), ⟨rfl, hH.tr a2, a3, a4⟩, ?_⟩
    show fX7_statement_353 N b (nI t) u2 (nI k) K (j + 1) Mw (nI m) = fX7_statement_353 N b (nI t) u2 (nI k) K j M' (nI (m + 1))
    rw [fX7_statement_353, if_neg (nI_ge hm (by omega)), a1, bd_some, nI_1]) (N := N) (by omega) (s0 := (M, 0)) ⟨rfl, HS.rf M b t, hM, hW⟩
  have ew : w = nI k := ew
  subst ew
  refine ⟨Mw, e.trans ?_, hH, hMw, hWw⟩
  show fX7_statement_353 N b (nI t) u2 (nI k) K (j + 1) Mw (nI k) = _
  rw [fX7_statement_353, if_pos (nI_le (Nat.le_refl k) (by omega))]
theorem all_mm {M : Mem} {C : Nat → Nat → Int32} (hM : MV M b t n C) (hW : WV M b t n C) (ht : t < 5) (hn : n ≤ 12) (hN : 4097 < N) : ∃ M', fX7_statement_345 N b (nI t) (nI n) N M 0 = some (1, M') ∧ HS M M' b t ∧ MV M' b t n (mO C n) ∧ WV M' b t n (mO C n) := by
  obtain ⟨j, ⟨Mw, w⟩, ⟨ew, hH, hMw, hWw⟩, e⟩ := lpI (fun j (s : Mem × Int32) => fX7_statement_345 N b (nI t) (nI n) j s.1 s.2) (fun m s => s.2 = nI m ∧ HS M s.1 b t ∧ MV s.1 b t n (mO C m) ∧ WV s.1 b t n (mO C m)) n (fun j m s hm hs => by
    obtain ⟨Mw, w⟩ := s
    obtain ⟨ew, hH, hMw, hWw⟩ := hs
    have ew : w = nI m := ew
    subst ew
    obtain ⟨M', a1, a2, a3, a4⟩ := all_m1 (N := N) (u2 := nI n) (K := fun My353 => fX7_statement_345 N b (nI t) (nI n) j My353 (nI m + 1)) hMw hWw ht hm hn hN
    refine ⟨(M', nI (m + 1)), ⟨rfl, hH.tr a2, a3, a4⟩, ?_⟩
    show fX7_statement_345 N b (nI t) (nI n) (j + 1) Mw (nI m) = fX7_statement_345 N b (nI t) (nI n) j M' (nI (m + 1))
    rw [fX7_statement_345, if_neg (nI_ge hm (by omega)), a1, nI_1]) (N := N) (by omega) (s0 := (M, 0)) ⟨rfl, HS.rf M b t, hM, hW⟩
  have ew : w = nI n := ew
  subst ew
  refine ⟨Mw, e.trans ?_, hH, hMw, hWw⟩
  show fX7_statement_345 N b (nI t) (nI n) (j + 1) Mw (nI n) = _
  rw [fX7_statement_345, if_pos (nI_le (Nat.le_refl n) (by omega))]
theorem out_alls (hq : q + 1 < c) (ht : t < 5) (hp : p ≤ z) (hSC : SC q z f p Mc) (hSM : SM b z f p Mm) {C : Nat → Nat → Int32} (hS : ST c b t n C Mc Mm) (hN : 4097 < N) :
    OUT q c b t z f n p Mc Mm (bd (fX4_joinAll N Mc c) (fun r22 => some (1, r22))) (fX7_statement_345 N b (nI t) (nI n) N Mm 0) := by
  obtain ⟨hC, hV, hM, hW⟩ := hS
  obtain ⟨M', a1, a2, a3, a4⟩ := all_mm (N := N) hM hW ht hC.1.2 hN
  rw [all_c hV hC hN, a1, bd_some, all_eq hC]
  exact out_y hq ht hp hSC hSM ⟨fun x i h => wC_o (by omega) i, rfl⟩ a2 ⟨RC_mO hC n (Nat.le_refl n), wC_CV _ _ _, a3, a4⟩
