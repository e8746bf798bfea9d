/-! ===== statements: class and reference beside each other ===== -/
def SX (b t x i : Nat) : Prop := ((x = b + 18 ∨ x = b + 19 ∨ x = b + 20) ∧ i = t) ∨ x = b + 21 + 1 + t ∨ x = b + 27 + 1 + t ∨ x = b + 33 + 1 + t ∨ x = b + 39 + 1 + t ∨ x = b + 45 + 1 + t ∨ x = b + 51 + 1 + t
def KF (M M' : Mem) (q c : Nat) : Prop := (∀ x i, (x ≠ q ∨ i < 2 ∨ 5 < i) → (x < c ∨ c + 7 < x) → M'.1 x i = M.1 x i) ∧ M'.2 = M.2
def HF (M M' : Mem) (b t : Nat) : Prop := (∀ x i, (x ≠ b ∨ i < 27) → ¬ SX b t x i → M'.1 x i = M.1 x i) ∧ (∀ x i, x ≠ b → M'.2 x i = M.2 x i)
theorem KF.tr {M M' M'' : Mem} {q c : Nat} (h : KF M M' q c) (h' : KF M' M'' q c) : KF M M'' q c := ⟨fun x i w v => by rw [h'.1 x i w v, h.1 x i w v], by rw [h'.2, h.2]⟩
theorem HF.tr {M M' M'' : Mem} {b t : Nat} (h : HF M M' b t) (h' : HF M' M'' b t) : HF M M'' b t := ⟨fun x i w v => by rw [h'.1 x i w v, h.1 x i w v], fun x i w => by rw [h'.2 x i w, h.2 x i w]⟩
theorem CF.kf {M M' : Mem} {q : Nat} (h : CF M M' q) (c : Nat) : KF M M' q c := ⟨fun x i w _ => h.1 x i w, h.2⟩
theorem GF.hf {M M' : Mem} {b : Nat} (h : GF M M' b) (t : Nat) : HF M M' b t := ⟨fun x i w _ => h.1 x i w, h.2⟩
/-- only the slot was written -/
def KS (M M' : Mem) (c : Nat) : Prop := (∀ x i, (x < c ∨ c + 7 < x) → M'.1 x i = M.1 x i) ∧ M'.2 = M.2
def HS (M M' : Mem) (b t : Nat) : Prop := (∀ x i, ¬ SX b t x i → M'.1 x i = M.1 x i) ∧ M'.2 = M.2
theorem KS.kf {M M' : Mem} {q c : Nat} (h : KS M M' c) : KF M M' q c := ⟨fun x i _ v => h.1 x i v, h.2⟩
theorem HS.hf {M M' : Mem} {b t : Nat} (h : HS M M' b t) : HF M M' b t := ⟨fun x i _ v => h.1 x i v, fun x i _ => by rw [h.2]⟩
theorem KS.rf (M : Mem) (c : Nat) : KS M M c := ⟨fun _ _ _ => rfl, rfl⟩
theorem HS.rf (M : Mem) (b t : Nat) : HS M M b t := ⟨fun _ _ _ => rfl, rfl⟩
theorem KS.tr {M M' M'' : Mem} {c : Nat} (h : KS M M' c) (h' : KS M' M'' c) : KS M M'' c := ⟨fun x i w => by rw [h'.1 x i w, h.1 x i w], by rw [h'.2, h.2]⟩
theorem HS.tr {M M' M'' : Mem} {b t : Nat} (h : HS M M' b t) (h' : HS M' M'' b t) : HS M M'' b t := ⟨fun x i w => by rw [h'.1 x i w, h.1 x i w], by rw [h'.2, h.2]⟩
theorem nSX {b t x i : Nat} (ht : t < 5) (h : x < b + 18 ∨ b + 56 < x) : ¬ SX b t x i := by unfold SX; omega
theorem SC_ks {q c z p : Nat} {f : Nat → Nat} {M M' : Mem} (hq : q + 1 < c) (h : KS M M' c) (hS : SC q z f p M) : SC q z f p M' := ⟨⟨by rw [h.1 _ _ (by omega)]; exact hS.1.1, fun i hi => by rw [h.1 _ _ (by omega)]; exact hS.1.2 i hi⟩, by rw [h.1 _ _ (by omega)]; exact hS.2.1, by rw [h.1 _ _ (by omega)]; exact hS.2.2.1, by rw [h.1 _ _ (by omega)]; exact hS.2.2.2⟩
theorem SM_hs {b t z p : Nat} {f : Nat → Nat} {M M' : Mem} (ht : t < 5) (h : HS M M' b t) (hS : SM b z f p M) : SM b z f p M' := ⟨⟨by rw [h.1 _ _ (nSX ht (by omega))]; exact hS.1.1, fun i hi => by rw [h.1 _ _ (nSX ht (by omega))]; exact hS.1.2 i hi⟩, by rw [h.1 _ _ (nSX ht (by omega))]; exact hS.2.1, by rw [h.1 _ _ (nSX ht (by omega))]; exact hS.2.2.1, by rw [h.1 _ _ (nSX ht (by omega))]; exact hS.2.2.2.1, by rw [h.2]; exact hS.2.2.2.2⟩
/-- the street being told, in both -/
def ST (c b t n : Nat) (C : Nat → Nat → Int32) (Mc Mm : Mem) : Prop := RC n C ∧ CV Mc c C ∧ MV Mm b t n C ∧ WV Mm b t n C
theorem CV_cf {M M' : Mem} {q c : Nat} {C : Nat → Nat → Int32} (hq : q + 1 < c) (h : CF M M' q) (hV : CV M c C) : CV M' c C := CV_fr (fun j hj i => h.1 _ _ (by omega)) hV
theorem MV_gf {M M' : Mem} {b t n : Nat} {C : Nat → Nat → Int32} (ht : t < 5) (h : GF M M' b) (hM : MV M b t n C) : MV M' b t n C := MV_fr ht (fun x i p q => h.1 _ _ (by omega)) hM
theorem WV_gf {M M' : Mem} {b t n : Nat} {C : Nat → Nat → Int32} (ht : t < 5) (h : GF M M' b) (hM : WV M b t n C) : WV M' b t n C := WV_fr ht (fun x i p q => h.1 _ _ (by omega)) hM
theorem ST_fr {q c b t n : Nat} {C : Nat → Nat → Int32} {Mc Mm Mc' Mm' : Mem} (hq : q + 1 < c) (ht : t < 5) (h1 : CF Mc Mc' q) (h2 : GF Mm Mm' b) (h : ST c b t n C Mc Mm) : ST c b t n C Mc' Mm' := ⟨h.1, CV_cf hq h1 h.2.1, MV_gf ht h2 h.2.2.1, WV_gf ht h2 h.2.2.2⟩
def OUT (q c b t z : Nat) (f : Nat → Nat) (n p : Nat) (Mc Mm : Mem) (X Y : Option (Int32 × Mem)) : Prop :=
  (∃ s Mc' Mm', X = some (0, Mc') ∧ Y = some (0, Mm') ∧ KF Mc Mc' q c ∧ HF Mm Mm' b t ∧ Mc'.1 q 3 = nI s ∧ Mm'.1 b 31 = nI s)
  ∨ (∃ p' C' Mc' Mm', X = some (1, Mc') ∧ Y = some (1, Mm') ∧ KF Mc Mc' q c ∧ HF Mm Mm' b t ∧ p ≤ p' ∧ p' ≤ z ∧ SC q z f p' Mc' ∧ SM b z f p' Mm' ∧ ST c b t n C' Mc' Mm')
theorem OUT.tr {q c b t z n p p1 : Nat} {f : Nat → Nat} {Mc Mm Mc1 Mm1 : Mem} {X Y : Option (Int32 × Mem)} (h1 : KF Mc Mc1 q c) (h2 : HF Mm Mm1 b t) (hp : p ≤ p1) (h : OUT q c b t z f n p1 Mc1 Mm1 X Y) : OUT q c b t z f n p Mc Mm X Y := by
  rcases h with ⟨s, Mc', Mm', a1, a2, a3, a4, a5, a6⟩ | ⟨p', C', Mc', Mm', a1, a2, a3, a4, a5, a6, a7, a8, a9⟩
  · exact Or.inl ⟨s, Mc', Mm', a1, a2, h1.tr a3, h2.tr a4, a5, a6⟩
  · exact Or.inr ⟨p', C', Mc', Mm', a1, a2, h1.tr a3, h2.tr a4, by omega, a6, a7, a8, a9⟩
theorem OUT.eq {q c b t z n p : Nat} {f : Nat → Nat} {Mc Mm : Mem} {X Y X' Y' : Option (Int32 × Mem)} (hX : X' = X) (hY : Y' = Y) (h : OUT q c b t z f n p Mc Mm X Y) : OUT q c b t z f n p Mc Mm X' Y' := by rw [hX, hY]; exact h
def gw (X : Option (Int32 × Mem)) : Option (Int32 × Mem) := bd X (fun r => gc (r.1 = 0 ∨ r.1 = 1) (some (r.1, r.2)))
theorem gw_eq {X : Option (Int32 × Mem)} (h : ∀ r M, X = some (r, M) → r = 0 ∨ r = 1) (hs : ∃ r M, X = some (r, M)) : gw X = X := by
  obtain ⟨r, M, e⟩ := hs
  unfold gw
  rw [e, bd_some, gc_of (h r M e)]
theorem OUT.gx {q c b t z n p : Nat} {f : Nat → Nat} {Mc Mm : Mem} {X Y : Option (Int32 × Mem)} (h : OUT q c b t z f n p Mc Mm X Y) : gw X = X ∧ gw Y = Y := by
  rcases h with ⟨s, Mc', Mm', a1, a2, -⟩ | ⟨p', C', Mc', Mm', a1, a2, -⟩
  · rw [a1, a2]; exact ⟨rfl, rfl⟩
  · rw [a1, a2]; exact ⟨rfl, rfl⟩
variable {N q c b t z n p : Nat} {f : Nat → Nat} {Mc Mm : Mem}
theorem out_y (hq : q + 1 < c) (ht : t < 5) (hp : p ≤ z) (hSC : SC q z f p Mc) (hSM : SM b z f p Mm) {C' : Nat → Nat → Int32} {Mc' Mm' : Mem} (h1 : KS Mc Mc' c) (h2 : HS Mm Mm' b t) (hS : ST c b t n C' Mc' Mm') : OUT q c b t z f n p Mc Mm (some (1, Mc')) (some (1, Mm')) :=
  Or.inr ⟨p, C', Mc', Mm', rfl, rfl, h1.kf, h2.hf, Nat.le_refl p, hp, SC_ks hq h1 hSC, SM_hs ht h2 hSM, hS⟩
theorem pE (z : Nat) (f : Nat → Nat) (p : Nat) : p ≤ tE z f p := Nat.le_trans tS_ge tE_ge
/-- both pass a number, or both fail at it -/
theorem st_num (hB : TBy z f) (hp : p ≤ z) (hSC : SC q z f p Mc) (hSM : SM b z f p Mm) (hN : 4097 < N) {lo hi : Nat} (hlo : lo ≤ 99) (hhi : hi ≤ 99) (K K' : Mem → Option (Int32 × Mem))
    (hK : ∀ Mc' Mm' v, lo ≤ v → v ≤ hi → CF Mc Mc' q → GF Mm Mm' b → SC q z f (tE z f p) Mc' → SM b z f (tE z f p) Mm' → Mc'.1 q 5 = nI v → Mm'.1 b 32 = nI v → OUT q c b t z f n (tE z f p) Mc' Mm' (K Mc') (K' Mm')) :
    OUT q c b t z f n p Mc Mm (bd (fX1_passNumber N Mc q (nI lo) (nI hi)) (fun r => if r.1 = 0 then some (0, r.2) else K r.2)) (bd (fX7_number N Mm b (nI lo) (nI hi)) (fun r => if r.1 = 0 then some (0, r.2) else K' r.2)) := by
  cases h : nOk z f p lo hi
  · rw [pn_n hSC hB hp hlo hhi hN h, num_n hSM hlo hhi h, bd_some, bd_some, if_pos rfl, if_pos rfl]
    exact Or.inl ⟨tS z f p, Mc, _, rfl, rfl, (CF.rf Mc q).kf c, ((GF.rf Mm b).sI _ (by omega)).hf t, hSC.2.2.1, sI_s⟩
  · obtain ⟨Mc', a1, a2, a3, a4⟩ := pn_y (N := N) hSC hB hp hlo hhi hN h
    obtain ⟨Mm', b1, b2, b3, b4⟩ := num_y (N := N) hSM hB hp hlo hhi hN h
    obtain ⟨-, h1, h2⟩ := of_decide_eq_true h
    rw [a1, b1, bd_some, bd_some, if_neg (show ¬ (1 : Int32) = 0 by decide), if_neg (show ¬ (1 : Int32) = 0 by decide)]
    exact OUT.tr (a2.kf c) (b2.hf t) (pE z f p) (hK Mc' Mm' _ h1 h2 a2 b2 a3 b3 a4 b4)
/-- both pass a word that must stand, or both fail at it -/
theorem st_word (hB : TBy z f) (hp : p ≤ z) (hSC : SC q z f p Mc) (hSM : SM b z f p Mm) (hN : 4097 < N) {w : Nat} (hw : w < 10) (K K' : Mem → Option (Int32 × Mem))
    (hK : ∀ Mc' Mm', CF Mc Mc' q → GF Mm Mm' b → SC q z f (tE z f p) Mc' → SM b z f (tE z f p) Mm' → OUT q c b t z f n (tE z f p) Mc' Mm' (K Mc') (K' Mm')) :
    OUT q c b t z f n p Mc Mm (bd (fX1_passWord N Mc q w) (fun r => if r.1 = 0 then some (0, r.2) else K r.2)) (bd (fX7_word N Mm b w) (fun r => if r.1 = 0 then some (0, r.2) else K' r.2)) := by
  unfold fX7_word
  cases h : isW z f p w
  · rw [pw_n hSC hB hp hw hN h, isWord_m hSM hB hp hw hN, h, bd_some, bd_some, b1_if, if_pos (show ((0 : Int32), Mc).1 = 0 from rfl), if_neg (show ¬ (false = true) by decide)]
    unfold fX7_wrong
    rw [nm_eq, bd_some, gc_of (Or.inl rfl), bd_some, if_pos rfl, hSM.2.2.1]
    exact Or.inl ⟨tS z f p, Mc, _, rfl, rfl, (CF.rf Mc q).kf c, ((GF.rf Mm b).sI _ (by omega)).hf t, hSC.2.2.1, sI_s⟩
  · obtain ⟨Mc', a1, a2, a3⟩ := pw_y (N := N) hSC hB hp hw hN h
    obtain ⟨Mm', b1, b2, b3⟩ := next_m (N := N) hSM hB hp hN
    rw [a1, isWord_m hSM hB hp hw hN, h, bd_some, bd_some, b1_if, if_pos rfl, b1, bd_some, bd_some, if_neg (show ¬ (1 : Int32) = 0 by decide), if_neg (show ¬ (1 : Int32) = 0 by decide)]
    exact OUT.tr (a2.cf.kf c) (b2.gf.hf t) (pE z f p) (hK Mc' Mm' a2.cf b2.gf a3 b3)
/-! rows told for all -/
theorem RC_row {C C' : Nat → Nat → Int32} {j0 : Nat} (hj : j0 = 1 ∨ j0 = 2) (hC : RC n C) (h : ∀ j i, j ≠ j0 → C' j i = C j i) (hv : ∀ i, i < n → ∃ k, k ≤ 99 ∧ C' j0 i = nI k) : RC n C' := by
  obtain ⟨h1, h2, h3, h4, h5, h6, h7, h8⟩ := hC
  refine ⟨h1, by rw [h _ _ (by omega), h2], by rw [h _ _ (by omega)]; exact h3, by rw [h _ _ (by omega)]; exact h4, fun p hp => ?_, fun p hp q hq => ?_, fun p hp q hq => ?_, fun p hp => ?_⟩
  · rcases hj with rfl | rfl
    · exact ⟨hv p hp, by rw [h _ _ (by omega)]; exact (h5 p hp).2⟩
    · exact ⟨by rw [h _ _ (by omega)]; exact (h5 p hp).1, hv p hp⟩
  · rw [h _ _ (by omega)] at hq
    rw [h _ _ (by omega)]
    exact h6 p hp q hq
  · rw [h _ _ (by omega), h _ _ (by omega), h _ _ (by omega)]; exact h7 p hp q hq
  · rw [h _ _ (by omega), h8 p hp]
    exact isum_cong (fun q hq => by rw [h _ _ (by omega)])
theorem fillM {M : Mem} {g v m : Nat} (hm : m ≤ 12) (e : M.1 b 32 = nI v) (hg : g ≠ b) (hN : 4097 < N) : fX7_statement_69 N b g (nI m) N M 0 = some (1, fI M g (upto (fun _ => nI v) (M.1 g) m)) := by
  obtain ⟨k, hk⟩ := lp (fun k (s : Mem × Int32) => fX7_statement_69 N b g (nI m) k s.1 s.2) (fun p => (fI M g (upto (fun _ => nI v) (M.1 g) p), nI p)) m (fun k p hp => by
    show fX7_statement_69 N b g (nI m) (k + 1) _ (nI p) = fX7_statement_69 N b g (nI m) k _ (nI (p + 1))
    rw [fX7_statement_69, if_neg (nI_ge hp (by omega)), gd_nI (by omega) (by decide), nm_eq, nI_clamp (by omega), fI_o (Ne.symm hg), e, sI_fI, upto_s (fun _ => nI v), nI_1]) (N := N) (by omega)
  have e0 : M = fI M g (upto (fun _ => nI v) (M.1 g) 0) := (fI_same (fun i => upto_0 _ _ i)).symm
  refine Eq.trans ?_ (hk.trans ?_)
  · show fX7_statement_69 N b g (nI m) N M 0 = fX7_statement_69 N b g (nI m) N (fI M g (upto (fun _ => nI v) (M.1 g) 0)) (nI 0)
    rw [← e0]; rfl
  · show fX7_statement_69 N b g (nI m) (k + 1) _ (nI m) = _
    rw [fX7_statement_69, if_pos (nI_le (Nat.le_refl m) (by omega))]
theorem out_all (hq : q + 1 < c) (ht : t < 5) (hB : TBy z f) (hp : p ≤ z) (hSC : SC q z f p Mc) (hSM : SM b z f p Mm) {C : Nat → Nat → Int32} (hS : ST c b t n C Mc Mm) {j g : Nat} (hj : (j = 1 ∧ g = b + 21 + 1 + t) ∨ (j = 2 ∧ g = b + 27 + 1 + t)) (hN : 4097 < N) :
    OUT q c b t z f n p Mc Mm (fX1_readForAll N Mc q (c + j)) (bd (fX7_number N Mm b 0 99) (fun r => if r.1 = 0 then some (0, r.2) else fX7_statement_69 N b g (nI n) N r.2 0)) := by
  unfold fX1_readForAll
  refine st_num hB hp hSC hSM hN (lo := 0) (hi := 99) (by decide) (by decide) (fun M => bd (fJ7_fill_53178 N M 12 (c + j) (M.1 q 5)) (fun r3 => some (1, r3))) (fun M => fX7_statement_69 N b g (nI n) N M 0) (fun Mc' Mm' v _ hv hF hG hSC' hSM' e5 e32 => ?_)
  have hS' := ST_fr hq ht hF hG hS
  obtain ⟨hC, hV, hM, hW⟩ := hS'
  have hn := hC.1.2
  have hle := tE_le (f := f) hp
  refine OUT.eq (X := some (1, fI Mc' (c + j) (upto (fun _ => nI v) (Mc'.1 (c + j)) 12))) (Y := some (1, fI Mm' g (upto (fun _ => nI v) (Mm'.1 g) n))) ?_ ?_ ?_
  · rw [fill_I Mc' (c + j) _ (by decide) hN, bd_some, e5]
  · exact fillM hn e32 (by omega) hN
  refine out_y hq ht hle hSC' hSM' (C' := fun j' i => if j' = j then upto (fun _ => nI v) (C j) 12 i else C j' i) ⟨fun x i h => fI_o (by omega) i, rfl⟩ ⟨fun x i h => fI_o (by unfold SX at h; omega) i, rfl⟩ ⟨?_, ?_, ?_, ?_⟩
  · refine RC_row (j0 := j) (by omega) hC (fun j' i h => if_neg h) (fun i hi => ⟨v, hv, ?_⟩)
    show (if j = j then upto _ _ _ _ else _) = _
    rw [if_pos rfl, upto_in (by omega)]
  · intro j' hj' i
    by_cases w : j' = j
    · subst w
      show _ = (if j' = j' then _ else _)
      rw [if_pos rfl, fI_s]
      unfold upto
      rw [hV j' hj']
    · show _ = (if j' = j then _ else _)
      rw [if_neg w, fI_o (by omega)]; exact hV j' hj' i
  · obtain ⟨m1, m2, m3, m4, m5, m6⟩ := hM
    refine ⟨by rw [fI_o (by omega)]; exact m1, ?_, ?_, fun r hr => ?_, fun r hr => ?_, fun k hk => ?_⟩
    · show _ = (if 0 = j then _ else _)
      rw [if_neg (by omega), fI_o (by omega)]; exact m2
    · show _ = (if 0 = j then _ else _)
      rw [if_neg (by omega), fI_o (by omega)]; exact m3
    · show _ = (if 1 = j then _ else _) ∧ _ = (if 2 = j then _ else _)
      rcases hj with ⟨rfl, rfl⟩ | ⟨rfl, rfl⟩
      · rw [if_pos rfl, if_neg (by decide), fI_s, fI_o (by omega), upto_in hr, upto_in (by omega)]
        exact ⟨rfl, (m4 r hr).2⟩
      · rw [if_neg (by decide), if_pos rfl, fI_s, fI_o (by omega), upto_in hr, upto_in (by omega)]
        exact ⟨(m4 r hr).1, rfl⟩
    · show _ = (if 3 = j then _ else _)
      rw [if_neg (by omega), fI_o (by omega)]; exact m5 r hr
    · show _ = (if 6 = j then _ else _)
      rw [if_neg (by omega), fI_o (by omega)]; exact m6 k hk
  · intro r hr
    rw [fI_o (by omega), fI_o (by omega)]
    show ((if 4 = j then _ else _) = _ ∧ _) ∨ (_ = (if 4 = j then _ else _) ∧ _ = (if 5 = j then _ else _) ∧ wok (if 4 = j then _ else _) (if 5 = j then _ else _))
    rw [if_neg (by omega), if_neg (by omega)]
    exact hW r hr
/-! more, must -/
theorem out_more (hq : q + 1 < c) (ht : t < 5) (hB : TBy z f) (hp : p ≤ z) (hSC : SC q z f p Mc) (hSM : SM b z f p Mm) {C : Nat → Nat → Int32} (hS : ST c b t n C Mc Mm) (hN : 4097 < N) :
    OUT q c b t z f n p Mc Mm (fX1_readMore N Mc q c) (bd (fX7_number N Mm b 0 9) (fun r => if r.1 = 0 then some (0, r.2) else nm (sI r.2 (b + 19) (nI t : Int32).toNatClampNeg (r.2.1 b 32)) (fun M61 => some (1, M61)))) := by
  unfold fX1_readMore
  refine st_num hB hp hSC hSM hN (lo := 0) (hi := 9) (by decide) (by decide) (fun M => nm (sI M c 8 (M.1 q 5)) (fun M3 => some (1, M3))) (fun M => nm (sI M (b + 19) (nI t : Int32).toNatClampNeg (M.1 b 32)) (fun M61 => some (1, M61))) (fun Mc' Mm' v _ hv hF hG hSC' hSM' e5 e32 => ?_)
  obtain ⟨hC, hV, hM, hW⟩ := ST_fr hq ht hF hG hS
  have hle := tE_le (f := f) hp
  refine OUT.eq (X := some (1, sI Mc' c 8 (nI v))) (Y := some (1, sI Mm' (b + 19) t (nI v))) (by rw [nm_eq, e5]) (by rw [nm_eq, e32, nI_clamp (by omega)]) ?_
  refine out_y hq ht hle hSC' hSM' (C' := vs C 0 8 (nI v)) ⟨fun x i h => sI_o (by omega), rfl⟩ ⟨fun x i h => sI_o (by unfold SX at h; omega), rfl⟩ ⟨?_, CV_vs (j := 0) hV 8 (nI v), ?_, ?_⟩
  · obtain ⟨h1, h2, h3, h4, h5, h6, h7, h8⟩ := hC
    exact ⟨h1, by rw [vs_o (by omega)]; exact h2, ⟨v, hv, vs_s⟩, by rw [vs_o (by omega)]; exact h4, fun p hp => by rw [vs_o (by omega), vs_o (by omega)]; exact h5 p hp, fun p hp q hq => by rw [vs_o (by omega)] at hq; rw [vs_o (by omega)]; exact h6 p hp q hq, fun p hp q hq => by rw [vs_o (by omega), vs_o (by omega), vs_o (by omega)]; exact h7 p hp q hq, fun p hp => by rw [vs_o (by omega), h8 p hp]; exact isum_cong (fun q hq => by rw [vs_o (by omega)])⟩
  · obtain ⟨m1, m2, m3, m4, m5, m6⟩ := hM
    exact ⟨by rw [sI_o (by omega)]; exact m1, by rw [sI_s, vs_s], by rw [sI_o (by omega), vs_o (by omega)]; exact m3, fun r hr => by rw [sI_o (by omega), sI_o (by omega), vs_o (by omega), vs_o (by omega)]; exact m4 r hr, fun r hr => by rw [sI_o (by omega), vs_o (by omega)]; exact m5 r hr, fun r hr => by rw [sI_o (by omega), vs_o (by omega)]; exact m6 r hr⟩
  · intro r hr
    rw [sI_o (by omega), sI_o (by omega), vs_o (by omega), vs_o (by omega)]
    exact hW r hr
theorem out_must (hq : q + 1 < c) (ht : t < 5) (hB : TBy z f) (hp : p ≤ z) (hSC : SC q z f p Mc) (hSM : SM b z f p Mm) {C : Nat → Nat → Int32} (hS : ST c b t n C Mc Mm) (hN : 4097 < N) :
    OUT q c b t z f n p Mc Mm (fX1_readMust N Mc q c) (bd (fX7_number N Mm b 0 (nI n - 1)) (fun r => if r.1 = 0 then some (0, r.2) else nm (sI r.2 (b + 20) (nI t : Int32).toNatClampNeg ((r.2.1 (b + 20) (nI t : Int32).toNatClampNeg) ||| (1 <<< ((r.2.1 b 32) &&& 31)))) (fun M40 => some (1, M40)))) := by
  have hn1 := hS.1.1.1
  have hn2 := hS.1.1.2
  have en : nI n - 1 = nI (n - 1) := by
    have := nI_pred (n - 1)
    rwa [Nat.sub_add_cancel hn1] at this
  unfold fX1_readMust
  rw [CV0 hS.2.1, hS.1.2.1, en]
  refine st_num hB hp hSC hSM hN (lo := 0) (hi := n - 1) (by decide) (by omega) (fun M => bd (fX4_setMust N M c (M.1 q 5) 1) (fun r3 => some (1, r3))) (fun M => nm (sI M (b + 20) (nI t : Int32).toNatClampNeg ((M.1 (b + 20) (nI t : Int32).toNatClampNeg) ||| (1 <<< ((M.1 b 32) &&& 31)))) (fun M40 => some (1, M40))) (fun Mc' Mm' v _ hv hF hG hSC' hSM' e5 e32 => ?_)
  obtain ⟨hC, hV, hM, hW⟩ := ST_fr hq ht hF hG hS
  have hle := tE_le (f := f) hp
  refine OUT.eq (X := some (1, sI Mc' c 9 (C 0 9 ||| nI (2 ^ v)))) (Y := some (1, sI Mm' (b + 20) t (C 0 9 ||| nI (2 ^ v)))) ?_ (by rw [nm_eq, e32, nI_clamp (by omega), sh1 (by omega), hM.2.2.1]) ?_
  · unfold fX4_setMust
    rw [e5, nm_eq, sh1 (by omega), if_neg (by decide), nm_eq, bd_some, CV0 hV]
  refine out_y hq ht hle hSC' hSM' (C' := vs C 0 9 (C 0 9 ||| nI (2 ^ v))) ⟨fun x i h => sI_o (by omega), rfl⟩ ⟨fun x i h => sI_o (by unfold SX at h; omega), rfl⟩ ⟨?_, CV_vs (j := 0) hV 9 _, ?_, ?_⟩
  · obtain ⟨h1, h2, h3, h4, h5, h6, h7, h8⟩ := hC
    refine ⟨h1, by rw [vs_o (by omega)]; exact h2, by rw [vs_o (by omega)]; exact h3, fun k hk => ?_, fun p hp => by rw [vs_o (by omega), vs_o (by omega)]; exact h5 p hp, fun p hp q hq => by rw [vs_o (by omega)] at hq; rw [vs_o (by omega)]; exact h6 p hp q hq, fun p hp q hq => by rw [vs_o (by omega), vs_o (by omega), vs_o (by omega)]; exact h7 p hp q hq, fun p hp => by rw [vs_o (by omega), h8 p hp]; exact isum_cong (fun q hq => by rw [vs_o (by omega)])⟩
    rw [vs_s, or_bits _ (by omega)] at hk
    by_cases w : k = v
    · omega
    · rw [if_neg w] at hk; exact h4 k hk
  · obtain ⟨m1, m2, m3, m4, m5, m6⟩ := hM
    exact ⟨by rw [sI_o (by omega)]; exact m1, by rw [sI_o (by omega), vs_o (by omega)]; exact m2, by rw [sI_s, vs_s], fun r hr => by rw [sI_o (by omega), sI_o (by omega), vs_o (by omega), vs_o (by omega)]; exact m4 r hr, fun r hr => by rw [sI_o (by omega), vs_o (by omega)]; exact m5 r hr, fun r hr => by rw [sI_o (by omega), vs_o (by omega)]; exact m6 r hr⟩
  · intro r hr
    rw [sI_o (by omega), sI_o (by omega), vs_o (by omega), vs_o (by omega)]
    exact hW r hr
