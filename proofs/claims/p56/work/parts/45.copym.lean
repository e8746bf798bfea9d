/-! ===== the reference's copy; image and back ===== -/
def MF (r o i : Nat) : Prop := (22 ≤ o ∧ o < 22 + r ∧ i < 12) ∨ (28 ≤ o ∧ o < 28 + r ∧ i < 12) ∨ (34 ≤ o ∧ o < 34 + r ∧ i < 12) ∨ (40 ≤ o ∧ o < 40 + r ∧ i < 144) ∨ (46 ≤ o ∧ o < 46 + r ∧ i < 12) ∨ (52 ≤ o ∧ o < 52 + r ∧ i < 12)
def MH (o i : Nat) : Prop := (o = 0 ∧ i = 10) ∨ (18 ≤ o ∧ o ≤ 20 ∧ i < 5)
def MB (o i : Nat) : Prop := MH o i ∨ MF 5 o i ∨ (o = 57 ∧ i < 6) ∨ (o = 0 ∧ 21 ≤ i ∧ i ≤ 25)
theorem cp_over {N : Nat} {M : Mem} {m m' o len b0 b1 L : Nat} {A : Nat → Nat → Prop} (hA : supB A L) (hs : sepB m m' L) (ho : o < L) (h0 : b0 = m' + o) (h1 : b1 = m + o) (hl : len < 1000) (hN : 4097 < N) : fX7_over N (cpR M m m' A) len b0 len b1 = some (cpR M m m' (fun o' i' => A o' i' ∨ (o' = o ∧ i' < len))) := by
  subst h0; subst h1
  rw [over_m _ (by rcases hs with hs | hs <;> omega) hl hN, cp_fI hA hs ho]
theorem take43 {N : Nat} {M : Mem} {m m' r : Nat} (hs : sepB m m' 59) (hr : r < 5) (hN : 4097 < N) (k : Nat) : fX7_takeFrom_43 N m m' (k + 1) (cpR M m m' (fun o i => MH o i ∨ MF r o i)) (nI r) = fX7_takeFrom_43 N m m' k (cpR M m m' (fun o i => MH o i ∨ MF (r + 1) o i)) (nI (r + 1)) := by
  have s0 : supB (fun o i => MH o i ∨ MF r o i) 59 := fun o i h => by unfold MH MF at h; omega
  have s1 : supB (fun o i => (MH o i ∨ MF r o i) ∨ (o = 22 + r ∧ i < 12)) 59 := fun o i h => by unfold MH MF at h; omega
  have s2 : supB (fun o i => ((MH o i ∨ MF r o i) ∨ (o = 22 + r ∧ i < 12)) ∨ (o = 28 + r ∧ i < 12)) 59 := fun o i h => by unfold MH MF at h; omega
  have s3 : supB (fun o i => (((MH o i ∨ MF r o i) ∨ (o = 22 + r ∧ i < 12)) ∨ (o = 28 + r ∧ i < 12)) ∨ (o = 34 + r ∧ i < 12)) 59 := fun o i h => by unfold MH MF at h; omega
  have s4 : supB (fun o i => ((((MH o i ∨ MF r o i) ∨ (o = 22 + r ∧ i < 12)) ∨ (o = 28 + r ∧ i < 12)) ∨ (o = 34 + r ∧ i < 12)) ∨ (o = 40 + r ∧ i < 144)) 59 := fun o i h => by unfold MH MF at h; omega
  have s5 : supB (fun o i => (((((MH o i ∨ MF r o i) ∨ (o = 22 + r ∧ i < 12)) ∨ (o = 28 + r ∧ i < 12)) ∨ (o = 34 + r ∧ i < 12)) ∨ (o = 40 + r ∧ i < 144)) ∨ (o = 46 + r ∧ i < 12)) 59 := fun o i h => by unfold MH MF at h; omega
  rw [fX7_takeFrom_43, if_neg (show ¬ (5 : Int32) ≤ nI r from nI_ge (b := 5) hr (by omega)), gd_nI hr (by decide), nI_clamp (by omega)]
  rw [cp_over s0 hs (o := 22 + r) (by omega) (by omega) (by omega) (by decide) hN, bd_some,
    cp_over s1 hs (o := 28 + r) (by omega) (by omega) (by omega) (by decide) hN, bd_some,
    cp_over s2 hs (o := 34 + r) (by omega) (by omega) (by omega) (by decide) hN, bd_some,
    cp_over s3 hs (o := 40 + r) (by omega) (by omega) (by omega) (by decide) hN, bd_some,
    cp_over s4 hs (o := 46 + r) (by omega) (by omega) (by omega) (by decide) hN, bd_some,
    cp_over s5 hs (o := 52 + r) (by omega) (by omega) (by omega) (by decide) hN, bd_some, nI_1]
  congr 1
  refine cp_cong (fun o i => ?_)
  unfold MH MF
  omega
theorem take_m {N : Nat} {M : Mem} {m m' : Nat} (hs : sepB m m' 59) (hN : 4097 < N) : fX7_takeFrom N M m m' = some (cpR M m m' MB) := by
  have e0 : sI M m 10 (M.1 m' 10) = cpR M m m' (fun o i => o = 0 ∧ i = 10) := cp_is (fun o i h => by
    obtain ⟨rfl, rfl⟩ := h; rw [Nat.add_zero, Nat.add_zero, sI_s]) (fun x i h => sI_o (by
    by_cases q : x = m ∧ i = 10
    · obtain ⟨rfl, rfl⟩ := q; exact absurd ⟨by omega, rfl⟩ (h (Nat.le_refl _))
    · omega)) (fun _ _ => rfl)
  have s0 : supB (fun o i => o = 0 ∧ i = 10) 59 := fun o i h => by omega
  have s1 : supB (fun o i => (o = 0 ∧ i = 10) ∨ (o = 18 ∧ i < 5)) 59 := fun o i h => by omega
  have s2 : supB (fun o i => ((o = 0 ∧ i = 10) ∨ (o = 18 ∧ i < 5)) ∨ (o = 19 ∧ i < 5)) 59 := fun o i h => by omega
  have e1 : cpR M m m' (fun o i => (((o = 0 ∧ i = 10) ∨ (o = 18 ∧ i < 5)) ∨ (o = 19 ∧ i < 5)) ∨ (o = 20 ∧ i < 5)) = cpR M m m' (fun o i => MH o i ∨ MF 0 o i) := cp_cong (fun o i => by unfold MH MF; omega)
  unfold fX7_takeFrom
  rw [e0, nm_eq, cp_over s0 hs (o := 18) (by decide) rfl rfl (by decide) hN, bd_some, cp_over s1 hs (o := 19) (by decide) rfl rfl (by decide) hN, bd_some, cp_over s2 hs (o := 20) (by decide) rfl rfl (by decide) hN, bd_some, e1]
  obtain ⟨k, hk⟩ := lp (fun k (s : Mem × Int32) => fX7_takeFrom_43 N m m' k s.1 s.2) (fun r => (cpR M m m' (fun o i => MH o i ∨ MF r o i), nI r)) 5 (fun k r hr => take43 hs hr hN k) (N := N) (by omega)
  refine hk.trans ?_
  show fX7_takeFrom_43 N m m' (k + 1) (cpR M m m' (fun o i => MH o i ∨ MF 5 o i)) (nI 5) = _
  have t0 : supB (fun o i => MH o i ∨ MF 5 o i) 59 := fun o i h => by unfold MH MF at h; omega
  have tB : ∀ j, supB (fun o i => ((MH o i ∨ MF 5 o i) ∨ (o = 57 ∧ i < 6)) ∨ (o = 0 ∧ 21 ≤ i ∧ i < 21 + j)) 59 := fun j o i h => by unfold MH MF at h; omega
  have step : ∀ j, sI (cpR M m m' (fun o i => ((MH o i ∨ MF 5 o i) ∨ (o = 57 ∧ i < 6)) ∨ (o = 0 ∧ 21 ≤ i ∧ i < 21 + j))) m (21 + j) ((cpR M m m' (fun o i => ((MH o i ∨ MF 5 o i) ∨ (o = 57 ∧ i < 6)) ∨ (o = 0 ∧ 21 ≤ i ∧ i < 21 + j))).1 m' (21 + j)) = cpR M m m' (fun o i => ((MH o i ∨ MF 5 o i) ∨ (o = 57 ∧ i < 6)) ∨ (o = 0 ∧ 21 ≤ i ∧ i < 21 + (j + 1))) := fun j => by
    have z := cp_sI (M := M) (o := 0) (i := 21 + j) (tB j) hs (by decide)
    simp only [Nat.add_zero] at z
    rw [z]
    refine cp_cong (fun o i => ?_)
    constructor
    · rintro ((h | h) | h)
      · exact Or.inl h
      · exact Or.inr (by omega)
      · exact Or.inr (by omega)
    · rintro (h | h)
      · exact Or.inl (Or.inl h)
      · by_cases q : i = 21 + j
        · exact Or.inr ⟨h.1, q⟩
        · exact Or.inl (Or.inr (by omega))
  have u0 : cpR M m m' (fun o i => (MH o i ∨ MF 5 o i) ∨ (o = 57 ∧ i < 6)) = cpR M m m' (fun o i => ((MH o i ∨ MF 5 o i) ∨ (o = 57 ∧ i < 6)) ∨ (o = 0 ∧ 21 ≤ i ∧ i < 21 + 0)) := cp_cong (fun o i => ⟨Or.inl, fun h => h.resolve_right (by omega)⟩)
  rw [fX7_takeFrom_43, if_pos (by decide), cp_over t0 hs (o := 57) (by decide) rfl rfl (by decide) hN, bd_some, u0, nm_eq]
  have a1 := step 0
  have a2 := step 1
  have a3 := step 2
  have a4 := step 3
  have a5 := step 4
  rw [a1, nm_eq, a2, nm_eq, a3, nm_eq, a4, nm_eq, a5]
  congr 1
  refine cp_cong (fun o i => ?_)
  unfold MB
  constructor
  · rintro (((h | h) | h) | h)
    · exact Or.inl h
    · exact Or.inr (Or.inl h)
    · exact Or.inr (Or.inr (Or.inl h))
    · exact Or.inr (Or.inr (Or.inr (by omega)))
  · rintro (h | h | h | h)
    · exact Or.inl (Or.inl (Or.inl h))
    · exact Or.inl (Or.inl (Or.inr h))
    · exact Or.inl (Or.inr h)
    · exact Or.inr (by omega)
/-! the relation goes over -/
theorem CV_tr {M M2 : Mem} {q c : Nat} {C : Nat → Nat → Int32} (hV : CV M q C) (h : ∀ o i, SB o i → M2.1 (c + o) i = M.1 (q + o) i) : EqV C (fun j i => M2.1 (c + j) i) ∧ CV M2 c (fun j i => M2.1 (c + j) i) := by
  refine ⟨⟨?_, ?_, ?_, fun j i hj hi => ?_, fun i hi => ?_⟩, fun j hj i => rfl⟩
  · exact (h 0 7 (by unfold SB; omega)).trans (hV 0 (by decide) 7)
  · exact (h 0 8 (by unfold SB; omega)).trans (hV 0 (by decide) 8)
  · exact (h 0 9 (by unfold SB; omega)).trans (hV 0 (by decide) 9)
  · exact (h j i (by unfold SB; omega)).trans (hV j (by omega) i)
  · exact (h 6 i (by unfold SB; omega)).trans (hV 6 (by decide) i)
theorem MV_tr {M M2 : Mem} {ms md t n : Nat} {C : Nat → Nat → Int32} (hM : MV M ms t n C) (hn : n ≤ 12) (ht : t < 5) (h : ∀ o i, MB o i → M2.1 (md + o) i = M.1 (ms + o) i) : MV M2 md t n C := by
  obtain ⟨h1, h2, h3, h4, h5, h6⟩ := hM
  have g : ∀ o i x y, MB o i → x = md + o → y = ms + o → M2.1 x i = M.1 y i := fun o i x y hb hx hy => by rw [hx, hy]; exact h o i hb
  refine ⟨?_, ?_, ?_, fun p hp => ⟨?_, ?_⟩, fun p hp => ?_, fun k hk => ?_⟩
  · rw [h 18 t (by unfold MB MH MF; omega), h1]
  · rw [h 19 t (by unfold MB MH MF; omega), h2]
  · rw [h 20 t (by unfold MB MH MF; omega), h3]
  · rw [g (22 + t) p _ _ (by unfold MB MH MF; omega) (by omega) (show ms + 21 + 1 + t = ms + (22 + t) by omega)]; exact (h4 p hp).1
  · rw [g (28 + t) p _ _ (by unfold MB MH MF; omega) (by omega) (show ms + 27 + 1 + t = ms + (28 + t) by omega)]; exact (h4 p hp).2
  · rw [g (34 + t) p _ _ (by unfold MB MH MF; omega) (by omega) (show ms + 33 + 1 + t = ms + (34 + t) by omega)]; exact h5 p hp
  · rw [g (40 + t) k _ _ (by unfold MB MH MF; omega) (by omega) (show ms + 39 + 1 + t = ms + (40 + t) by omega)]; exact h6 k hk
theorem WV_tr {M M2 : Mem} {ms md t n : Nat} {C T : Nat → Nat → Int32} (hW : WV M ms t n C) (hE : EqV C T) (hn : n ≤ 12) (ht : t < 5) (h : ∀ o i, MB o i → M2.1 (md + o) i = M.1 (ms + o) i) : WV M2 md t n T := by
  intro p hp
  have e1 : M2.1 (md + 45 + 1 + t) p = M.1 (ms + 45 + 1 + t) p := by
    rw [show md + 45 + 1 + t = md + (46 + t) by omega, show ms + 45 + 1 + t = ms + (46 + t) by omega]; exact h _ _ (by unfold MB MH MF; omega)
  have e2 : M2.1 (md + 51 + 1 + t) p = M.1 (ms + 51 + 1 + t) p := by
    rw [show md + 51 + 1 + t = md + (52 + t) by omega, show ms + 51 + 1 + t = ms + (52 + t) by omega]; exact h _ _ (by unfold MB MH MF; omega)
  rw [e1, e2, hE.2.2.2.1 4 p (by omega) (by omega), hE.2.2.2.1 5 p (by omega) (by omega)]
  exact hW p hp
theorem TW_tr {M M2 : Mem} {sw tw ms md k : Nat} (hT : TWr M sw ms) (hk : M.1 sw 3 = nI k) (hk4 : k ≤ 4) (hc : ∀ o i, TB k o i → M2.1 (tw + o) i = M.1 (sw + o) i) (hm : ∀ o i, MB o i → M2.1 (md + o) i = M.1 (ms + o) i) : TWr M2 tw md := by
  obtain ⟨⟨k2, hk2, e1, e2, hs⟩, hd, e3, hh⟩ := hT
  have ek : k2 = k := (nI_eq (by omega) (by omega)).mp (e1.symm.trans hk)
  subst ek
  refine ⟨⟨k2, hk2, (hc 0 3 (by unfold TB; omega)).trans e1, (hm 0 10 (by unfold MB MH; omega)).trans e2, fun t ht => ?_⟩, fun d hd6 => ?_, ?_, ?_⟩
  · obtain ⟨n, C, hC, hV, hM, hW⟩ := hs t ht
    have hsb : ∀ o i, SB o i → M2.1 (tw + 1 + 11 + 8 * t + o) i = M.1 (sw + 1 + 11 + 8 * t + o) i := fun o i h => by
      have ho : o ≤ 7 := by unfold SB at h; omega
      rw [show tw + 1 + 11 + 8 * t + o = tw + (12 + 8 * t + o) by omega, show sw + 1 + 11 + 8 * t + o = sw + (12 + 8 * t + o) by omega]
      refine hc _ _ (Or.inr (Or.inr (Or.inr (Or.inr ⟨by omega, by omega, ?_⟩))))
      rw [show (12 + 8 * t + o - 12) % 8 = o by omega]; exact h
    obtain ⟨hE, hV2⟩ := CV_tr hV hsb
    exact ⟨n, _, RC_eq hE hC, hV2, MV_eq hE hC.1.2 (MV_tr hM hC.1.2 (by omega) hm), WV_tr hW hE hC.1.2 (by omega) hm⟩
  · rw [hc 2 d (by unfold TB; omega), hm 57 d (by unfold MB; omega)]
    exact hd d hd6
  · exact (hc 0 4 (by unfold TB; omega)).trans (e3.trans (hm 0 21 (by unfold MB; omega)).symm)
  · have h3 : ∀ i, 1 ≤ i → i ≤ 5 → M2.1 (tw + 3) i = M.1 (sw + 3) i := fun i h1 h2 => hc 3 i (by unfold TB; omega)
    have h0 : ∀ i, 22 ≤ i → i ≤ 25 → M2.1 md i = M.1 ms i := fun i h1 h2 => hm 0 i (by unfold MB; omega)
    rcases hh with ⟨f1, f2⟩ | ⟨s, n, C, x, f1, hs2, f2, f3, hC, hV, hM, hx, f4, f5, f6, f7⟩
    · exact Or.inl ⟨by rw [h3 1 (by decide) (by decide), f1], by rw [h0 22 (by decide) (by decide), f2]⟩
    · have hsb : ∀ o i, SB o i → M2.1 (tw + 3 + 1 + o) i = M.1 (sw + 3 + 1 + o) i := fun o i h => by
        have ho : o ≤ 7 := by unfold SB at h; omega
        rw [show tw + 3 + 1 + o = tw + (4 + o) by omega, show sw + 3 + 1 + o = sw + (4 + o) by omega]
        refine hc _ _ (Or.inr (Or.inr (Or.inr (Or.inl ⟨by omega, by omega, ?_⟩))))
        rw [show 4 + o - 4 = o by omega]; exact h
      obtain ⟨hE, hV2⟩ := CV_tr hV hsb
      exact Or.inr ⟨s, n, _, x, by rw [h3 1 (by decide) (by decide), f1], hs2, by rw [h3 2 (by decide) (by decide), f2], by rw [h0 22 (by decide) (by decide), f3], RC_eq hE hC, hV2, MV_eq hE hC.1.2 (MV_tr hM hC.1.2 (by decide) hm), hx, by rw [h3 3 (by decide) (by decide), f4], by rw [h0 23 (by decide) (by decide), f5], by rw [h3 4 (by decide) (by decide), h0 24 (by decide) (by decide), f6], by rw [h3 5 (by decide) (by decide), h0 25 (by decide) (by decide), f7]⟩
theorem hunt01 {M : Mem} {h m : Nat} (hh : HNr M h m) : M.1 h 1 = 0 ∨ M.1 h 1 = 1 := by
  rcases hh with ⟨f1, -⟩ | ⟨s, n, C, x, f1, -⟩
  · exact Or.inl f1
  · exact Or.inr f1
theorem supT {k : Nat} (hk : k ≤ 4) : supB (TB k) 44 := fun o i h => by unfold TB at h; omega
theorem supM : supB MB 59 := fun o i h => by unfold MB MH MF at h; omega
/-! back -/
theorem op_back {kp : Int32} {a b N : Nat} {M : Mem} (hI : Inv kp a b M) (hN : 4097 < N) : Op kp a b M (fX6_back N M a) (fun M1 => fX7_back N M1 b) := by
  have hab := hI.1
  unfold fX6_back fX7_back
  rcases hI.2.2.2.2.2 with ⟨f1, f2, -⟩ | ⟨f1, f2, -, hT⟩
  · refine Op.ref hI (w := 5) (by decide) (by decide) (-5) ?_ ?_
    · rw [if_pos f1, rfC5]; rfl
    · show (if _ then _ else _) = _
      rw [if_pos (by rw [rC_o (by omega), f2]), rfM5]; rfl
  · have hT' := hT
    obtain ⟨⟨k, hk, e1, e2, hs⟩, hd, e3, hh⟩ := hT
    have s1 : sepB (a + 4) (a + 48) 44 := Or.inr (by omega)
    have s2 : sepB b (b + 59) 59 := Or.inr (by omega)
    have hu : Up b M (cpR M (a + 4) (a + 48) (TB k)) := fun x i h => ⟨cp_out (fun h1 h2 => by have := supT hk _ _ h2; omega), rfl⟩
    refine ⟨1, _, cpR (cpR M (a + 4) (a + 48) (TB k)) b (b + 59) MB, ?_, hu, ?_, ?_⟩
    · rw [if_neg (by rw [f1]; decide), town_c s1 e1 hk (hunt01 hh) hN]; rfl
    · show (if _ then _ else _) = _
      rw [if_neg (by rw [(hu b 26 (Nat.le_refl b)).1, f2]; decide), take_m s2 hN]; rfl
    · have f : ∀ x i, (a + 4 ≤ x → ¬ TB k (x - (a + 4)) i) → (b ≤ x → ¬ MB (x - b) i) → (cpR (cpR M (a + 4) (a + 48) (TB k)) b (b + 59) MB).1 x i = M.1 x i := fun x i h1 h2 => by
        rw [cp_out h2, cp_out h1]
      refine Inv_tw hI (fun x i h => f x i (fun h1 h2 => ?_) (fun h1 h2 => ?_)) (fun _ _ _ => rfl) (TW_tr hT' e1 hk (fun o i h => ?_) (fun o i h => ?_))
      · have := supT hk _ _ h2
        unfold IT at h; omega
      · have := supM _ _ h2
        unfold IT at h
        unfold MB MH MF at h2
        omega
      · have ho := supT hk _ _ h
        rw [cp_out (fun h1 _ => by omega), cp_in h]
      · have ho := supM _ _ h
        rw [cp_in h]
        exact cp_out (fun h1 h2 => by have := supT hk _ _ h2; omega)
/-! image: the class's part, and the reference's behind its making -/
theorem image_c {kp : Int32} {a b N : Nat} {M : Mem} (hI : Inv kp a b M) (hN : 4097 < N) : ∃ k, k ≤ 4 ∧ M.1 (a + 4) 3 = nI k ∧ fX6_image N M a = some (1, sI (cpR M (a + 48) (a + 4) (TB k)) a 7 1) ∧ Up b M (sI (cpR M (a + 48) (a + 4) (TB k)) a 7 1) := by
  have hab := hI.1
  obtain ⟨⟨k, hk, e1, e2, hs⟩, hd, e3, hh⟩ := hI.2.2.2.2.1
  have s1 : sepB (a + 48) (a + 4) 44 := Or.inl (by omega)
  refine ⟨k, hk, e1, ?_, fun x i h => ⟨?_, rfl⟩⟩
  · unfold fX6_image
    rw [town_c s1 e1 hk (hunt01 hh) hN]; rfl
  · rw [sI_o (by omega)]
    exact cp_out (fun h1 h2 => by have := supT hk _ _ h2; omega)
/-- M2: the reference's copy is there, its cells whatever, and it is known -/
theorem image_m {kp : Int32} {a b N k : Nat} {M M2 : Mem} (hI : Inv kp a b M) (hk : k ≤ 4) (e1 : M.1 (a + 4) 3 = nI k) (h1 : ∀ x i, x < b + 59 → ¬ (x = b ∧ i = 26) → M2.1 x i = (sI (cpR M (a + 48) (a + 4) (TB k)) a 7 1).1 x i) (h2 : ∀ x i, x < b + 59 → M2.2 x i = M.2 x i) (h3 : M2.1 b 26 = 1) (hN : 4097 < N) : ∃ M3, fX7_takeFrom N M2 (b + 59) b = some M3 ∧ Inv 1 a b M3 := by
  have hab := hI.1
  have s2 : sepB (b + 59) b 59 := Or.inl (by omega)
  refine ⟨_, take_m s2 hN, ?_⟩
  have o1 : ∀ x i, x < b + 59 → ¬ (x = b ∧ i = 26) → ¬ (x = a ∧ i = 7) → (a + 48 ≤ x → ¬ TB k (x - (a + 48)) i) → (cpR M2 (b + 59) b MB).1 x i = M.1 x i := fun x i p1 p2 p3 p4 => by
    rw [cp_out (fun h _ => by omega), h1 x i p1 p2, sI_o (by omega), cp_out p4]
  have hT := hI.2.2.2.2.1
  have hT2 := hT
  have hTk : TWr (cpR M2 (b + 59) b MB) (a + 48) (b + 59) := TW_tr hT2 e1 hk (fun o i h => by
    have ho := supT hk _ _ h
    rw [cp_out (fun h _ => by omega), h1 _ _ (by omega) (by omega), sI_o (by omega), cp_in h]) (fun o i h => by
    have ho := supM _ _ h
    rw [cp_in h, h1 _ _ (by omega) (fun q => by unfold MB MH MF at h; omega), sI_o (by omega)]
    exact cp_out (fun h3 h4 => by have := supT hk _ _ h4; omega))
  obtain ⟨hx, hs, ht, hr, -, -⟩ := hI
  refine ⟨hx, fun s hs2 => SHr_fr (fun i => ?_) (fun i => ?_) (fun j hj => ?_) (fun i => ?_) (hs s hs2), TPr_fr ?_ ?_ (fun i => ?_) (fun i => ?_) ht, fun i hi => ?_, TWr_fr (fun x i p q => ?_) (fun x i p q => ?_) (fun i p => ?_) hT, Or.inr ⟨?_, ?_, rfl, hTk⟩⟩
  · exact o1 _ _ (by omega) (by omega) (by omega) (fun h4 h5 => by have := supT hk _ _ h5; omega)
  · exact h2 _ _ (by omega)
  · exact o1 _ _ (by omega) (by omega) (by omega) (fun h4 h5 => by have := supT hk _ _ h5; omega)
  · exact h2 _ _ (by omega)
  · exact o1 _ _ (by omega) (by omega) (by omega) (fun h4 h5 => by omega)
  · exact o1 _ _ (by omega) (by omega) (by omega) (fun h4 h5 => by have := supT hk _ _ h5; omega)
  · exact o1 _ _ (by omega) (by omega) (by omega) (fun h4 h5 => by omega)
  · exact o1 _ _ (by omega) (by omega) (by omega) (fun h4 h5 => by have := supT hk _ _ h5; omega)
  · rw [o1 _ _ (by omega) (by omega) (by omega) (fun h4 h5 => by have := supT hk _ _ h5; omega), o1 _ _ (by omega) (by omega) (by omega) (fun h4 h5 => by have := supT hk _ _ h5; omega)]
    exact hr i hi
  · exact o1 _ _ (by omega) (by omega) (by omega) (fun h4 h5 => by omega)
  · exact o1 _ _ (by omega) (by omega) (by omega) (fun h4 h5 => by have := supT hk _ _ h5; omega)
  · exact o1 _ _ (by omega) (by omega) (by omega) (fun h4 h5 => by have := supT hk _ _ h5; omega)
  · rw [cp_out (fun h _ => by omega), h1 _ _ (by omega) (by omega), sI_s]
  · rw [cp_out (fun h _ => by omega), h3]
