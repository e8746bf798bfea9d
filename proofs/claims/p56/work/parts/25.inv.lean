/-! ===== the class and the reference, side by side in one memory ===== -/
/-- shelf s: the class's at q, the reference's at b -/
def SHr (M : Mem) (q b s : Nat) : Prop :=
  (M.1 q 1 = -1 ∧ M.1 (b + 1) s = 0)
  ∨ (∃ k z, k < 5 ∧ z ≤ 40 ∧ M.1 q 1 = nI k ∧ M.1 q 2 = nI z ∧ M.1 (b + 1) s = 1 ∧ M.1 (b + 2) s = nI k ∧ M.1 (b + 3) s = nI z ∧ ∀ i, i < 40 → M.2 (q + 1) i = M.2 (b + 4 + 1 + s) i)
  ∨ (∃ k, 1 ≤ k ∧ k ≤ 5 ∧ M.1 q 1 = nI (10 + k) ∧ M.1 (b + 1) s = 2 ∧ M.1 (b + 13) s = nI k ∧ M.1 (b + 14) s = M.1 q 3 ∧ wok (nI k) (M.1 q 3))
def TPr (M : Mem) (q b : Nat) : Prop := ∃ z, z ≤ 160 ∧ M.1 q 1 = nI z ∧ M.1 b 8 = nI z ∧ ∀ i, i < z → M.1 (q + 1) i = M.1 (b + 16) i ∧ ∃ k, k < 256 ∧ M.1 (b + 16) i = nI k
def HNr (M : Mem) (h m : Nat) : Prop :=
  (M.1 h 1 = 0 ∧ M.1 m 22 = -1)
  ∨ (∃ s n C x, M.1 h 1 = 1 ∧ s < 4 ∧ M.1 h 2 = nI s ∧ M.1 m 22 = nI s ∧ RC n C ∧ CV M (h + 1) C ∧ MV M m 4 n C ∧ x ≤ 2 ^ n ∧ M.1 h 3 = nI x ∧ M.1 m 23 = nI x ∧ M.1 h 4 = M.1 m 24 ∧ M.1 h 5 = M.1 m 25)
def STr (M : Mem) (c m t : Nat) : Prop := ∃ n C, RC n C ∧ CV M c C ∧ MV M m t n C ∧ WV M m t n C
def TWr (M : Mem) (tw m : Nat) : Prop :=
  (∃ k, k ≤ 4 ∧ M.1 tw 3 = nI k ∧ M.1 m 10 = nI k ∧ ∀ t, t < k → STr M (tw + 1 + 11 + 8 * t) m t)
  ∧ (∀ d, d < 6 → M.1 (tw + 2) d = M.1 (m + 57) d ∧ ∃ j, j ≤ 20 ∧ M.1 (tw + 2) d = nI j)
  ∧ M.1 tw 4 = M.1 m 21 ∧ HNr M (tw + 3) m
/-- kp: whether an image is kept (0, 1) -/
def KPr (kp : Int32) (M : Mem) (a b : Nat) : Prop := (M.1 a 7 = 0 ∧ M.1 b 26 = 0 ∧ kp = 0) ∨ (M.1 a 7 = 1 ∧ M.1 b 26 = 1 ∧ kp = 1 ∧ TWr M (a + 48) (b + 59))
def RFr (M : Mem) (a b : Nat) : Prop := ∀ i, i < 5 → M.1 (a + 102) i = M.1 (b + 17) (i + 2)
def Inv (kp : Int32) (a b : Nat) (M : Mem) : Prop :=
  (a = 0 ∧ b = 119) ∧ (∀ s, s < 8 → SHr M (a + 1 + 102 + 2 * s) b s) ∧ TPr M (a + 2) b ∧ RFr M a b ∧ TWr M (a + 4) b ∧ KPr kp M a b
/-! what they read -/
theorem CV_fr {M M' : Mem} {c : Nat} {C : Nat → Nat → Int32} (h : ∀ j, j ≤ 7 → ∀ i, M'.1 (c + j) i = M.1 (c + j) i) (hV : CV M c C) : CV M' c C := fun j hj i => (h j hj i).trans (hV j hj i)
theorem MV_fr {M M' : Mem} {m t n : Nat} {C : Nat → Nat → Int32} (ht : t < 5) (h : ∀ x i, m + 18 ≤ x → x ≤ m + 44 → M'.1 x i = M.1 x i) (hM : MV M m t n C) : MV M' m t n C := by
  obtain ⟨h1, h2, h3, h4, h5, h6⟩ := hM
  refine ⟨by rw [h _ _ (by omega) (by omega), h1], by rw [h _ _ (by omega) (by omega), h2], by rw [h _ _ (by omega) (by omega), h3], fun p hp => ?_, fun p hp => ?_, fun k hk => ?_⟩
  · rw [h _ _ (by omega) (by omega), h _ _ (by omega) (by omega)]; exact h4 p hp
  · rw [h _ _ (by omega) (by omega)]; exact h5 p hp
  · rw [h _ _ (by omega) (by omega)]; exact h6 k hk
theorem WV_fr {M M' : Mem} {m t n : Nat} {C : Nat → Nat → Int32} (ht : t < 5) (h : ∀ x i, m + 45 ≤ x → x ≤ m + 56 → M'.1 x i = M.1 x i) (hM : WV M m t n C) : WV M' m t n C := by
  intro p hp
  rw [h _ _ (by omega) (by omega), h _ _ (by omega) (by omega)]
  exact hM p hp
theorem SHr_fr {M M' : Mem} {q b s : Nat} (h1 : ∀ i, M'.1 q i = M.1 q i) (h2 : ∀ i, M'.2 (q + 1) i = M.2 (q + 1) i) (h3 : ∀ j, j = 1 ∨ j = 2 ∨ j = 3 ∨ j = 13 ∨ j = 14 → M'.1 (b + j) s = M.1 (b + j) s) (h4 : ∀ i, M'.2 (b + 4 + 1 + s) i = M.2 (b + 4 + 1 + s) i) (h : SHr M q b s) : SHr M' q b s := by
  unfold SHr
  rw [h1, h1, h1, h3 1 (by omega), h3 2 (by omega), h3 3 (by omega), h3 13 (by omega), h3 14 (by omega)]
  simp only [h2, h4]
  exact h
theorem TPr_fr {M M' : Mem} {q b : Nat} (h1 : M'.1 q 1 = M.1 q 1) (h2 : M'.1 b 8 = M.1 b 8) (h3 : ∀ i, M'.1 (q + 1) i = M.1 (q + 1) i) (h4 : ∀ i, M'.1 (b + 16) i = M.1 (b + 16) i) (h : TPr M q b) : TPr M' q b := by
  unfold TPr
  rw [h1, h2]
  simp only [h3, h4]
  exact h
theorem HNr_fr {M M' : Mem} {q m : Nat} (h1 : ∀ x i, q ≤ x → x ≤ q + 8 → M'.1 x i = M.1 x i) (h2 : ∀ x i, m + 18 ≤ x → x ≤ m + 44 → M'.1 x i = M.1 x i) (h3 : ∀ i, 22 ≤ i → i ≤ 25 → M'.1 m i = M.1 m i) (h : HNr M q m) : HNr M' q m := by
  rcases h with ⟨e1, e2⟩ | ⟨s, n, C, x, e1, hs, e2, e3, hC, hV, hM, hx, e4, e5, e6, e7⟩
  · exact Or.inl ⟨by rw [h1 _ _ (by omega) (by omega), e1], by rw [h3 _ (by omega) (by omega), e2]⟩
  · refine Or.inr ⟨s, n, C, x, by rw [h1 _ _ (by omega) (by omega), e1], hs, by rw [h1 _ _ (by omega) (by omega), e2], by rw [h3 _ (by omega) (by omega), e3], hC, CV_fr (fun j hj i => h1 _ _ (by omega) (by omega)) hV, MV_fr (by omega) h2 hM, hx, ?_, ?_, ?_, ?_⟩
    · rw [h1 _ _ (by omega) (by omega), e4]
    · rw [h3 _ (by omega) (by omega), e5]
    · rw [h1 _ _ (by omega) (by omega), h3 _ (by omega) (by omega), e6]
    · rw [h1 _ _ (by omega) (by omega), h3 _ (by omega) (by omega), e7]
theorem STr_fr {M M' : Mem} {c m t : Nat} (ht : t < 5) (h1 : ∀ x i, c ≤ x → x ≤ c + 7 → M'.1 x i = M.1 x i) (h2 : ∀ x i, m + 18 ≤ x → x ≤ m + 56 → M'.1 x i = M.1 x i) (h : STr M c m t) : STr M' c m t := by
  obtain ⟨n, C, hC, hV, hM, hW⟩ := h
  exact ⟨n, C, hC, CV_fr (fun j hj i => h1 _ _ (by omega) (by omega)) hV, MV_fr ht (fun x i a b => h2 x i a (by omega)) hM, WV_fr ht (fun x i a b => h2 x i (by omega) b) hW⟩
theorem TWr_fr {M M' : Mem} {tw m : Nat} (h1 : ∀ x i, tw ≤ x → x ≤ tw + 43 → M'.1 x i = M.1 x i) (h2 : ∀ x i, m + 18 ≤ x → x ≤ m + 57 → M'.1 x i = M.1 x i) (h3 : ∀ i, i = 10 ∨ (21 ≤ i ∧ i ≤ 25) → M'.1 m i = M.1 m i) (h : TWr M tw m) : TWr M' tw m := by
  obtain ⟨⟨k, hk, e1, e2, hs⟩, hd, e3, hh⟩ := h
  refine ⟨⟨k, hk, by rw [h1 _ _ (by omega) (by omega), e1], by rw [h3 _ (by omega), e2], fun t ht => STr_fr (by omega) (fun x i a b => h1 x i (by omega) (by omega)) (fun x i a b => h2 x i a (by omega)) (hs t ht)⟩, fun d hd2 => ?_, ?_, ?_⟩
  · rw [h1 _ _ (by omega) (by omega), h2 _ _ (by omega) (by omega)]; exact hd d hd2
  · rw [h1 _ _ (by omega) (by omega), h3 _ (by omega), e3]
  · exact HNr_fr (fun x i a b => h1 x i (by omega) (by omega)) (fun x i a b => h2 x i a (by omega)) (fun i a b => h3 i (by omega)) hh
theorem KPr_fr {kp : Int32} {M M' : Mem} {a b : Nat} (h0 : M'.1 a 7 = M.1 a 7) (h0b : M'.1 b 26 = M.1 b 26) (h1 : ∀ x i, a + 48 ≤ x → x ≤ a + 91 → M'.1 x i = M.1 x i) (h2 : ∀ x i, b + 59 ≤ x → M'.1 x i = M.1 x i) (h : KPr kp M a b) : KPr kp M' a b := by
  rcases h with ⟨e1, e2, e3⟩ | ⟨e1, e2, e3, h⟩
  · exact Or.inl ⟨by rw [h0, e1], by rw [h0b, e2], e3⟩
  · exact Or.inr ⟨by rw [h0, e1], by rw [h0b, e2], e3, TWr_fr (fun x i a b => h1 x i (by omega) (by omega)) (fun x i a b => h2 x i (by omega)) (fun i a => h2 _ _ (by omega)) h⟩
/-- what is written beside: the refusals, the scratch cells -/
def IS (a b x i : Nat) : Prop := (x = a ∧ i = 7) ∨ (a + 2 ≤ x ∧ x ≤ a + 91) ∨ (a + 103 ≤ x ∧ x < a + 119) ∨ (x = b ∧ (i = 8 ∨ i = 10 ∨ (21 ≤ i ∧ i ≤ 26))) ∨ (b + 1 ≤ x ∧ x ≤ b + 14) ∨ x = b + 16 ∨ (b + 18 ≤ x ∧ x ≤ b + 57) ∨ b + 59 ≤ x
def JS (a b x : Nat) : Prop := (a + 103 ≤ x ∧ x < a + 119) ∨ (b + 5 ≤ x ∧ x ≤ b + 12)
theorem Inv_fr {kp : Int32} {a b : Nat} {M M' : Mem} (hI : Inv kp a b M) (h : ∀ x i, x ≠ a + 3 → IS a b x i → M'.1 x i = M.1 x i) (h3 : ∀ i, M'.1 (a + 3) i = M.1 (a + 3) i) (hJ : ∀ x i, JS a b x → M'.2 x i = M.2 x i) (hr : RFr M' a b) : Inv kp a b M' := by
  obtain ⟨⟨ha, hb⟩, hs, ht, -, htw, hk⟩ := hI
  refine ⟨⟨ha, hb⟩, fun s hs2 => SHr_fr (fun i => h _ _ (by omega) (by unfold IS; omega)) (fun i => hJ _ _ (by unfold JS; omega)) (fun j hj => h _ _ (by omega) (by unfold IS; omega)) (fun i => hJ _ _ (by unfold JS; omega)) (hs s hs2), TPr_fr (h _ _ (by omega) (by unfold IS; omega)) (h _ _ (by omega) (by unfold IS; omega)) (fun i => h3 i) (fun i => h _ _ (by omega) (by unfold IS; omega)) ht, hr, TWr_fr (fun x i p q => h _ _ (by omega) (by unfold IS; omega)) (fun x i p q => h _ _ (by omega) (by unfold IS; omega)) (fun i p => h _ _ (by omega) (by unfold IS; omega)) htw, KPr_fr (h _ _ (by omega) (by unfold IS; omega)) (h _ _ (by omega) (by unfold IS; omega)) (fun x i p q => h _ _ (by omega) (by unfold IS; omega)) (fun x i p => h _ _ (by omega) (by unfold IS; omega)) hk⟩
theorem sI_o {M : Mem} {x a i j : Nat} {v : Int32} (h : x ≠ a ∨ j ≠ i) : (sI M a i v).1 x j = M.1 x j := if_neg (by omega)
theorem sI_s {M : Mem} {a i : Nat} {v : Int32} : (sI M a i v).1 a i = v := if_pos ⟨rfl, rfl⟩
theorem sJ_o {M : Mem} {x a i j : Nat} {v : Int64} (h : x ≠ a ∨ j ≠ i) : (sJ M a i v).2 x j = M.2 x j := if_neg (by omega)
theorem sJ_s {M : Mem} {a i : Nat} {v : Int64} : (sJ M a i v).2 a i = v := if_pos ⟨rfl, rfl⟩
/-! refusals -/
def rC (a : Nat) (M : Mem) (w : Nat) : Mem := sI M (a + 102) (w - 2) (M.1 (a + 102) (w - 2) + 1)
def rM (b : Nat) (M : Mem) (w : Nat) : Mem := sI M (b + 17) w (M.1 (b + 17) w + 1)
theorem rfC2 (N : Nat) (M : Mem) (a : Nat) : fX6_refuse N M a (-2) = some (-2, rC a M 2) := rfl
theorem rfC3 (N : Nat) (M : Mem) (a : Nat) : fX6_refuse N M a (-3) = some (-3, rC a M 3) := rfl
theorem rfC4 (N : Nat) (M : Mem) (a : Nat) : fX6_refuse N M a (-4) = some (-4, rC a M 4) := rfl
theorem rfC5 (N : Nat) (M : Mem) (a : Nat) : fX6_refuse N M a (-5) = some (-5, rC a M 5) := rfl
theorem rfC6 (N : Nat) (M : Mem) (a : Nat) : fX6_refuse N M a (-6) = some (-6, rC a M 6) := rfl
theorem rfM2 (N : Nat) (M : Mem) (a : Nat) : fX7_refuse N M a (-2) = some (-2, rM a M 2) := rfl
theorem rfM3 (N : Nat) (M : Mem) (a : Nat) : fX7_refuse N M a (-3) = some (-3, rM a M 3) := rfl
theorem rfM4 (N : Nat) (M : Mem) (a : Nat) : fX7_refuse N M a (-4) = some (-4, rM a M 4) := rfl
theorem rfM5 (N : Nat) (M : Mem) (a : Nat) : fX7_refuse N M a (-5) = some (-5, rM a M 5) := rfl
theorem rfM6 (N : Nat) (M : Mem) (a : Nat) : fX7_refuse N M a (-6) = some (-6, rM a M 6) := rfl
theorem rC_o {a : Nat} {M : Mem} {w x i : Nat} (h : x ≠ a + 102) : (rC a M w).1 x i = M.1 x i := sI_o (Or.inl h)
theorem rM_o {b : Nat} {M : Mem} {w x i : Nat} (h : x ≠ b + 17) : (rM b M w).1 x i = M.1 x i := sI_o (Or.inl h)
theorem Inv_ref {kp : Int32} {a b : Nat} {M : Mem} (hI : Inv kp a b M) {w : Nat} (h2 : 2 ≤ w) (h6 : w ≤ 6) : Inv kp a b (rM b (rC a M w) w) := by
  have hab := hI.1
  refine Inv_fr hI (fun x i hx hi => ?_) (fun i => ?_) (fun _ _ _ => rfl) (fun i hi => ?_)
  · unfold IS at hi
    rw [rM_o (by omega), rC_o (by omega)]
  · rw [rM_o (by omega), rC_o (by omega)]
  · have e := hI.2.2.2.1
    by_cases q : i + 2 = w
    · subst q
      rw [rM_o (by omega)]
      unfold rM rC
      rw [show i + 2 - 2 = i from rfl, sI_s, sI_s, sI_o (by omega), e i hi]
    · rw [rM_o (by omega)]
      unfold rM rC
      rw [sI_o (by omega), sI_o (by omega), sI_o (by omega)]
      exact e i hi
/-- the class's call and the reference's behind it answer alike; the class leaves the reference's cells -/
def Up (b : Nat) (M M1 : Mem) : Prop := ∀ x i, b ≤ x → M1.1 x i = M.1 x i ∧ M1.2 x i = M.2 x i
def Op (kp : Int32) (a b : Nat) (M : Mem) (X : Option (Int32 × Mem)) (Y : Mem → Option (Int32 × Mem)) : Prop := ∃ r M1 M2, X = some (r, M1) ∧ Up b M M1 ∧ Y M1 = some (r, M2) ∧ Inv kp a b M2
theorem Up.rf (b : Nat) (M : Mem) : Up b M M := fun _ _ _ => ⟨rfl, rfl⟩
theorem Up.rC {a b : Nat} {M : Mem} (hab : a = 0 ∧ b = 119) (w : Nat) : Up b M (rC a M w) := fun x i h => ⟨rC_o (by omega), rfl⟩
theorem Op.same {kp : Int32} {a b : Nat} {M : Mem} {X : Option (Int32 × Mem)} {Y : Mem → Option (Int32 × Mem)} (hI : Inv kp a b M) (r : Int32) (hX : X = some (r, M)) (hY : Y M = some (r, M)) : Op kp a b M X Y := ⟨r, M, M, hX, Up.rf b M, hY, hI⟩
theorem Op.ref {kp : Int32} {a b : Nat} {M : Mem} {X : Option (Int32 × Mem)} {Y : Mem → Option (Int32 × Mem)} (hI : Inv kp a b M) {w : Nat} (h2 : 2 ≤ w) (h6 : w ≤ 6) (r : Int32) (hX : X = some (r, rC a M w)) (hY : Y (rC a M w) = some (r, rM b (rC a M w) w)) : Op kp a b M X Y := ⟨r, _, _, hX, Up.rC hI.1 w, hY, Inv_ref hI h2 h6⟩
theorem MV_rC {a b : Nat} {M : Mem} {t n w : Nat} {C : Nat → Nat → Int32} (hab : a = 0 ∧ b = 119) (ht : t < 5) (h : MV M b t n C) : MV (rC a M w) b t n C := MV_fr ht (fun x i p q => rC_o (by omega)) h
theorem kd_street {a t : Nat} (ha : a = 0) (ht : t < 4) : kd (a + 4 + 1 + 11 + 8 * t) = 4 ∧ a + 4 + 1 + 11 + 8 * t + 8 ≤ a + 119 := by
  subst ha
  exact ⟨(by decide +kernel : ∀ t, t < 4 → kd (0 + 4 + 1 + 11 + 8 * t) = 4) t ht, by omega⟩
theorem kd_shelf {a s : Nat} (ha : a = 0) (hs : s < 8) : kd (a + 1 + 102 + 2 * s) = 3 ∧ a + 1 + 102 + 2 * s + 2 ≤ a + 119 := by
  subst ha
  exact ⟨(by decide +kernel : ∀ s, s < 8 → kd (0 + 1 + 102 + 2 * s) = 3) s hs, by omega⟩
theorem streetAt_n {N : Nat} {M : Mem} {tw k : Nat} (h : M.1 tw 3 = nI k) {v : Int32} (hv : v < 0 ∨ nI k ≤ v) : fX5_streetAt N M tw v = some none := by
  unfold fX5_streetAt
  by_cases q : v < 0
  · rw [if_pos q]
  · rw [if_neg q, h, if_pos (hv.resolve_left q)]
theorem streetAt_y {N : Nat} {M : Mem} {tw k t : Nat} (h : M.1 tw 3 = nI k) (hk : k ≤ 4) (ht : t < k) : fX5_streetAt N M tw (nI t) = some (some (tw + 1 + 11 + 8 * t)) := by
  unfold fX5_streetAt
  rw [if_neg (nI_pos (by omega)), h, if_neg (nI_ge ht (by omega)), if_neg (show ¬ (4 : Int32) ≤ nI t from nI_ge (b := 4) (by omega) (by decide)), gd_nI (by omega) (by decide), nI_clamp (by omega)]
theorem tri (v : Int32) {n : Nat} (hn : n < 2 ^ 31) : (v < 0 ∨ nI n ≤ v) ∨ ∃ j, j < n ∧ v = nI j := by
  rcases pk_ix v hn with h | h | h
  · exact Or.inl (Or.inl h)
  · exact Or.inl (Or.inr h)
  · exact Or.inr h
