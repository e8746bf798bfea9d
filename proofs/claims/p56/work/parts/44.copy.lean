/-! ===== a town copied over another ===== -/
noncomputable def cpR (M : Mem) (m m' : Nat) (A : Nat → Nat → Prop) : Mem := (fun x i => @ite _ (m ≤ x ∧ A (x - m) i) (Classical.propDecidable _) (M.1 (m' + (x - m)) i) (M.1 x i), M.2)
theorem cp_in {M : Mem} {m m' o i : Nat} {A : Nat → Nat → Prop} (h : A o i) : (cpR M m m' A).1 (m + o) i = M.1 (m' + o) i := by
  show @ite _ (m ≤ m + o ∧ A (m + o - m) i) (Classical.propDecidable _) (M.1 (m' + (m + o - m)) i) _ = _
  rw [if_pos ⟨by omega, by rw [Nat.add_sub_cancel_left]; exact h⟩, Nat.add_sub_cancel_left]
theorem cp_out {M : Mem} {m m' x i : Nat} {A : Nat → Nat → Prop} (h : m ≤ x → ¬ A (x - m) i) : (cpR M m m' A).1 x i = M.1 x i := if_neg (fun q => h q.1 q.2)
theorem cp_out2 {M : Mem} {m m' o i : Nat} {A : Nat → Nat → Prop} (h : ¬ A o i) : (cpR M m m' A).1 (m + o) i = M.1 (m + o) i := cp_out (fun _ q => h (by rw [Nat.add_sub_cancel_left] at q; exact q))
theorem cp_cong {M : Mem} {m m' : Nat} {A B : Nat → Nat → Prop} (h : ∀ o i, A o i ↔ B o i) : cpR M m m' A = cpR M m m' B := by
  rw [show A = B from funext fun o => funext fun i => propext (h o i)]
theorem cp_none {M : Mem} {m m' : Nat} {A : Nat → Nat → Prop} (h : ∀ o i, ¬ A o i) : cpR M m m' A = M := mem_ext (fun x i => cp_out (fun _ => h _ _)) (fun _ _ => rfl)
def sepB (m m' L : Nat) : Prop := m' + L ≤ m ∨ m + L ≤ m'
def supB (A : Nat → Nat → Prop) (L : Nat) : Prop := ∀ o i, A o i → o < L
theorem cp_src {M : Mem} {m m' o i L : Nat} {A : Nat → Nat → Prop} (hA : supB A L) (hs : sepB m m' L) (ho : o < L) : (cpR M m m' A).1 (m' + o) i = M.1 (m' + o) i := cp_out (fun h q => by
  have := hA _ _ q
  rcases hs with hs | hs <;> omega)
/-- what a memory holds that copies a region over another -/
theorem cp_is {M X : Mem} {m m' : Nat} {A : Nat → Nat → Prop} (h1 : ∀ o i, A o i → X.1 (m + o) i = M.1 (m' + o) i) (h2 : ∀ x i, (m ≤ x → ¬ A (x - m) i) → X.1 x i = M.1 x i) (h3 : ∀ x i, X.2 x i = M.2 x i) : X = cpR M m m' A := mem_ext (fun x i => by
  by_cases q : m ≤ x ∧ A (x - m) i
  · have a := h1 (x - m) i q.2
    have e : m + (x - m) = x := by omega
    have c := cp_in (M := M) (m := m) (m' := m') q.2
    rw [e] at a c
    rw [a, c]
  · rw [cp_out (fun h r => q ⟨h, r⟩), h2 x i (fun h r => q ⟨h, r⟩)]) (fun x i => h3 x i)
theorem cp_sI {M : Mem} {m m' o i L : Nat} {A : Nat → Nat → Prop} (hA : supB A L) (hs : sepB m m' L) (ho : o < L) : sI (cpR M m m' A) (m + o) i ((cpR M m m' A).1 (m' + o) i) = cpR M m m' (fun o' i' => A o' i' ∨ (o' = o ∧ i' = i)) := by
  rw [cp_src hA hs ho]
  refine cp_is (fun o' i' h => ?_) (fun x j h => ?_) (fun _ _ => rfl)
  · by_cases q : o' = o ∧ i' = i
    · obtain ⟨rfl, rfl⟩ := q; rw [sI_s]
    · rw [sI_o (by omega)]
      exact cp_in (h.resolve_right q)
  · by_cases q : m ≤ x
    · have h' := h q
      rw [sI_o (by omega)]
      exact cp_out (fun _ z => h' (Or.inl z))
    · rw [sI_o (by omega)]
      exact cp_out (fun z => absurd z q)
theorem cp_fI {M : Mem} {m m' o len L : Nat} {A : Nat → Nat → Prop} (hA : supB A L) (hs : sepB m m' L) (ho : o < L) : fI (cpR M m m' A) (m + o) (upto ((cpR M m m' A).1 (m' + o)) ((cpR M m m' A).1 (m + o)) len) = cpR M m m' (fun o' i' => A o' i' ∨ (o' = o ∧ i' < len)) := by
  refine cp_is (fun o' i' h => ?_) (fun x j h => ?_) (fun _ _ => rfl)
  · by_cases q : o' = o
    · subst q
      rw [fI_s]
      by_cases r : i' < len
      · rw [upto_in r, cp_src hA hs ho]
      · rw [upto_out (by omega)]; exact cp_in (h.resolve_right (fun z => r z.2))
    · rw [fI_o (by omega)]
      exact cp_in (h.resolve_right (fun z => q z.1))
  · by_cases q : m ≤ x
    · have h' := h q
      by_cases r : x = m + o
      · subst r
        rw [fI_s, upto_out (by
          rcases Nat.lt_or_ge j len with z | z
          · exact absurd (Or.inr ⟨by omega, z⟩) h'
          · exact z)]
        exact cp_out (fun _ z => h' (Or.inl z))
      · rw [fI_o r]; exact cp_out (fun _ z => h' (Or.inl z))
    · rw [fI_o (by omega)]; exact cp_out (fun z => absurd z q)
theorem cpy_upto (f g : Nat → Int32) (len : Nat) : va_cpy f g 0 0 len = upto f g len := funext fun i => by
  unfold upto
  by_cases h : i < len
  · rw [if_pos h, pk_cpy_in (by omega) (by omega)]; congr 1; omega
  · rw [if_neg h, pk_cpy_out (by omega)]
/-- a street's cells -/
def SB (o i : Nat) : Prop := (o = 0 ∧ (i = 7 ∨ i = 8 ∨ i = 9)) ∨ (o = 6 ∧ i < 144) ∨ (1 ≤ o ∧ o ≤ 7 ∧ o ≠ 6 ∧ i < 12)
theorem cp_street {N : Nat} {M : Mem} {m m' e L : Nat} {A : Nat → Nat → Prop} (hA : supB A L) (hs : sepB m m' L) (he : e + 8 ≤ L) : fX4_become N (cpR M m m' A) (m + e) (m' + e) = some (cpR M m m' (fun o i => A o i ∨ (e ≤ o ∧ o ≤ e + 7 ∧ SB (o - e) i))) := by
  rw [become_c (C := fun j i => (cpR M m m' A).1 (m' + e + j) i) (fun j hj i => rfl) (by rcases hs with hs | hs <;> omega)]
  congr 1
  have hso : ∀ j, j ≤ 7 → ∀ i, (cpR M m m' A).1 (m' + e + j) i = M.1 (m' + e + j) i := fun j hj i => by
    rw [Nat.add_assoc]; exact cp_src hA hs (by omega)
  refine cp_is (fun o i h => ?_) (fun x i h => ?_) (fun _ _ => rfl)
  · by_cases q : e ≤ o ∧ o ≤ e + 7
    · obtain ⟨j, rfl⟩ : ∃ j, o = e + j := ⟨o - e, by omega⟩
      have v := wC_CV (cpR M m m' A) (m + e) (beC (fun j i => (cpR M m m' A).1 (m' + e + j) i) (fun j i => (cpR M m m' A).1 (m + e + j) i)) j (by omega) i
      rw [← Nat.add_assoc, v]
      have hj : j ≤ 7 := by omega
      rw [Nat.add_sub_cancel_left] at h
      unfold beC beL
      by_cases sb : SB j i
      · unfold SB at sb
        by_cases j0 : j = 0
        · subst j0
          rw [if_pos rfl, if_pos (by omega)]
          show (cpR M m m' A).1 (m' + e + 0) i = _
          rw [hso 0 (by omega), Nat.add_assoc]
        · rw [if_neg j0, cpy_upto]
          rw [upto_in (by by_cases j6 : j = 6 <;> simp only [j6, if_true, if_false] <;> omega)]
          show (cpR M m m' A).1 (m' + e + j) i = _
          rw [hso j hj, Nat.add_assoc]
      · have hA' : A (e + j) i := h.resolve_right (fun z => sb z.2.2)
        have hin : (cpR M m m' A).1 (m + e + j) i = M.1 (m' + (e + j)) i := by rw [Nat.add_assoc]; exact cp_in hA'
        unfold SB at sb
        by_cases j0 : j = 0
        · subst j0
          rw [if_pos rfl, if_neg (by omega)]
          exact hin
        · rw [if_neg j0, cpy_upto, upto_out (by by_cases j6 : j = 6 <;> simp only [j6, if_true, if_false] <;> omega)]
          exact hin
    · rw [wC_o (by omega)]
      exact cp_in (h.resolve_right (fun z => q ⟨z.1, z.2.1⟩))
  · by_cases q : m + e ≤ x ∧ x ≤ m + e + 7
    · have h' := h (by omega)
      obtain ⟨j, rfl⟩ : ∃ j, x = m + e + j := ⟨x - (m + e), by omega⟩
      rw [wC_CV _ _ _ j (by omega) i]
      have hj : j ≤ 7 := by omega
      have ej : m + e + j - m = e + j := by omega
      rw [ej] at h'
      have sb : ¬ SB j i := fun z => h' (Or.inr ⟨by omega, by omega, by rw [Nat.add_sub_cancel_left]; exact z⟩)
      have hA' : ¬ A (e + j) i := fun z => h' (Or.inl z)
      have hin : (cpR M m m' A).1 (m + e + j) i = M.1 (m + e + j) i := by rw [Nat.add_assoc]; exact cp_out2 hA'
      unfold SB at sb
      unfold beC beL
      by_cases j0 : j = 0
      · subst j0
        rw [if_pos rfl, if_neg (by omega)]
        exact hin
      · rw [if_neg j0, cpy_upto, upto_out (by by_cases j6 : j = 6 <;> simp only [j6, if_true, if_false] <;> omega)]
        exact hin
    · rw [wC_o (by omega)]
      exact cp_out (fun z w => h z (Or.inl w))
/-! the class's town -/
def TB (k o i : Nat) : Prop := (o = 0 ∧ (i = 3 ∨ i = 4)) ∨ (o = 2 ∧ i < 6) ∨ (o = 3 ∧ 1 ≤ i ∧ i ≤ 5) ∨ (4 ≤ o ∧ o ≤ 4 + 7 ∧ SB (o - 4) i) ∨ (12 ≤ o ∧ o < 12 + 8 * k ∧ SB ((o - 12) % 8) i)
theorem i6c : (6 : Int32).toNatClampNeg = 6 := rfl
theorem hunt_cp {N : Nat} {M : Mem} {tw sw : Nat} {A : Nat → Nat → Prop} (hA : supB A 44) (hs : sepB tw sw 44) (hu : M.1 (sw + 3) 1 = 0 ∨ M.1 (sw + 3) 1 = 1) : fX2_become N (cpR M tw sw A) (tw + 3) (sw + 3) = some (cpR M tw sw (fun o i => A o i ∨ (4 ≤ o ∧ o ≤ 4 + 7 ∧ SB (o - 4) i) ∨ (o = 3 ∧ 1 ≤ i ∧ i ≤ 5))) := by
  unfold fX2_become
  have e1 : fX4_become N (cpR M tw sw A) (tw + 3 + 1) (sw + 3 + 1) = some (cpR M tw sw (fun o i => A o i ∨ (4 ≤ o ∧ o ≤ 4 + 7 ∧ SB (o - 4) i))) := cp_street (e := 4) hA hs (by decide)
  have hB : ∀ j, supB (fun o i => (A o i ∨ (4 ≤ o ∧ o ≤ 4 + 7 ∧ SB (o - 4) i)) ∨ (o = 3 ∧ 1 ≤ i ∧ i ≤ j)) 44 := fun j o i h => by
    rcases h with (h | h) | h
    · exact hA o i h
    · omega
    · omega
  have hB0 : supB (fun o i => A o i ∨ (4 ≤ o ∧ o ≤ 4 + 7 ∧ SB (o - 4) i)) 44 := fun o i h => by
    rcases h with h | h
    · exact hA o i h
    · omega
  rw [e1, bd_some, gc_of (by rw [cp_src hB0 hs (by decide)]; exact hu)]
  have step : ∀ j, sI (cpR M tw sw (fun o i => (A o i ∨ (4 ≤ o ∧ o ≤ 4 + 7 ∧ SB (o - 4) i)) ∨ (o = 3 ∧ 1 ≤ i ∧ i ≤ j))) (tw + 3) (j + 1) ((cpR M tw sw (fun o i => (A o i ∨ (4 ≤ o ∧ o ≤ 4 + 7 ∧ SB (o - 4) i)) ∨ (o = 3 ∧ 1 ≤ i ∧ i ≤ j))).1 (sw + 3) (j + 1)) = cpR M tw sw (fun o i => (A o i ∨ (4 ≤ o ∧ o ≤ 4 + 7 ∧ SB (o - 4) i)) ∨ (o = 3 ∧ 1 ≤ i ∧ i ≤ j + 1)) := fun j => by
    rw [cp_sI (hB j) hs (by decide)]
    refine cp_cong (fun o i => ?_)
    constructor
    · rintro ((h | h) | h)
      · exact Or.inl h
      · exact Or.inr (by omega)
      · exact Or.inr (by omega)
    · rintro (h | h)
      · exact Or.inl (Or.inl h)
      · by_cases q : i = j + 1
        · exact Or.inr ⟨h.1, q⟩
        · exact Or.inl (Or.inr (by omega))
  have s0 : cpR M tw sw (fun o i => A o i ∨ (4 ≤ o ∧ o ≤ 4 + 7 ∧ SB (o - 4) i)) = cpR M tw sw (fun o i => (A o i ∨ (4 ≤ o ∧ o ≤ 4 + 7 ∧ SB (o - 4) i)) ∨ (o = 3 ∧ 1 ≤ i ∧ i ≤ 0)) := cp_cong (fun o i => ⟨Or.inl, fun h => h.resolve_right (by omega)⟩)
  have t1 := step 0
  have t2 := step 1
  have t3 := step 2
  have t4 := step 3
  have t5 := step 4
  rw [s0, nm_eq, t1, nm_eq, t2, nm_eq, t3, nm_eq, t4, nm_eq, t5]
  show some _ = _
  congr 1
  exact cp_cong (fun o i => ⟨fun h => by rcases h with (h | h) | h; exact Or.inl h; exact Or.inr (Or.inl h); exact Or.inr (Or.inr h), fun h => by rcases h with h | h | h; exact Or.inl (Or.inl h); exact Or.inl (Or.inr h); exact Or.inr h⟩)
theorem town_c {N : Nat} {M : Mem} {tw sw k : Nat} (hs : sepB tw sw 44) (hk : M.1 sw 3 = nI k) (hk4 : k ≤ 4) (hu : M.1 (sw + 3) 1 = 0 ∨ M.1 (sw + 3) 1 = 1) (hN : 4097 < N) : fX5_become N M tw sw = some (cpR M tw sw (TB k)) := by
  have hA : ∀ r, r ≤ 4 → supB (fun o i => 12 ≤ o ∧ o < 12 + 8 * r ∧ SB ((o - 12) % 8) i) 44 := fun r hr o i h => by omega
  have hsz : ∀ r, r ≤ 4 → (cpR M tw sw (fun o i => 12 ≤ o ∧ o < 12 + 8 * r ∧ SB ((o - 12) % 8) i)).1 sw 3 = nI k := fun r hr => (cp_src (o := 0) (hA r hr) hs (by decide)).trans hk
  unfold fX5_become
  obtain ⟨j, hj⟩ := lp (fun j (s : Mem × Int32) => fX5_become_2 N tw sw j s.1 s.2) (fun r => (cpR M tw sw (fun o i => 12 ≤ o ∧ o < 12 + 8 * r ∧ SB ((o - 12) % 8) i), nI r)) k (fun j r hr => by
    show fX5_become_2 N tw sw (j + 1) (cpR M tw sw (fun o i => 12 ≤ o ∧ o < 12 + 8 * r ∧ SB ((o - 12) % 8) i)) (nI r) = fX5_become_2 N tw sw j (cpR M tw sw (fun o i => 12 ≤ o ∧ o < 12 + 8 * (r + 1) ∧ SB ((o - 12) % 8) i)) (nI (r + 1))
    have e1 : fX4_become N (cpR M tw sw (fun o i => 12 ≤ o ∧ o < 12 + 8 * r ∧ SB ((o - 12) % 8) i)) (tw + 1 + 11 + 8 * r) (sw + 1 + 11 + 8 * r) = some (cpR M tw sw (fun o i => 12 ≤ o ∧ o < 12 + 8 * (r + 1) ∧ SB ((o - 12) % 8) i)) := by
      rw [show tw + 1 + 11 + 8 * r = tw + (12 + 8 * r) by omega, show sw + 1 + 11 + 8 * r = sw + (12 + 8 * r) by omega, cp_street (e := 12 + 8 * r) (hA r (by omega)) hs (by omega)]
      congr 1
      refine cp_cong (fun o i => ?_)
      constructor
      · rintro (h | h)
        · exact ⟨h.1, by omega, h.2.2⟩
        · refine ⟨by omega, by omega, ?_⟩
          rw [show (o - 12) % 8 = o - (12 + 8 * r) by omega]; exact h.2.2
      · rintro ⟨h1, h2, h3⟩
        by_cases q : o < 12 + 8 * r
        · exact Or.inl ⟨h1, q, h3⟩
        · refine Or.inr ⟨by omega, by omega, ?_⟩
          rw [show (o - 12) % 8 = o - (12 + 8 * r) by omega] at h3; exact h3
    rw [fX5_become_2, hsz r (by omega), if_neg (nI_ge hr (by omega)), if_neg (show ¬ (4 : Int32) ≤ nI r from nI_ge (b := 4) (by omega) (by omega)), gd_nI (by omega) (by decide), nI_clamp (by omega), e1, bd_some, nI_1]) (N := N) (by omega)
  refine Eq.trans ?_ (hj.trans ?_)
  · show fX5_become_2 N tw sw N M 0 = fX5_become_2 N tw sw N (cpR M tw sw (fun o i => 12 ≤ o ∧ o < 12 + 8 * 0 ∧ SB ((o - 12) % 8) i)) (nI 0)
    rw [cp_none (fun o i h => by omega)]; rfl
  · show fX5_become_2 N tw sw (j + 1) (cpR M tw sw (fun o i => 12 ≤ o ∧ o < 12 + 8 * k ∧ SB ((o - 12) % 8) i)) (nI k) = _
    have hB1 : supB (fun o i => (12 ≤ o ∧ o < 12 + 8 * k ∧ SB ((o - 12) % 8) i) ∨ (o = 2 ∧ i < 6)) 44 := fun o i h => by
      rcases h with h | h <;> omega
    have hB2 : supB (fun o i => ((12 ≤ o ∧ o < 12 + 8 * k ∧ SB ((o - 12) % 8) i) ∨ (o = 2 ∧ i < 6)) ∨ (4 ≤ o ∧ o ≤ 4 + 7 ∧ SB (o - 4) i) ∨ (o = 3 ∧ 1 ≤ i ∧ i ≤ 5)) 44 := fun o i h => by
      rcases h with (h | h) | h | h <;> omega
    have hB3 : supB (fun o i => (((12 ≤ o ∧ o < 12 + 8 * k ∧ SB ((o - 12) % 8) i) ∨ (o = 2 ∧ i < 6)) ∨ (4 ≤ o ∧ o ≤ 4 + 7 ∧ SB (o - 4) i) ∨ (o = 3 ∧ 1 ≤ i ∧ i ≤ 5)) ∨ (o = 0 ∧ i = 3)) 44 := fun o i h => by
      rcases h with ((h | h) | h | h) | h <;> omega
    have t1 := cp_fI (M := M) (o := 2) (len := 6) (hA k hk4) hs (by decide)
    have t2 := hunt_cp (N := N) (M := M) hB1 hs hu
    have t3 := cp_sI (M := M) (o := 0) (i := 3) hB2 hs (by decide)
    have t4 := cp_sI (M := M) (o := 0) (i := 4) hB3 hs (by decide)
    simp only [Nat.add_zero] at t3 t4
    rw [fX5_become_2, hsz k hk4, if_pos (nI_le (Nat.le_refl k) (by omega)), gc_of (by decide), nm_eq, i0c, i6c, cpy_upto, t1, t2, bd_some, nm_eq, t3, nm_eq, t4]
    congr 1
    refine cp_cong (fun o i => ?_)
    unfold TB
    constructor
    · rintro ((((h | h) | h | h) | h) | h)
      · exact Or.inr (Or.inr (Or.inr (Or.inr h)))
      · exact Or.inr (Or.inl h)
      · exact Or.inr (Or.inr (Or.inr (Or.inl h)))
      · exact Or.inr (Or.inr (Or.inl h))
      · exact Or.inl (by omega)
      · exact Or.inl (by omega)
    · rintro (h | h | h | h | h)
      · rcases h.2 with r | r
        · exact Or.inl (Or.inr ⟨h.1, r⟩)
        · exact Or.inr ⟨h.1, r⟩
      · exact Or.inl (Or.inl (Or.inl (Or.inr h)))
      · exact Or.inl (Or.inl (Or.inr (Or.inr h)))
      · exact Or.inl (Or.inl (Or.inr (Or.inl h)))
      · exact Or.inl (Or.inl (Or.inl (Or.inl h)))
