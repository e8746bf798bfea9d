/-! ===== a street taken over; ties tried ===== -/
theorem i0c : (0 : Int32).toNatClampNeg = 0 := rfl
theorem i12c : (12 : Int32).toNatClampNeg = 12 := rfl
theorem i144c : (144 : Int32).toNatClampNeg = 144 := rfl
/-- the same persons, ties, prices -/
def EqV (C T : Nat → Nat → Int32) : Prop :=
  T 0 7 = C 0 7 ∧ T 0 8 = C 0 8 ∧ T 0 9 = C 0 9 ∧ (∀ j i, (1 ≤ j ∧ j ≤ 5) ∨ j = 7 → i < 12 → T j i = C j i) ∧ (∀ i, i < 144 → T 6 i = C 6 i)
theorem EqV.rf (C : Nat → Nat → Int32) : EqV C C := ⟨rfl, rfl, rfl, fun _ _ _ _ => rfl, fun _ _ => rfl⟩
theorem RC_eq {n : Nat} {C T : Nat → Nat → Int32} (h : EqV C T) (hC : RC n C) : RC n T := by
  obtain ⟨e7, e8, e9, ea, e6⟩ := h
  obtain ⟨⟨hn1, hn⟩, h2, h3, h4, h5, h6, h7, h8⟩ := hC
  refine ⟨⟨hn1, hn⟩, by rw [e7, h2], by rw [e8]; exact h3, by rw [e9]; exact h4, fun p hp => ?_, fun p hp q hq => ?_, fun p hp q hq => ?_, fun p hp => ?_⟩
  · rw [ea 1 p (by omega) (by omega), ea 2 p (by omega) (by omega)]; exact h5 p hp
  · rw [ea 3 p (by omega) hp] at hq
    obtain ⟨a1, a2, a3, a4⟩ := h6 p hp q hq
    exact ⟨a1, a2, a3, by rw [ea 3 q (by omega) (by omega)]; exact a4⟩
  · rw [e6 _ (by omega), e6 _ (by omega), ea 3 p (by omega) hp]; exact h7 p hp q hq
  · rw [ea 7 p (by omega) hp, h8 p hp]
    exact isum_cong (fun q hq => by rw [e6 _ (by omega)])
theorem MV_eq {M : Mem} {m t n : Nat} {C T : Nat → Nat → Int32} (h : EqV C T) (hn : n ≤ 12) (hM : MV M m t n C) : MV M m t n T := by
  obtain ⟨e7, e8, e9, ea, e6⟩ := h
  obtain ⟨h1, h2, h3, h4, h5, h6⟩ := hM
  exact ⟨h1, by rw [e8]; exact h2, by rw [e9]; exact h3, fun p hp => by rw [ea 1 p (by omega) (by omega), ea 2 p (by omega) (by omega)]; exact h4 p hp, fun p hp => by rw [ea 3 p (by omega) hp]; exact h5 p hp, fun k hk => by rw [e6 k hk]; exact h6 k hk⟩
theorem gS_eq {C T : Nat → Nat → Int32} (h : EqV C T) {p : Nat} (hp : p < 12) (d : Int32) : gS T p d = gS C p d := by
  obtain ⟨e7, e8, e9, ea, e6⟩ := h
  unfold gS hel
  rw [e8, ea 1 p (by omega) hp, ea 2 p (by omega) hp, ea 3 p (by omega) hp, ea 7 p (by omega) hp]
def beL (j : Nat) : Nat := if j = 6 then 144 else 12
def beC (C O : Nat → Nat → Int32) : Nat → Nat → Int32 := fun j i => if j = 0 then (if i = 7 ∨ i = 8 ∨ i = 9 then C 0 i else O 0 i) else va_cpy (C j) (O j) 0 0 (beL j) i
theorem be_eq (C O : Nat → Nat → Int32) : EqV C (beC C O) := by
  refine ⟨rfl, rfl, rfl, fun j i hj hi => ?_, fun i hi => ?_⟩
  · unfold beC beL
    rw [if_neg (by omega), if_neg (by omega), pk_cpy_in (by omega) (by omega)]
    congr 1; omega
  · unfold beC beL
    rw [if_neg (by omega), if_pos rfl, pk_cpy_in (by omega) (by omega)]
    congr 1; omega
theorem cpy_cong {f f' g g' : Nat → Int32} {n i : Nat} (hf : ∀ i, f i = f' i) (hg : ∀ i, g i = g' i) : va_cpy f g 0 0 n i = va_cpy f' g' 0 0 n i := by
  rw [funext hf, funext hg]
theorem become_c {N : Nat} {M : Mem} {c q : Nat} {C : Nat → Nat → Int32} (hV : CV M q C) (hq : q + 7 < c ∨ c + 7 < q) : fX4_become N M c q = some (wC M c (beC C (fun j i => M.1 (c + j) i))) := by
  unfold fX4_become
  rw [nm_eq, nm_eq, nm_eq, gc_of (by decide), nm_eq, gc_of (by decide), nm_eq, gc_of (by decide), nm_eq, gc_of (by decide), nm_eq, gc_of (by decide), nm_eq, gc_of (by decide), nm_eq, gc_of (by decide), nm_eq, i0c, i12c, i144c]
  congr 1
  refine wC_is (fun j hj i => ?_) (fun x i h => ?_) (fun _ _ => rfl)
  · have q0 : M.1 q 7 = C 0 7 := CV0 hV 7
    have h8 : j = 0 ∨ j = 1 ∨ j = 2 ∨ j = 3 ∨ j = 4 ∨ j = 5 ∨ j = 6 ∨ j = 7 := by omega
    unfold beC beL
    rcases h8 with rfl | rfl | rfl | rfl | rfl | rfl | rfl | rfl
    · rw [fI_o (by omega), fI_o (by omega), fI_o (by omega), fI_o (by omega), fI_o (by omega), fI_o (by omega), fI_o (by omega), if_pos rfl]
      by_cases h9 : i = 9
      · subst h9
        rw [if_pos (by omega)]
        show (sI _ c 9 _).1 c 9 = _
        rw [sI_s, sI_o (by omega), sI_o (by omega), CV0 hV]
      · by_cases h8 : i = 8
        · subst h8
          rw [if_pos (by omega)]
          show (sI _ c 9 _).1 c 8 = _
          rw [sI_o (by omega), sI_s, sI_o (by omega), CV0 hV]
        · by_cases h7 : i = 7
          · subst h7
            rw [if_pos (by omega)]
            show (sI _ c 9 _).1 c 7 = _
            rw [sI_o (by omega), sI_o (by omega), sI_s, CV0 hV]
          · rw [if_neg (by omega), sI_o (by omega), sI_o (by omega), sI_o (by omega)]
    all_goals
      rw [if_neg (by omega)]
      repeat rw [fI_o (by omega)]
      rw [fI_s]
      refine cpy_cong (fun i => ?_) (fun i => ?_)
      · repeat rw [fI_o (by omega)]
        rw [sI_o (by omega), sI_o (by omega), sI_o (by omega), hV _ (by decide)]
      · repeat rw [fI_o (by omega)]
        rw [sI_o (by omega), sI_o (by omega), sI_o (by omega)]
  · rw [fI_o (by omega), fI_o (by omega), fI_o (by omega), fI_o (by omega), fI_o (by omega), fI_o (by omega), fI_o (by omega), sI_o (by omega), sI_o (by omega), sI_o (by omega)]
/-! a tie tried and taken back leaves all as it was -/
theorem tg_tg {C : Nat → Nat → Int32} {n p q : Nat} {A B v : Int32} (hC : RC n C) (hp : p < n) (hq : q < n) (hpq : p ≠ q) {j i : Nat} (hj : j ≤ 7) {A' B' : Int32} (hA : A' = C 3 p) (hB : B' = C 3 q) : tgC (tgC C p q A B v) p q A' B' (C 6 (12 * p + q)) j i = C j i := by
  have hn := hC.1.2
  have hs := (hC.2.2.2.2.2.2.1 p (by omega) q (by omega)).2.1
  by_cases h3 : j = 3
  · subst h3
    rw [tg_3, tg_3]
    by_cases h1 : i = q
    · rw [if_pos h1, hB, h1]
    · rw [if_neg h1]
      by_cases h2 : i = p
      · rw [if_pos h2, hA, h2]
      · rw [if_neg h2, if_neg h1, if_neg h2]
  · by_cases h6 : j = 6
    · subst h6
      rw [tg_6, tg_6]
      by_cases h1 : i = 12 * q + p ∨ i = 12 * p + q
      · rw [if_pos h1]
        rcases h1 with h1 | h1
        · rw [h1, hs]
        · rw [h1]
      · rw [if_neg h1, if_neg h1]
    · by_cases h7 : j = 7
      · subst h7
        rw [tg_7, tg_7, tg_7, tg_6, tg_6, if_pos (Or.inl rfl), if_pos (Or.inr rfl), tg_7]
        by_cases h1 : i = q
        · subst h1
          rw [if_pos rfl, if_pos rfl, hs]; grind
        · rw [if_neg h1]
          by_cases h2 : i = p
          · subst h2
            rw [if_pos rfl, if_neg hpq, if_pos rfl]; grind
          · rw [if_neg h2, if_neg h1, if_neg h2]
      · rw [tg_0 ⟨h3, h6, h7⟩, tg_0 ⟨h3, h6, h7⟩]
theorem off_or {x : Int32} {q : Nat} (hq : q < 32) (h : bt x q = true) : (x &&& (nI (2 ^ q) ^^^ (-1))) ||| nI (2 ^ q) = x := by
  apply b_ext; intro i _
  rw [or_bits _ hq, off_bits _ hq]
  by_cases r : i = q
  · rw [if_pos r, r, h]
  · rw [if_neg r, if_neg r]
theorem or_off2 {x : Int32} {q : Nat} (hq : q < 32) (h : bt x q = false) : (x ||| nI (2 ^ q)) &&& (nI (2 ^ q) ^^^ (-1)) = x := by
  apply b_ext; intro i _
  rw [off_bits _ hq, or_bits _ hq]
  by_cases r : i = q
  · rw [if_pos r, r, h]
  · rw [if_neg r, if_neg r]
theorem near_sym {n p q : Nat} {C : Nat → Nat → Int32} (hC : RC n C) (hp : p < n) (hq : q < n) : bt (C 3 q) p = bt (C 3 p) q := by
  have hn := hC.1.2
  cases e : bt (C 3 p) q
  · cases e2 : bt (C 3 q) p
    · rfl
    · rw [(hC.2.2.2.2.2.1 q (by omega) p e2).2.2.2] at e; cases e
  · exact (hC.2.2.2.2.2.1 p (by omega) q e).2.2.2
theorem pt_jn {C : Nat → Nat → Int32} {n p q : Nat} (hC : RC n C) (hp : p < n) (hq : q < n) (hpq : p ≠ q) (h : bt (C 3 p) q = true) : ∀ j, j ≤ 7 → ∀ i, jnC (ptC C p q) p q (C 6 (12 * p + q)) j i = C j i := by
  have hn := hC.1.2
  intro j hj i
  unfold jnC
  have e1 : ptC C p q 3 p = C 3 p &&& (nI (2 ^ q) ^^^ (-1)) := by unfold ptC; rw [tg_3, if_neg hpq, if_pos rfl]
  have e2 : ptC C p q 3 q = C 3 q &&& (nI (2 ^ p) ^^^ (-1)) := by unfold ptC; rw [tg_3, if_pos rfl]
  rw [e1, e2]
  exact tg_tg hC hp hq hpq hj (off_or (by omega) h) (off_or (by omega) (by rw [near_sym hC hp hq]; exact h))
theorem jn_pt {C : Nat → Nat → Int32} {n p q : Nat} {v : Int32} (hC : RC n C) (hp : p < n) (hq : q < n) (hpq : p ≠ q) (h : bt (C 3 p) q = false) : ∀ j, j ≤ 7 → ∀ i, ptC (jnC C p q v) p q j i = C j i := by
  have hn := hC.1.2
  intro j hj i
  unfold ptC
  have e1 : jnC C p q v 3 p = C 3 p ||| nI (2 ^ q) := by unfold jnC; rw [tg_3, if_neg hpq, if_pos rfl]
  have e2 : jnC C p q v 3 q = C 3 q ||| nI (2 ^ p) := by unfold jnC; rw [tg_3, if_pos rfl]
  have e0 : C 6 (12 * p + q) = 0 := (hC.2.2.2.2.2.2.1 p (by omega) q (by omega)).1 h
  rw [e1, e2]
  have a := tg_tg (A := C 3 p ||| nI (2 ^ q)) (B := C 3 q ||| nI (2 ^ p)) (v := v) hC hp hq hpq hj (i := i) (or_off2 (q := q) (by omega) h) (or_off2 (q := p) (by omega) (by rw [near_sym hC hp hq]; exact h))
  rw [e0] at a
  exact a
/-- the reference's cells likewise -/
theorem tgM_tgM {M : Mem} {m t n p q : Nat} {C : Nat → Nat → Int32} {A B v A' B' : Int32} (hM : MV M m t n C) (hC : RC n C) (hp : p < n) (hq : q < n) (hpq : p ≠ q) (hA : A' = C 3 p) (hB : B' = C 3 q) : tgM (tgM M m t p q A B v) m t p q A' B' (C 6 (12 * p + q)) = M := mem_ext (fun x i => by
  have hn := hC.1.2
  have hs := (hC.2.2.2.2.2.2.1 p (by omega) q (by omega)).2.1
  by_cases h3 : x = m + 33 + 1 + t
  · subst h3
    rw [tgM_3, tgM_3]
    by_cases h1 : i = q
    · rw [if_pos h1, hB, h1, hM.2.2.2.2.1 q (by omega)]
    · rw [if_neg h1]
      by_cases h2 : i = p
      · rw [if_pos h2, hA, h2, hM.2.2.2.2.1 p (by omega)]
      · rw [if_neg h2, if_neg h1, if_neg h2]
  · by_cases h6 : x = m + 39 + 1 + t
    · subst h6
      rw [tgM_6, tgM_6]
      by_cases h1 : i = 12 * q + p ∨ i = 12 * p + q
      · rw [if_pos h1]
        rcases h1 with h1 | h1
        · rw [h1, hM.2.2.2.2.2 _ (by omega), hs]
        · rw [h1, hM.2.2.2.2.2 _ (by omega)]
      · rw [if_neg h1, if_neg h1]
    · rw [tgM_o h3 h6, tgM_o h3 h6]) (fun _ _ => rfl)
/-! the first pair -/
def inP (P : Nat → Nat → Bool) (p : Nat) : Nat → Bool := fun i => P p (p + 1 + i)
def ouP (P : Nat → Nat → Bool) (n : Nat) : Nat → Bool := fun p => decide (fa_first (inP P p) (n - (p + 1)) < n - (p + 1))
def prR {R : Type} (P : Nat → Nat → Bool) (n : Nat) (Y : Nat → Nat → R) (E : R) : R := if fa_first (ouP P n) n < n then Y (fa_first (ouP P n) n) (fa_first (ouP P n) n + 1 + fa_first (inP P (fa_first (ouP P n) n)) (n - (fa_first (ouP P n) n + 1))) else E
theorem lp_pair {R : Type} (F1 : Nat → Mem → Int32 → Option R) (F2 : Int32 → (Mem → Option R) → Nat → Mem → Int32 → Option R) (M : Mem) (n : Nat) (P : Nat → Nat → Bool) (Y : Nat → Nat → Option R) (E : Option R) {N : Nat} (hn : n < N)
    (h1 : ∀ k p, p < n → F1 (k + 1) M (nI p) = F2 (nI p) (fun My => F1 k My (nI (p + 1))) N M (nI (p + 1)))
    (h1e : ∀ k, F1 (k + 1) M (nI n) = E)
    (h2n : ∀ p K k q, p < q → q < n → P p q = false → F2 (nI p) K (k + 1) M (nI q) = F2 (nI p) K k M (nI (q + 1)))
    (h2y : ∀ p K k q, p < q → q < n → P p q = true → F2 (nI p) K (k + 1) M (nI q) = Y p q)
    (h2e : ∀ p K k, p < n → F2 (nI p) K (k + 1) M (nI n) = K M) : F1 N M 0 = prR P n Y E := by
  have inner : ∀ p K, p < n → F2 (nI p) K N M (nI (p + 1)) = if fa_first (inP P p) (n - (p + 1)) < n - (p + 1) then Y p (p + 1 + fa_first (inP P p) (n - (p + 1))) else K M := by
    intro p K hp
    refine lp_first (fun k (s : Int32) => F2 (nI p) K k M s) (fun i => nI (p + 1 + i)) (inP P p) (n - (p + 1)) (fun i => Y p (p + 1 + i)) (K M) (fun k i hi h => ?_) (fun k i hi h => ?_) (fun k => ?_) (N := N) (by omega)
    · exact h2n p K k (p + 1 + i) (by omega) (by omega) h
    · exact h2y p K k (p + 1 + i) (by omega) (by omega) h
    · show F2 (nI p) K (k + 1) M (nI (p + 1 + (n - (p + 1)))) = K M
      rw [show p + 1 + (n - (p + 1)) = n by omega]
      exact h2e p K k hp
  have a := lp_first (fun k (s : Int32) => F1 k M s) nI (ouP P n) n (fun p => Y p (p + 1 + fa_first (inP P p) (n - (p + 1)))) E (fun k p hp h => by
    show F1 (k + 1) M (nI p) = F1 k M (nI (p + 1))
    rw [h1 k p hp, inner p _ hp, if_neg (of_decide_eq_false h)]) (fun k p hp h => by
    show F1 (k + 1) M (nI p) = _
    rw [h1 k p hp, inner p _ hp, if_pos (of_decide_eq_true h)]) (fun k => h1e k) (N := N) hn
  exact a
def prS (p q : Nat) : Int32 := 100 * nI p + nI q
theorem prR_map {R S : Type} (g : R → S) (P : Nat → Nat → Bool) (n : Nat) (Y : Nat → Nat → R) (E : R) : prR P n (fun p q => g (Y p q)) (g E) = g (prR P n Y E) := by
  unfold prR
  by_cases h : fa_first (ouP P n) n < n
  · rw [if_pos h, if_pos h]
  · rw [if_neg h, if_neg h]
