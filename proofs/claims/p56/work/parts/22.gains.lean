/-! ===== a street: what its persons, ties and prices say ===== -/
def hel (C : Nat → Nat → Int32) (p : Nat) (d : Int32) : Nat := cntN ((C 3 p ||| nI (2 ^ p)) &&& d)
def gS (C : Nat → Nat → Int32) (p : Nat) (d : Int32) : Int32 :=
  ((if hel C p d = 0 then 0 else C 2 p + C 0 8 * (nI (hel C p d) - 1)) - (if bt d p = true then C 1 p else 0)) - C 7 p
def edg (C : Nat → Nat → Int32) (p : Nat) (d : Int32) : Int32 := (if C 3 p &&& d = 0 then C 2 p else C 0 8) - C 1 p
def gbc (C : Nat → Nat → Int32) (p : Nat) (d : Int32) : Int32 := if bt d p = true then -(edg C p d) else edg C p d
def wld (C : Nat → Nat → Int32) (p : Nat) (d : Int32) : Bool := !bt (C 0 9) p && decide (0 < gbc C p d)
def rsl (C : Nat → Nat → Int32) (d : Int32) (p : Nat) : Bool := if bt (C 0 9) p = true then !bt d p else decide (0 < gbc C p d)
def fst1 (P : Nat → Bool) (n : Nat) : Int32 := if fa_first P n < n then nI (fa_first P n) else -1
def rst (C : Nat → Nat → Int32) (n : Nat) (d : Int32) : Bool := decide (fa_first (rsl C d) n = n)
theorem fst1_rst {C : Nat → Nat → Int32} {n : Nat} (hn : n < 2 ^ 31) (d : Int32) : (fst1 (rsl C d) n = -1) ↔ rst C n d = true := by
  have hle := fa_first_le (rsl C d) n
  unfold fst1 rst
  by_cases q : fa_first (rsl C d) n < n
  · rw [if_pos q, decide_eq_true_eq]
    constructor
    · intro h
      have a := nI_pos (n := fa_first (rsl C d) n) (by omega)
      rw [h] at a
      exact absurd (by decide) a
    · intro h; omega
  · rw [if_neg q, decide_eq_true_eq]
    exact ⟨fun _ => by omega, fun _ => rfl⟩
/-- a street of the class: what must hold of its cells -/
def RC (n : Nat) (C : Nat → Nat → Int32) : Prop :=
  (1 ≤ n ∧ n ≤ 12) ∧ C 0 7 = nI n ∧ (∃ k, k ≤ 9 ∧ C 0 8 = nI k) ∧ (∀ q, bt (C 0 9) q = true → q < n)
  ∧ (∀ p, p < n → (∃ k, k ≤ 99 ∧ C 1 p = nI k) ∧ (∃ k, k ≤ 99 ∧ C 2 p = nI k))
  ∧ (∀ p, p < 12 → ∀ q, bt (C 3 p) q = true → p < n ∧ q < n ∧ q ≠ p ∧ bt (C 3 q) p = true)
  ∧ (∀ p, p < 12 → ∀ q, q < 12 → (bt (C 3 p) q = false → C 6 (12 * p + q) = 0) ∧ C 6 (12 * p + q) = C 6 (12 * q + p) ∧ ∃ k, k ≤ 9 ∧ C 6 (12 * p + q) = nI k)
  ∧ (∀ p, p < 12 → C 7 p = isum (fun q => C 6 (12 * p + q)) 12)
/-- the memory's cells from c on hold it -/
def CV (M : Mem) (c : Nat) (C : Nat → Nat → Int32) : Prop := ∀ j, j ≤ 7 → ∀ i, M.1 (c + j) i = C j i
/-- the reference's street t at m says the same -/
def MV (M : Mem) (m t n : Nat) (C : Nat → Nat → Int32) : Prop :=
  M.1 (m + 18) t = nI n ∧ M.1 (m + 19) t = C 0 8 ∧ M.1 (m + 20) t = C 0 9
  ∧ (∀ p, p < n → M.1 (m + 21 + 1 + t) p = C 1 p ∧ M.1 (m + 27 + 1 + t) p = C 2 p)
  ∧ (∀ p, p < 12 → M.1 (m + 33 + 1 + t) p = C 3 p) ∧ (∀ k, k < 144 → M.1 (m + 39 + 1 + t) k = C 6 k)
def wok (k v : Int32) : Prop :=
  (k = 1 ∧ (v = 0 ∨ v = 1)) ∨ (k = 2 ∧ ∃ j, j ≤ 1000 ∧ v = nI j) ∨ (k = 3 ∧ ∃ j, j ≤ 11 ∧ v = nI j)
  ∨ (k = 4 ∧ ∃ d r, 1 ≤ d ∧ d ≤ 9 ∧ r < d ∧ v = nI (100 * d + r)) ∨ (k = 5 ∧ ∃ j, j < 4096 ∧ v = nI j)
def WV (M : Mem) (m t n : Nat) (C : Nat → Nat → Int32) : Prop :=
  ∀ p, p < n → (C 4 p = -1 ∧ M.1 (m + 45 + 1 + t) p = 0) ∨ (M.1 (m + 45 + 1 + t) p = C 4 p ∧ M.1 (m + 51 + 1 + t) p = C 5 p ∧ wok (C 4 p) (C 5 p))
/-! the gains, by numbers -/
theorem toInt3 {a b p : Nat} (ha : a < 2 ^ 20) (hb : b < 2 ^ 20) (hp : p < 2 ^ 20) : (nI a - nI b - nI p).toInt = (a : Int) - b - p := by
  rw [Int32.toInt_sub, Int32.toInt_sub, nI_toInt (by omega), nI_toInt (by omega), nI_toInt (by omega)]
  simp only [Int.bmod]
  omega
theorem sub_le0 {x y : Int32} (hx : -4194304 < x.toInt ∧ x.toInt < 4194304) (hy : -4194304 < y.toInt ∧ y.toInt < 4194304) : x - y ≤ 0 ↔ x ≤ y := by
  rw [fa_le, fa_le, Int32.toInt_sub, show (0 : Int32).toInt = 0 from rfl]
  simp only [Int.bmod]
  omega
theorem hel_le (C : Nat → Nat → Int32) (p : Nat) (d : Int32) : hel C p d ≤ 32 := cnt_le _
theorem gS_form {n p : Nat} {C : Nat → Nat → Int32} (hC : RC n C) (hp : p < n) (d : Int32) : ∃ a b q, a < 2 ^ 20 ∧ b < 2 ^ 20 ∧ q < 2 ^ 20 ∧ gS C p d = nI a - nI b - nI q := by
  obtain ⟨⟨hn1, hn⟩, -, ⟨k, hk, ek⟩, -, hcw, -, hpr, hpay⟩ := hC
  obtain ⟨⟨c, hc, ec⟩, ⟨w, hw, ew⟩⟩ := hcw p hp
  obtain ⟨q, hq, eq⟩ := isum_nat (f := fun q => C 6 (12 * p + q)) (c := 9) (n := 12) (fun q hq => (hpr p (by omega) q hq).2.2)
  have hh := hel_le C p d
  unfold gS
  rw [hpay p (by omega), eq, ek, ec, ew]
  have key : ∀ a b : Int32, (∃ i, i < 2 ^ 20 ∧ a = nI i) → (∃ i, i < 2 ^ 20 ∧ b = nI i) → ∃ i j q', i < 2 ^ 20 ∧ j < 2 ^ 20 ∧ q' < 2 ^ 20 ∧ a - b - nI q = nI i - nI j - nI q' := fun a b ⟨i, hi, ei⟩ ⟨j, hj, ej⟩ => ⟨i, j, q, hi, hj, by omega, by rw [ei, ej]⟩
  apply key
  · by_cases h0 : hel C p d = 0
    · rw [if_pos h0]; exact ⟨0, by decide, rfl⟩
    · rw [if_neg h0]
      refine ⟨w + k * (hel C p d - 1), ?_, ?_⟩
      · have : k * (hel C p d - 1) ≤ 9 * 31 := Nat.mul_le_mul hk (by omega)
        omega
      · rw [show (1 : Int32) = nI 1 from rfl, pk_sub (by omega), pk_mul, nI_add]
  · by_cases h0 : bt d p = true
    · rw [if_pos h0]; exact ⟨c, by omega, rfl⟩
    · rw [if_neg h0]; exact ⟨0, by decide, rfl⟩
theorem gS_bound {n p : Nat} {C : Nat → Nat → Int32} (hC : RC n C) (hp : p < n) (d : Int32) : -4194304 < (gS C p d).toInt ∧ (gS C p d).toInt < 4194304 := by
  obtain ⟨a, b, q, ha, hb, hq, e⟩ := gS_form hC hp d
  rw [e, toInt3 ha hb hq]
  omega
/-- one who doesn't do yet: his helpers -/
theorem hel_out {n p : Nat} {C : Nat → Nat → Int32} (hC : RC n C) (hp : p < n) {d : Int32} (h : bt d p = false) : hel C p d = cntN (C 3 p &&& d) := by
  obtain ⟨⟨hn1, hn⟩, -⟩ := hC
  unfold hel
  congr 1
  apply b_ext
  intro i _
  rw [b_and, b_and, bt_orp _ (by omega)]
  by_cases q : i = p
  · subst q; rw [h, Bool.and_false, Bool.and_false]
  · rw [decide_eq_false q, Bool.or_false]
theorem near_self {n p : Nat} {C : Nat → Nat → Int32} (hC : RC n C) (hp : p < n) : bt (C 3 p) p = false := by
  obtain ⟨⟨hn1, hn⟩, -, -, -, -, hne, -⟩ := hC
  cases e : bt (C 3 p) p
  · rfl
  · exact absurd rfl (hne p (by omega) p e).2.2.1
theorem hel_in {n p : Nat} {C : Nat → Nat → Int32} (hC : RC n C) (hp : p < n) {d d2 : Int32} (h : bt d p = false) (h2 : ∀ i, bt d2 i = (bt d i || decide (i = p))) : hel C p d2 = cntN (C 3 p &&& d) + 1 := by
  have hs := near_self hC hp
  obtain ⟨⟨hn1, hn⟩, -⟩ := hC
  unfold hel
  refine cnt_add (p := p) (by omega) (by rw [b_and, h, Bool.and_false]) (fun i => ?_)
  rw [b_and, b_and, bt_orp _ (by omega), h2]
  by_cases q : i = p
  · subst q; rw [decide_eq_true rfl]; simp
  · rw [decide_eq_false q]; simp
theorem xor_in (d : Int32) {p : Nat} (hp : p < 32) (h : bt d p = false) (i : Nat) : bt (d ^^^ nI (2 ^ p)) i = (bt d i || decide (i = p)) := by
  rw [bt_xorp d hp]
  by_cases q : i = p
  · subst q; rw [h, decide_eq_true rfl]; rfl
  · rw [decide_eq_false q]; simp
theorem xor_p (d : Int32) {p : Nat} (hp : p < 32) : bt (d ^^^ nI (2 ^ p)) p = !bt d p := by
  rw [bt_xorp d hp, decide_eq_true rfl]; cases bt d p <;> rfl
theorem xor_back (d : Int32) {p : Nat} (hp : p < 32) : d ^^^ nI (2 ^ p) ^^^ nI (2 ^ p) = d := by
  apply b_ext; intro i _
  rw [bt_xorp _ hp, bt_xorp _ hp]; cases bt d i <;> cases decide (i = p) <;> rfl
theorem edg_xor {n p : Nat} {C : Nat → Nat → Int32} (hC : RC n C) (hp : p < n) (d : Int32) : edg C p (d ^^^ nI (2 ^ p)) = edg C p d := by
  have hs := near_self hC hp
  obtain ⟨⟨hn1, hn⟩, -⟩ := hC
  unfold edg
  have e : C 3 p &&& (d ^^^ nI (2 ^ p)) = C 3 p &&& d := by
    apply b_ext; intro i _
    rw [b_and, b_and, bt_xorp _ (by omega)]
    by_cases q : i = p
    · subst q; rw [hs]; rfl
    · rw [decide_eq_false q]; simp
  rw [e]
theorem gS_join {n p : Nat} {C : Nat → Nat → Int32} (hC : RC n C) (hp : p < n) {d d2 : Int32} (h : bt d p = false) (h2 : ∀ i, bt d2 i = (bt d i || decide (i = p))) : gS C p d2 - gS C p d = edg C p d := by
  have e1 := hel_out hC hp h
  have e2 := hel_in hC hp h h2
  have h3 : bt d2 p = true := by rw [h2, decide_eq_true rfl, Bool.or_true]
  unfold gS edg
  rw [e2, e1, if_neg (show ¬ cntN (C 3 p &&& d) + 1 = 0 by omega), if_pos h3, if_neg (show ¬ bt d p = true by rw [h]; decide)]
  by_cases h0 : C 3 p &&& d = 0
  · rw [if_pos h0, if_pos (cnt_zero.mpr h0), cnt_zero.mpr h0]
    rw [show nI (0 + 1) = 1 from rfl]
    grind
  · rw [if_neg h0, if_neg (fun q => h0 (cnt_zero.mp q)), ← nI_1]
    grind
theorem gS_diff {n p : Nat} {C : Nat → Nat → Int32} (hC : RC n C) (hp : p < n) (d : Int32) : gS C p (d ^^^ nI (2 ^ p)) - gS C p d = gbc C p d := by
  have hn : n ≤ 12 := hC.1.2
  unfold gbc
  cases h : bt d p
  · rw [if_neg (by decide)]
    exact gS_join hC hp h (xor_in d (by omega) h)
  · rw [if_pos rfl]
    have h1 : bt (d ^^^ nI (2 ^ p)) p = false := by rw [xor_p d (by omega), h]; rfl
    have a := gS_join hC hp h1 (d2 := d) (fun i => by rw [← xor_in _ (by omega) h1, xor_back d (by omega)])
    rw [edg_xor hC hp] at a
    grind
theorem gS_le {n p : Nat} {C : Nat → Nat → Int32} (hC : RC n C) (hp : p < n) (d : Int32) : gS C p (d ^^^ nI (2 ^ p)) ≤ gS C p d ↔ gbc C p d ≤ 0 := by
  rw [← gS_diff hC hp d]
  exact (sub_le0 (gS_bound hC hp _) (gS_bound hC hp _)).symm
theorem le_nlt (x y : Int32) : x ≤ y ↔ ¬ y < x := by rw [fa_le, fa_lt]; omega
