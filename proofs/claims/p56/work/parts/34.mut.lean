/-! ===== a street changed ===== -/
/-- the class's street at c, written over -/
def wC (M : Mem) (c : Nat) (C : Nat → Nat → Int32) : Mem := (fun x i => if c ≤ x ∧ x ≤ c + 7 then C (x - c) i else M.1 x i, M.2)
theorem wC_CV (M : Mem) (c : Nat) (C : Nat → Nat → Int32) : CV (wC M c C) c C := fun j hj i => by
  show (if c ≤ c + j ∧ c + j ≤ c + 7 then C (c + j - c) i else _) = _
  rw [if_pos (by omega), Nat.add_sub_cancel_left]
theorem wC_o {M : Mem} {c x : Nat} {C : Nat → Nat → Int32} (h : x < c ∨ c + 7 < x) (i : Nat) : (wC M c C).1 x i = M.1 x i := if_neg (by omega)
theorem wC_same {M : Mem} {c : Nat} {C : Nat → Nat → Int32} (h : CV M c C) : wC M c C = M := mem_ext (fun x i => by
  by_cases q : c ≤ x ∧ x ≤ c + 7
  · show (if c ≤ x ∧ x ≤ c + 7 then C (x - c) i else _) = _
    have a := h (x - c) (by omega) i
    rw [show c + (x - c) = x by omega] at a
    rw [if_pos q, a]
  · exact wC_o (by omega) i) (fun _ _ => rfl)
theorem wC_twice (M : Mem) (c : Nat) (C D : Nat → Nat → Int32) : wC (wC M c C) c D = wC M c D := mem_ext (fun x i => by
  by_cases q : c ≤ x ∧ x ≤ c + 7
  · show (if c ≤ x ∧ x ≤ c + 7 then D (x - c) i else _) = if c ≤ x ∧ x ≤ c + 7 then D (x - c) i else _
    rw [if_pos q, if_pos q]
  · rw [wC_o (by omega), wC_o (by omega), wC_o (by omega)]) (fun _ _ => rfl)
theorem wC_cong {M : Mem} {c : Nat} {C D : Nat → Nat → Int32} (h : ∀ j, j ≤ 7 → ∀ i, C j i = D j i) : wC M c C = wC M c D := mem_ext (fun x i => by
  show (if c ≤ x ∧ x ≤ c + 7 then C (x - c) i else _) = if c ≤ x ∧ x ≤ c + 7 then D (x - c) i else _
  by_cases q : c ≤ x ∧ x ≤ c + 7
  · rw [if_pos q, if_pos q, h _ (by omega)]
  · rw [if_neg q, if_neg q]) (fun _ _ => rfl)
/-- memories that agree beside a street, and at it -/
theorem wC_is {M M' : Mem} {c : Nat} {C : Nat → Nat → Int32} (h1 : CV M' c C) (h2 : ∀ x i, x < c ∨ c + 7 < x → M'.1 x i = M.1 x i) (h3 : ∀ x i, M'.2 x i = M.2 x i) : M' = wC M c C := mem_ext (fun x i => by
  by_cases q : c ≤ x ∧ x ≤ c + 7
  · have a := h1 (x - c) (by omega) i
    rw [show c + (x - c) = x by omega] at a
    rw [a]
    exact ((if_pos q : (if c ≤ x ∧ x ≤ c + 7 then C (x - c) i else M.1 x i) = _)).symm
  · rw [wC_o (by omega), h2 x i (by omega)]) (fun x i => h3 x i)
/-- one cell of a view set -/
def vs (C : Nat → Nat → Int32) (j i : Nat) (v : Int32) : Nat → Nat → Int32 := fun j' i' => if j' = j ∧ i' = i then v else C j' i'
theorem vs_s {C : Nat → Nat → Int32} {j i : Nat} {v : Int32} : vs C j i v j i = v := if_pos ⟨rfl, rfl⟩
theorem vs_o {C : Nat → Nat → Int32} {j i j' i' : Nat} {v : Int32} (h : j' ≠ j ∨ i' ≠ i) : vs C j i v j' i' = C j' i' := if_neg (by omega)
theorem CV_vs {M : Mem} {c : Nat} {C : Nat → Nat → Int32} (h : CV M c C) {j : Nat} (i : Nat) (v : Int32) : CV (sI M (c + j) i v) c (vs C j i v) := fun j' hj' i' => by
  by_cases q : j' = j ∧ i' = i
  · obtain ⟨rfl, rfl⟩ := q
    rw [sI_s, vs_s]
  · rw [sI_o (by omega), vs_o (by omega)]; exact h j' hj' i'
/-- a tie set, or cut -/
def tgC (C : Nat → Nat → Int32) (p q : Nat) (A B v : Int32) : Nat → Nat → Int32 :=
  vs (vs (vs (vs (vs (vs C 3 p A) 3 q B) 7 p (C 7 p + (v - C 6 (12 * p + q)))) 6 (12 * p + q) v) 7 q (C 7 q + (v - C 6 (12 * q + p)))) 6 (12 * q + p) v
theorem tg_0 {C : Nat → Nat → Int32} {p q : Nat} {A B v : Int32} {j i : Nat} (h : j ≠ 3 ∧ j ≠ 6 ∧ j ≠ 7) : tgC C p q A B v j i = C j i := by
  unfold tgC; rw [vs_o (by omega), vs_o (by omega), vs_o (by omega), vs_o (by omega), vs_o (by omega), vs_o (by omega)]
theorem tg_3 {C : Nat → Nat → Int32} {p q : Nat} {A B v : Int32} {i : Nat} : tgC C p q A B v 3 i = if i = q then B else if i = p then A else C 3 i := by
  unfold tgC; rw [vs_o (by omega), vs_o (by omega), vs_o (by omega), vs_o (by omega)]
  by_cases h : i = q
  · subst h; rw [vs_s, if_pos rfl]
  · rw [vs_o (by omega), if_neg h]
    by_cases h2 : i = p
    · subst h2; rw [vs_s, if_pos rfl]
    · rw [vs_o (by omega), if_neg h2]
theorem tg_6 {C : Nat → Nat → Int32} {p q : Nat} {A B v : Int32} {i : Nat} : tgC C p q A B v 6 i = if i = 12 * q + p ∨ i = 12 * p + q then v else C 6 i := by
  unfold tgC
  by_cases h : i = 12 * q + p
  · subst h; rw [vs_s, if_pos (Or.inl rfl)]
  · rw [vs_o (by omega), vs_o (by omega)]
    by_cases h2 : i = 12 * p + q
    · subst h2; rw [vs_s, if_pos (Or.inr rfl)]
    · rw [vs_o (by omega), vs_o (by omega), vs_o (by omega), vs_o (by omega), if_neg (by omega)]
theorem tg_7 {C : Nat → Nat → Int32} {p q : Nat} {A B v : Int32} {i : Nat} : tgC C p q A B v 7 i = if i = q then C 7 q + (v - C 6 (12 * q + p)) else if i = p then C 7 p + (v - C 6 (12 * p + q)) else C 7 i := by
  unfold tgC
  rw [vs_o (by omega)]
  by_cases h : i = q
  · subst h; rw [vs_s, if_pos rfl]
  · rw [vs_o (by omega), vs_o (by omega), if_neg h]
    by_cases h2 : i = p
    · subst h2; rw [vs_s, if_pos rfl]
    · rw [vs_o (by omega), vs_o (by omega), vs_o (by omega), if_neg h2]
theorem isum_row {C D : Nat → Int32} {p q : Nat} {v : Int32} (hq : q < 12) (h1 : D (12 * p + q) = v) (h2 : ∀ s, s < 12 → s ≠ q → D (12 * p + s) = C (12 * p + s)) : isum (fun s => D (12 * p + s)) 12 = isum (fun s => C (12 * p + s)) 12 + (v - C (12 * p + q)) := by
  rw [isum_upd (f := fun s => C (12 * p + s)) (g := fun s => D (12 * p + s)) (i := q) hq (fun k hk hne => h2 k hk hne)]
  show _ + (D (12 * p + q) - C (12 * p + q)) = _
  rw [h1]
theorem RC_tg {n p q : Nat} {C : Nat → Nat → Int32} {A B v : Int32} {x : Bool} (hC : RC n C) (hp : p < n) (hq : q < n) (hpq : p ≠ q) (hA : ∀ i, bt A i = if i = q then x else bt (C 3 p) i) (hB : ∀ i, bt B i = if i = p then x else bt (C 3 q) i) (hv : ∃ k, k ≤ 9 ∧ v = nI k) (hx : x = false → v = 0) : RC n (tgC C p q A B v) := by
  obtain ⟨⟨hn1, hn⟩, h2, h3, h4, h5, h6, h7, h8⟩ := hC
  refine ⟨⟨hn1, hn⟩, by rw [tg_0 (by omega), h2], by rw [tg_0 (by omega)]; exact h3, by rw [tg_0 (by omega)]; exact h4, fun r hr => by rw [tg_0 (by omega), tg_0 (by omega)]; exact h5 r hr, ?_, ?_, ?_⟩
  · intro r hr s hs
    rw [tg_3] at hs
    rw [tg_3]
    by_cases r1 : r = q
    · subst r1
      rw [if_pos rfl, hB] at hs
      by_cases s1 : s = p
      · subst s1
        rw [if_pos rfl] at hs
        refine ⟨by omega, by omega, by omega, ?_⟩
        rw [if_neg (by omega), if_pos rfl, hA, if_pos rfl]; exact hs
      · rw [if_neg s1] at hs
        obtain ⟨a1, a2, a3, a4⟩ := h6 r hr s hs
        refine ⟨a1, a2, a3, ?_⟩
        rw [if_neg a3, if_neg s1]; exact a4
    · by_cases r2 : r = p
      · subst r2
        rw [if_neg r1, if_pos rfl, hA] at hs
        by_cases s1 : s = q
        · subst s1
          rw [if_pos rfl] at hs
          refine ⟨by omega, by omega, by omega, ?_⟩
          rw [if_pos rfl, hB, if_pos rfl]; exact hs
        · rw [if_neg s1] at hs
          obtain ⟨a1, a2, a3, a4⟩ := h6 r hr s hs
          refine ⟨a1, a2, a3, ?_⟩
          rw [if_neg s1, if_neg a3]; exact a4
      · rw [if_neg r1, if_neg r2] at hs
        obtain ⟨a1, a2, a3, a4⟩ := h6 r hr s hs
        refine ⟨a1, a2, a3, ?_⟩
        by_cases s1 : s = q
        · subst s1; rw [if_pos rfl, hB, if_neg r2]; exact a4
        · rw [if_neg s1]
          by_cases s2 : s = p
          · subst s2; rw [if_pos rfl, hA, if_neg r1]; exact a4
          · rw [if_neg s2]; exact a4
  · intro r hr s hs
    rw [tg_6, tg_6, tg_3]
    by_cases r1 : (r = p ∧ s = q) ∨ (r = q ∧ s = p)
    · have e1 : (12 * r + s = 12 * q + p ∨ 12 * r + s = 12 * p + q) := by omega
      have e2 : (12 * s + r = 12 * q + p ∨ 12 * s + r = 12 * p + q) := by omega
      rw [if_pos e1, if_pos e2]
      refine ⟨fun hb => hx ?_, rfl, hv⟩
      rcases r1 with ⟨rfl, rfl⟩ | ⟨rfl, rfl⟩
      · rw [if_neg hpq, if_pos rfl, hA, if_pos rfl] at hb; exact hb
      · rw [if_pos rfl, hB, if_pos rfl] at hb; exact hb
    · have e1 : ¬ (12 * r + s = 12 * q + p ∨ 12 * r + s = 12 * p + q) := by omega
      have e2 : ¬ (12 * s + r = 12 * q + p ∨ 12 * s + r = 12 * p + q) := by omega
      rw [if_neg e1, if_neg e2]
      obtain ⟨b1, b2, b3⟩ := h7 r hr s hs
      refine ⟨fun hb => b1 ?_, b2, b3⟩
      by_cases r2 : r = q
      · subst r2
        rw [if_pos rfl, hB, if_neg (by omega)] at hb; exact hb
      · rw [if_neg r2] at hb
        by_cases r3 : r = p
        · subst r3
          rw [if_pos rfl, hA, if_neg (by omega)] at hb; exact hb
        · rw [if_neg r3] at hb; exact hb
  · intro r hr
    rw [tg_7]
    by_cases r1 : r = q
    · subst r1
      rw [if_pos rfl, h8 r hr, isum_row (C := C 6) (D := tgC C p r A B v 6) (q := p) (v := v) (by omega) (by rw [tg_6, if_pos (Or.inl rfl)]) (fun s hs hne => by rw [tg_6, if_neg (by omega)])]
    · rw [if_neg r1]
      by_cases r2 : r = p
      · subst r2
        rw [if_pos rfl, h8 r hr, isum_row (C := C 6) (D := tgC C r q A B v 6) (q := q) (v := v) (by omega) (by rw [tg_6, if_pos (Or.inr rfl)]) (fun s hs hne => by rw [tg_6, if_neg (by omega)])]
      · rw [if_neg r2, h8 r hr]
        exact isum_cong (fun s hs => by rw [tg_6, if_neg (by omega)])
theorem or_bits (x : Int32) {q : Nat} (hq : q < 32) (i : Nat) : bt (x ||| nI (2 ^ q)) i = if i = q then true else bt x i := by
  rw [bt_orp x hq]
  by_cases h : i = q
  · rw [if_pos h, decide_eq_true h, Bool.or_true]
  · rw [if_neg h, decide_eq_false h, Bool.or_false]
theorem off_bits (x : Int32) {q : Nat} (hq : q < 32) (i : Nat) : bt (x &&& (nI (2 ^ q) ^^^ (-1))) i = if i = q then false else bt x i := by
  rw [bt_offp x hq]
  by_cases h : i = q
  · rw [if_pos h, decide_eq_true h]; cases bt x i <;> rfl
  · rw [if_neg h, decide_eq_false h]; cases bt x i <;> rfl
/-- the class's tie, and its cut -/
def jnC (C : Nat → Nat → Int32) (p q : Nat) (v : Int32) : Nat → Nat → Int32 := tgC C p q (C 3 p ||| nI (2 ^ q)) (C 3 q ||| nI (2 ^ p)) v
def ptC (C : Nat → Nat → Int32) (p q : Nat) : Nat → Nat → Int32 := tgC C p q (C 3 p &&& (nI (2 ^ q) ^^^ (-1))) (C 3 q &&& (nI (2 ^ p) ^^^ (-1))) 0
theorem RC_jn {n p q : Nat} {C : Nat → Nat → Int32} {v : Int32} (hC : RC n C) (hp : p < n) (hq : q < n) (hpq : p ≠ q) (hv : ∃ k, k ≤ 9 ∧ v = nI k) : RC n (jnC C p q v) :=
  have hn := hC.1.2
  RC_tg (x := true) hC hp hq hpq (or_bits _ (by omega)) (or_bits _ (by omega)) hv (fun h => by cases h)
theorem RC_pt {n p q : Nat} {C : Nat → Nat → Int32} (hC : RC n C) (hp : p < n) (hq : q < n) (hpq : p ≠ q) : RC n (ptC C p q) :=
  have hn := hC.1.2
  RC_tg (x := false) hC hp hq hpq (off_bits _ (by omega)) (off_bits _ (by omega)) ⟨0, by omega, rfl⟩ (fun _ => rfl)
theorem priceAt_c {N : Nat} {M : Mem} {c p q : Nat} {C : Nat → Nat → Int32} (hV : CV M c C) (hp : p < 12) (hq : q < 12) (v : Int32) :
    fX4_priceAt N M c (nI p) (nI q) v = some (sI (sI M (c + 7) p (C 7 p + (v - C 6 (12 * p + q)))) (c + 6) (12 * p + q) v) := by
  unfold fX4_priceAt
  have e : (12 : Int32) * nI p + nI q = nI (12 * p + q) := by rw [show (12 : Int32) = nI 12 from rfl, pk_mul, nI_add]
  rw [nm_eq, e, gd_nI hp (by decide), gd_nI (by omega) (by decide), nI_clamp (by omega), nI_clamp (by omega), hV 7 (by decide), hV 6 (by decide)]; rfl
theorem tg_mem {N : Nat} {M : Mem} {c p q : Nat} {C : Nat → Nat → Int32} (hV : CV M c C) (hp : p < 12) (hq : q < 12) (hpq : p ≠ q) (A B v : Int32) :
    bd (fX4_priceAt N (sI (sI M (c + 3) p A) (c + 3) q B) c (nI p) (nI q) v) (fun r7 => bd (fX4_priceAt N r7 c (nI q) (nI p) v) (fun r8 => some r8)) = some (wC M c (tgC C p q A B v)) := by
  have v2 := CV_vs (CV_vs hV (j := 3) p A) (j := 3) q B
  rw [priceAt_c v2 hp hq, bd_some]
  have v4 := CV_vs (CV_vs v2 (j := 7) p (vs (vs C 3 p A) 3 q B 7 p + (v - vs (vs C 3 p A) 3 q B 6 (12 * p + q)))) (j := 6) (12 * p + q) v
  rw [priceAt_c v4 hq hp, bd_some]
  have v6 := CV_vs (CV_vs v4 (j := 7) q (vs (vs (vs (vs C 3 p A) 3 q B) 7 p (vs (vs C 3 p A) 3 q B 7 p + (v - vs (vs C 3 p A) 3 q B 6 (12 * p + q)))) 6 (12 * p + q) v 7 q + (v - vs (vs (vs (vs C 3 p A) 3 q B) 7 p (vs (vs C 3 p A) 3 q B 7 p + (v - vs (vs C 3 p A) 3 q B 6 (12 * p + q)))) 6 (12 * p + q) v 6 (12 * q + p)))) (j := 6) (12 * q + p) v
  congr 1
  have e1 : vs (vs C 3 p A) 3 q B 7 p = C 7 p := by rw [vs_o (by omega), vs_o (by omega)]
  have e2 : vs (vs C 3 p A) 3 q B 6 (12 * p + q) = C 6 (12 * p + q) := by rw [vs_o (by omega), vs_o (by omega)]
  rw [e1, e2] at v6 ⊢
  have e3 : vs (vs (vs (vs C 3 p A) 3 q B) 7 p (C 7 p + (v - C 6 (12 * p + q)))) 6 (12 * p + q) v 7 q = C 7 q := by rw [vs_o (by omega), vs_o (by omega), vs_o (by omega), vs_o (by omega)]
  have e4 : vs (vs (vs (vs C 3 p A) 3 q B) 7 p (C 7 p + (v - C 6 (12 * p + q)))) 6 (12 * p + q) v 6 (12 * q + p) = C 6 (12 * q + p) := by rw [vs_o (by omega), vs_o (by omega), vs_o (by omega), vs_o (by omega)]
  rw [e3, e4] at v6 ⊢
  exact wC_is v6 (fun x i h => by rw [sI_o (by omega), sI_o (by omega), sI_o (by omega), sI_o (by omega), sI_o (by omega), sI_o (by omega)]) (fun _ _ => rfl)
theorem join_c {N : Nat} {M : Mem} {c n p q : Nat} {C : Nat → Nat → Int32} (hV : CV M c C) (hC : RC n C) (hp : p < n) (hq : q < n) (hpq : p ≠ q) (v : Int32) : fX4_join N M c (nI p) (nI q) v = some (wC M c (jnC C p q v)) := by
  have hn := hC.1.2
  unfold fX4_join
  rw [hasPair_y N hV hC hp hq hpq, bd_some, if_neg (by decide), gd_nI (by omega) (by decide), nm_eq, gd_nI (by omega) (by decide), nm_eq, nI_clamp (by omega), nI_clamp (by omega), sh1 (by omega), sh1 (by omega), hV 3 (by decide), sI_o (by omega), hV 3 (by decide)]
  exact tg_mem hV (by omega) (by omega) hpq _ _ v
theorem part_c {N : Nat} {M : Mem} {c n p q : Nat} {C : Nat → Nat → Int32} (hV : CV M c C) (hC : RC n C) (hp : p < n) (hq : q < n) (hpq : p ≠ q) : fX4_part N M c (nI p) (nI q) = some (wC M c (ptC C p q)) := by
  have hn := hC.1.2
  unfold fX4_part
  rw [hasPair_y N hV hC hp hq hpq, bd_some, if_neg (by decide), gd_nI (by omega) (by decide), nm_eq, gd_nI (by omega) (by decide), nm_eq, nI_clamp (by omega), nI_clamp (by omega), sh1 (by omega), sh1 (by omega), hV 3 (by decide), sI_o (by omega), hV 3 (by decide)]
  exact tg_mem hV (by omega) (by omega) hpq _ _ 0
theorem priceOf_c {N : Nat} {M : Mem} {c n p q : Nat} {C : Nat → Nat → Int32} (hV : CV M c C) (hC : RC n C) (hp : p < n) (hq : q < n) (hpq : p ≠ q) : fX4_priceOf N M c (nI p) (nI q) = some (if bt (C 3 p) q = true then C 6 (12 * p + q) else -1) := by
  have hn := hC.1.2
  unfold fX4_priceOf
  have e : (12 : Int32) * nI p + nI q = nI (12 * p + q) := by rw [show (12 : Int32) = nI 12 from rfl, pk_mul, nI_add]
  rw [areNear_s N hV hC hp hq hpq, bd_some, b1_if, e, gd_nI (by omega) (by decide), nI_clamp (by omega), hV 6 (by decide)]
  cases bt (C 3 p) q <;> rfl
/-! the reference's tie -/
def tgM (M : Mem) (m t p q : Nat) (A B v : Int32) : Mem := sI (sI (sI (sI M (m + 33 + 1 + t) p A) (m + 33 + 1 + t) q B) (m + 39 + 1 + t) (12 * p + q) v) (m + 39 + 1 + t) (12 * q + p) v
theorem tgM_o {M : Mem} {m t p q x i : Nat} {A B v : Int32} (h1 : x ≠ m + 33 + 1 + t) (h2 : x ≠ m + 39 + 1 + t) : (tgM M m t p q A B v).1 x i = M.1 x i := by
  unfold tgM; rw [sI_o (Or.inl h2), sI_o (Or.inl h2), sI_o (Or.inl h1), sI_o (Or.inl h1)]
theorem tgM_3 {M : Mem} {m t p q i : Nat} {A B v : Int32} : (tgM M m t p q A B v).1 (m + 33 + 1 + t) i = if i = q then B else if i = p then A else M.1 (m + 33 + 1 + t) i := by
  unfold tgM
  rw [sI_o (by omega), sI_o (by omega)]
  by_cases h : i = q
  · subst h; rw [sI_s, if_pos rfl]
  · rw [sI_o (by omega), if_neg h]
    by_cases h2 : i = p
    · subst h2; rw [sI_s, if_pos rfl]
    · rw [sI_o (by omega), if_neg h2]
theorem tgM_6 {M : Mem} {m t p q i : Nat} {A B v : Int32} : (tgM M m t p q A B v).1 (m + 39 + 1 + t) i = if i = 12 * q + p ∨ i = 12 * p + q then v else M.1 (m + 39 + 1 + t) i := by
  unfold tgM
  by_cases h : i = 12 * q + p
  · subst h; rw [sI_s, if_pos (Or.inl rfl)]
  · rw [sI_o (by omega)]
    by_cases h2 : i = 12 * p + q
    · subst h2; rw [sI_s, if_pos (Or.inr rfl)]
    · rw [sI_o (by omega), sI_o (by omega), sI_o (by omega), if_neg (by omega)]
theorem MV_tg {M : Mem} {m t n p q : Nat} {C : Nat → Nat → Int32} {A B v : Int32} (hM : MV M m t n C) (ht : t < 5) : MV (tgM M m t p q A B v) m t n (tgC C p q A B v) := by
  obtain ⟨h1, h2, h3, h4, h5, h6⟩ := hM
  refine ⟨by rw [tgM_o (by omega) (by omega), h1], by rw [tgM_o (by omega) (by omega), h2, tg_0 (by omega)], by rw [tgM_o (by omega) (by omega), h3, tg_0 (by omega)], fun r hr => ?_, fun r hr => ?_, fun k hk => ?_⟩
  · rw [tgM_o (by omega) (by omega), tgM_o (by omega) (by omega), tg_0 (by omega), tg_0 (by omega)]; exact h4 r hr
  · rw [tgM_3, tg_3, h5 r hr]
  · rw [tgM_6, tg_6, h6 k hk]
theorem WV_tg {M : Mem} {m t n p q : Nat} {C : Nat → Nat → Int32} {A B v : Int32} (hW : WV M m t n C) (ht : t < 5) : WV (tgM M m t p q A B v) m t n (tgC C p q A B v) := by
  intro r hr
  rw [tgM_o (by omega) (by omega), tgM_o (by omega) (by omega), tg_0 (by omega), tg_0 (by omega)]
  exact hW r hr
theorem tieThem_m {N : Nat} {M : Mem} {m t n p q : Nat} {C : Nat → Nat → Int32} (hM : MV M m t n C) (ht : t < 5) (hp : p < 12) (hq : q < 12) (hpq : p ≠ q) (v : Int32) : fX7_tieThem N M m (nI t) (nI p) (nI q) v = some (tgM M m t p q (C 3 p ||| nI (2 ^ q)) (C 3 q ||| nI (2 ^ p)) v) := by
  unfold fX7_tieThem tgM
  have e : nI p * (12 : Int32) + nI q = nI (12 * p + q) := by rw [show (12 : Int32) = nI 12 from rfl, pk_mul, nI_add, Nat.mul_comm]
  have e2 : nI q * (12 : Int32) + nI p = nI (12 * q + p) := by rw [show (12 : Int32) = nI 12 from rfl, pk_mul, nI_add, Nat.mul_comm]
  rw [gd_nI ht (by decide), gd_nI hp (by decide), nm_eq, gd_nI hq (by decide), nm_eq, e, e2, gd_nI (by omega) (by decide), nm_eq, gd_nI (by omega) (by decide), nm_eq, nI_clamp (n := t) (by omega), nI_clamp (n := p) (by omega), nI_clamp (n := q) (by omega), nI_clamp (n := 12 * p + q) (by omega), nI_clamp (n := 12 * q + p) (by omega), sh1 (by omega), sh1 (by omega), hM.2.2.2.2.1 p hp, sI_o (by omega), hM.2.2.2.2.1 q hq]
/-- one street of the town is another -/
def EX (a b t x i : Nat) : Prop := (a + 4 + 1 + 11 + 8 * t ≤ x ∧ x ≤ a + 4 + 1 + 11 + 8 * t + 7) ∨ ((x = b + 18 ∨ x = b + 19 ∨ x = b + 20) ∧ i = t) ∨ x = b + 21 + 1 + t ∨ x = b + 27 + 1 + t ∨ x = b + 33 + 1 + t ∨ x = b + 39 + 1 + t ∨ x = b + 45 + 1 + t ∨ x = b + 51 + 1 + t
theorem MV_fr2 {M M' : Mem} {m t n : Nat} {C : Nat → Nat → Int32} (h : ∀ x i, ((x = m + 18 ∨ x = m + 19 ∨ x = m + 20) ∧ i = t) ∨ x = m + 21 + 1 + t ∨ x = m + 27 + 1 + t ∨ x = m + 33 + 1 + t ∨ x = m + 39 + 1 + t → M'.1 x i = M.1 x i) (hM : MV M m t n C) : MV M' m t n C := by
  obtain ⟨h1, h2, h3, h4, h5, h6⟩ := hM
  refine ⟨by rw [h _ _ (by omega), h1], by rw [h _ _ (by omega), h2], by rw [h _ _ (by omega), h3], fun p hp => ?_, fun p hp => ?_, fun k hk => ?_⟩
  · rw [h _ _ (by omega), h _ _ (by omega)]; exact h4 p hp
  · rw [h _ _ (by omega)]; exact h5 p hp
  · rw [h _ _ (by omega)]; exact h6 k hk
theorem WV_fr2 {M M' : Mem} {m t n : Nat} {C : Nat → Nat → Int32} (h : ∀ x i, x = m + 45 + 1 + t ∨ x = m + 51 + 1 + t → M'.1 x i = M.1 x i) (hM : WV M m t n C) : WV M' m t n C := by
  intro p hp
  rw [h _ _ (by omega), h _ _ (by omega)]
  exact hM p hp
theorem TWr_st {M M' : Mem} {a b k t : Nat} (hab : a = 0 ∧ b = 119) (hT : TWr M (a + 4) b) (hk : M.1 (a + 4) 3 = nI k) (hk4 : k ≤ 4) (ht : t < k) (h : ∀ x i, ¬ EX a b t x i → M'.1 x i = M.1 x i) (hS : STr M' (a + 4 + 1 + 11 + 8 * t) b t) : TWr M' (a + 4) b := by
  obtain ⟨⟨k2, hk2, e1, e2, hs⟩, hd, e3, hh⟩ := hT
  have ek : k2 = k := (nI_eq (by omega) (by omega)).mp (e1.symm.trans hk)
  subst ek
  refine ⟨⟨k2, hk2, by rw [h _ _ (by unfold EX; omega), e1], by rw [h _ _ (by unfold EX; omega), e2], fun t2 ht2 => ?_⟩, fun d hd2 => ?_, ?_, ?_⟩
  · by_cases q : t2 = t
    · subst q; exact hS
    · obtain ⟨n, C, hC, hV, hM, hW⟩ := hs t2 ht2
      exact ⟨n, C, hC, CV_fr (fun j hj i => h _ _ (by unfold EX; omega)) hV, MV_fr2 (fun x i hx => h _ _ (by unfold EX; omega)) hM, WV_fr2 (fun x i hx => h _ _ (by unfold EX; omega)) hW⟩
  · rw [h _ _ (by unfold EX; omega), h _ _ (by unfold EX; omega)]; exact hd d hd2
  · rw [h _ _ (by unfold EX; omega), h _ _ (by unfold EX; omega), e3]
  · rcases hh with ⟨f1, f2⟩ | ⟨s, n, C, x, f1, hs2, f2, f3, hC, hV, hM, hx, f4, f5, f6, f7⟩
    · exact Or.inl ⟨by rw [h _ _ (by unfold EX; omega), f1], by rw [h _ _ (by unfold EX; omega), f2]⟩
    · refine Or.inr ⟨s, n, C, x, by rw [h _ _ (by unfold EX; omega), f1], hs2, by rw [h _ _ (by unfold EX; omega), f2], by rw [h _ _ (by unfold EX; omega), f3], hC, CV_fr (fun j hj i => h _ _ (by unfold EX; omega)) hV, MV_fr2 (fun x i hx => h _ _ (by unfold EX; omega)) hM, hx, ?_, ?_, ?_, ?_⟩
      · rw [h _ _ (by unfold EX; omega), f4]
      · rw [h _ _ (by unfold EX; omega), f5]
      · rw [h _ _ (by unfold EX; omega), h _ _ (by unfold EX; omega), f6]
      · rw [h _ _ (by unfold EX; omega), h _ _ (by unfold EX; omega), f7]
theorem Inv_st {kp : Int32} {M M' : Mem} {a b k t : Nat} (hI : Inv kp a b M) (hk : M.1 (a + 4) 3 = nI k) (hk4 : k ≤ 4) (ht : t < k) (h : ∀ x i, ¬ EX a b t x i → M'.1 x i = M.1 x i) (hJ : ∀ x i, M'.2 x i = M.2 x i) (hS : STr M' (a + 4 + 1 + 11 + 8 * t) b t) : Inv kp a b M' :=
  have hab := hI.1
  Inv_tw hI (fun x i hx => h x i (by unfold IT at hx; unfold EX; omega)) (fun x i _ => hJ x i) (TWr_st hI.1 hI.2.2.2.2.1 hk hk4 ht h hS)
