/-! ===== pure: what the printed functions come to ===== -/
theorem bd_some {α β : Type} (a : α) (k : α → Option β) : bd (some a) k = k a := rfl
theorem nm_eq {α β : Type} (x : α) (k : α → Option β) : nm x k = k x := rfl
theorem onO_some {β : Type} (q : Nat) (A : Option β) (B : Nat → Option β) : onO (some q) A B = B q := rfl
theorem onO_none {β : Type} (A : Option β) (B : Nat → Option β) : onO none A B = A := rfl
theorem gd_nI {α : Type} {p n : Nat} {k : Option α} (h : p < n) (hn : n < 2 ^ 31) : gd (nI p) n k = k := gd_of (nI_in h hn)
def b1 (b : Bool) : Int32 := if b = true then 1 else 0
theorem b1_t : b1 true = 1 := rfl
theorem b1_f : b1 false = 0 := rfl
theorem i10 : ((1 : Int32) = 0) = False := by simp
theorem i00 : ((0 : Int32) = 0) = True := by simp
theorem b1_if {α : Type} (b : Bool) (A B : α) : (if b1 b = 0 then A else B) = if b = true then B else A := by
  cases b
  · rw [b1_f, if_pos rfl, if_neg (by decide)]
  · rw [b1_t, if_neg (by decide), if_pos rfl]
theorem b1_or (b : Bool) : b1 b = 0 ∨ b1 b = 1 := by cases b <;> simp [b1]
theorem gc_b1 {α : Type} (b : Bool) (k : Option α) : gc (b1 b = 0 ∨ b1 b = 1) k = k := gc_of (b1_or b)
theorem if_b1 (c : Prop) [Decidable c] : (if c then (some 1 : Option Int32) else some 0) = some (b1 (decide c)) := by
  by_cases h : c <;> simp [h, b1]
theorem if_b1n (c : Prop) [Decidable c] : (if c then (some 0 : Option Int32) else some 1) = some (b1 (!decide c)) := by
  by_cases h : c <;> simp [h, b1]
/-! loops -/
theorem lp {S R : Type} (F : Nat → S → Option R) (st : Nat → S) (n : Nat) (hs : ∀ k p, p < n → F (k + 1) (st p) = F k (st (p + 1))) {N : Nat} (h : n < N) : ∃ k, F N (st 0) = F (k + 1) (st n) := by
  have key : ∀ j p k, p + j = n → F (k + j) (st p) = F k (st n) := by
    intro j
    induction j with
    | zero => intro p k e; simp at e; subst e; rfl
    | succ j ih =>
      intro p k e
      rw [← Nat.add_assoc, hs (k + j) p (by omega)]
      exact ih (p + 1) k (by omega)
  refine ⟨N - n - 1, ?_⟩
  exact (congrArg (fun q => F q (st 0)) (by omega : N = N - n - 1 + 1 + n)).trans (key n 0 (N - n - 1 + 1) (by omega))
theorem lp_first {S R : Type} (F : Nat → S → Option R) (st : Nat → S) (P : Nat → Bool) (n : Nat) (Y : Nat → Option R) (E : Option R)
    (hno : ∀ k p, p < n → P p = false → F (k + 1) (st p) = F k (st (p + 1))) (hyes : ∀ k p, p < n → P p = true → F (k + 1) (st p) = Y p) (hend : ∀ k, F (k + 1) (st n) = E) {N : Nat} (h : n < N) :
    F N (st 0) = if fa_first P n < n then Y (fa_first P n) else E := by
  have hle := fa_first_le P n
  obtain ⟨k, hk⟩ := lp F st (fa_first P n) (fun k p hp => hno k p (by omega) (fa_first_no P n p hp)) (N := N) (by omega)
  rw [hk]
  by_cases q : fa_first P n < n
  · rw [if_pos q]; exact hyes k _ q (fa_first_yes P n q)
  · rw [if_neg q]
    have e : fa_first P n = n := by omega
    rw [e]; exact hend k
theorem fa_first_cong {P Q : Nat → Bool} {n : Nat} (h : ∀ k, k < n → P k = Q k) : fa_first P n = fa_first Q n := by
  have h1 := fa_first_le P n
  have h2 := fa_first_le Q n
  rcases Nat.lt_trichotomy (fa_first P n) (fa_first Q n) with q | q | q
  · have a := fa_first_no Q n _ q
    rw [← h _ (by omega), fa_first_yes P n (by omega)] at a; cases a
  · exact q
  · have a := fa_first_no P n _ q
    rw [h _ (by omega), fa_first_yes Q n (by omega)] at a; cases a
/-! sums of ints -/
def isum (f : Nat → Int32) : Nat → Int32
  | 0 => 0
  | n + 1 => isum f n + f n
theorem isum_cong {f g : Nat → Int32} : ∀ {n : Nat}, (∀ k, k < n → f k = g k) → isum f n = isum g n
  | 0, _ => rfl
  | n + 1, h => by rw [isum, isum, isum_cong (fun k hk => h k (by omega)), h n (by omega)]
theorem isum_upd {f g : Nat → Int32} {i : Nat} : ∀ {n : Nat}, i < n → (∀ k, k < n → k ≠ i → g k = f k) → isum g n = isum f n + (g i - f i)
  | 0, h, _ => absurd h (Nat.not_lt_zero _)
  | n + 1, h, hg => by
    rw [isum, isum]
    by_cases q : i = n
    · subst q
      rw [isum_cong (f := g) (g := f) (fun k hk => hg k (by omega) (by omega))]
      grind
    · rw [isum_upd (by omega) (fun k hk => hg k (by omega)), hg n (by omega) (fun h => q h.symm)]
      grind
theorem isum_nat {f : Nat → Int32} {c : Nat} : ∀ {n : Nat}, (∀ k, k < n → ∃ j, j ≤ c ∧ f k = nI j) → ∃ j, j ≤ n * c ∧ isum f n = nI j
  | 0, _ => ⟨0, by omega, rfl⟩
  | n + 1, h => by
    obtain ⟨j, hj, e⟩ := isum_nat (n := n) (fun k hk => h k (by omega))
    obtain ⟨i, hi, e2⟩ := h n (by omega)
    refine ⟨j + i, ?_, ?_⟩
    · rw [Nat.succ_mul]; omega
    · rw [isum, e, e2, nI_add]
theorem isum_zero {f : Nat → Int32} : ∀ {n : Nat}, (∀ k, k < n → f k = 0) → isum f n = 0
  | 0, _ => rfl
  | n + 1, h => by rw [isum, isum_zero (fun k hk => h k (by omega)), h n (by omega)]; rfl
theorem isum_ext {f : Nat → Int32} {n : Nat} : ∀ {m : Nat}, (∀ k, n ≤ k → k < n + m → f k = 0) → isum f (n + m) = isum f n
  | 0, _ => rfl
  | m + 1, h => by rw [← Nat.add_assoc, isum, isum_ext (fun k h1 h2 => h k h1 (by omega)), h (n + m) (by omega) (by omega)]; grind
/-! bits -/
theorem sh1 {p : Nat} (h : p < 32) : (1 : Int32) <<< (nI p &&& 31) = nI (2 ^ p) := (by decide +kernel : ∀ p, p < 32 → (1 : Int32) <<< (nI p &&& 31) = nI (2 ^ p)) p h
theorem bt_pow {p : Nat} (h : p < 32) (i : Nat) : bt (nI (2 ^ p)) i = decide (i = p) := by
  rcases Nat.lt_or_ge i 32 with q | q
  · exact (by decide +kernel : ∀ p, p < 32 → ∀ i, i < 32 → bt (nI (2 ^ p)) i = decide (i = p)) p h i q
  · rw [b_big q, decide_eq_false (by omega)]
theorem bt_1 (i : Nat) : bt 1 i = decide (i = 0) := bt_pow (p := 0) (by decide) i
theorem bt_orp (x : Int32) {p : Nat} (h : p < 32) (i : Nat) : bt (x ||| nI (2 ^ p)) i = (bt x i || decide (i = p)) := by rw [b_or, bt_pow h]
theorem bt_xorp (x : Int32) {p : Nat} (h : p < 32) (i : Nat) : bt (x ^^^ nI (2 ^ p)) i = (bt x i ^^ decide (i = p)) := by rw [b_xor, bt_pow h]
theorem bt_not (x : Int32) {i : Nat} (h : i < 32) : bt (x ^^^ (-1)) i = !bt x i := by rw [b_xor, b_m1 i h]; cases bt x i <;> rfl
theorem bt_offp (x : Int32) {p : Nat} (h : p < 32) (i : Nat) : bt (x &&& (nI (2 ^ p) ^^^ (-1))) i = (bt x i && !decide (i = p)) := by
  rcases Nat.lt_or_ge i 32 with q | q
  · rw [b_and, bt_not _ q, bt_pow h]
  · rw [b_big q, b_big q]; rfl
theorem and1 (x : Int32) {p : Nat} (h : p < 32) : (x &&& nI (2 ^ p) = 0) ↔ bt x p = false := by
  constructor
  · intro e
    have a : bt (x &&& nI (2 ^ p)) p = false := by rw [e, b_0]
    rw [b_and, bt_pow h, decide_eq_true rfl, Bool.and_true] at a
    exact a
  · intro e
    apply b_ext
    intro i _
    rw [b_and, bt_pow h, b_0]
    by_cases q : i = p
    · subst q; rw [e]; rfl
    · rw [decide_eq_false q, Bool.and_false]
theorem and1i {α : Type} (x : Int32) {p : Nat} (h : p < 32) (A B : α) : (if x &&& nI (2 ^ p) = 0 then A else B) = if bt x p = true then B else A := by
  cases e : bt x p
  · rw [if_pos ((and1 x h).mpr e), if_neg (by decide)]
  · rw [if_neg (fun q => by rw [(and1 x h).mp q] at e; cases e), if_pos rfl]
theorem shr1 (x : Int32) {p : Nat} (h : p < 32) : (x >>> (nI p &&& 31)) &&& 1 = b1 (bt x p) := by
  apply b_ext
  intro i hi
  rw [b_and, bt_1, b_sshr p h x hi]
  by_cases q : i = 0
  · subst q
    rw [decide_eq_true rfl, Bool.and_true, if_pos (by omega)]
    cases bt x (p + 0) <;> rfl
  · rw [decide_eq_false q, Bool.and_false]
    cases bt x p
    · exact (b_0 i).symm
    · show false = bt 1 i
      rw [bt_1, decide_eq_false q]
theorem bt_nI {s : Nat} {i : Nat} (h : i < 32) : bt (nI s) i = s.testBit i := by
  show (BitVec.ofNat 32 s).getLsbD i = _
  rw [BitVec.getLsbD_ofNat, decide_eq_true h, Bool.true_and]
theorem bt_lt {s n : Nat} (hs : s < 2 ^ n) {i : Nat} (h : bt (nI s) i = true) : i < n := by
  rcases Nat.lt_or_ge i 32 with q | q
  · rw [bt_nI q] at h
    rcases Nat.lt_or_ge i n with r | r
    · exact r
    · rw [Nat.testBit_lt_two_pow (Nat.lt_of_lt_of_le hs (Nat.pow_le_pow_right (by decide) r))] at h; cases h
  · rw [b_big q] at h; cases h
theorem of_bits {x : Int32} {n : Nat} (hn : n ≤ 32) (h : ∀ i, bt x i = true → i < n) : ∃ s, s < 2 ^ n ∧ x = nI s := by
  refine ⟨x.toBitVec.toNat, ?_, ?_⟩
  · apply Nat.lt_pow_two_of_testBit
    intro i hi
    cases e : x.toBitVec.toNat.testBit i
    · rfl
    · exact absurd (h i e) (by omega)
  · apply Int32.toBitVec_inj.mp
    show _ = BitVec.ofNat 32 _
    simp
theorem pow31 {n : Nat} (h : n ≤ 12) : 2 ^ n ≤ 4096 := Nat.pow_le_pow_right (n := 2) (by decide) h
/-! how many bits -/
def cntN (x : Int32) : Nat := fb_ct (bt x) 32
theorem cnt_le (x : Int32) : cntN x ≤ 32 := fb_ct_le _ _
theorem cnt_zero {x : Int32} : cntN x = 0 ↔ x = 0 := by
  unfold cntN
  rw [fb_ct_zero]
  constructor
  · intro h; apply b_ext; intro i hi; rw [h i hi, b_0]
  · intro h k _; rw [h, b_0]
theorem cnt_add {x y : Int32} {p : Nat} (hp : p < 32) (h0 : bt x p = false) (h : ∀ i, bt y i = (bt x i || decide (i = p))) : cntN y = cntN x + 1 := by
  unfold cntN
  have a := fb_ct_upd (bt x) true (i := p) (n := 32) hp
  have e : fb_ct (fun k => if k = p then true else bt x k) 32 = fb_ct (bt y) 32 := fb_ct_cong (fun k _ => by
    by_cases q : k = p
    · rw [if_pos q, h k, decide_eq_true q, Bool.or_true]
    · rw [if_neg q, h k, decide_eq_false q, Bool.or_false])
  rw [e, h0] at a
  simpa using a
theorem bits_s (N : Nat) (M : Mem) (x : Int32) (hN : 32 < N) : fX7_bits N M x = some (nI (cntN x)) := by
  obtain ⟨k, hk⟩ := lp (fun k (s : Int32 × Int32) => fX7_bits_4 N M x k s.1 s.2) (fun p => (nI (fb_ct (bt x) p), nI p)) 32 (fun k p hp => by
    show fX7_bits_4 N M x (k + 1) (nI (fb_ct (bt x) p)) (nI p) = fX7_bits_4 N M x k (nI (fb_ct (bt x) (p + 1))) (nI (p + 1))
    have h : ¬ (32 : Int32) ≤ nI p := nI_ge hp (by decide)
    rw [fX7_bits_4, if_neg h, nm_eq, shr1 x hp, nI_1, fb_ct_succ]
    congr 1
    cases bt x p
    · show nI _ + nI 0 = _
      rw [nI_add]; rfl
    · show nI _ + nI 1 = _
      rw [nI_add]; rfl) hN
  unfold fX7_bits
  refine hk.trans ?_
  show fX7_bits_4 N M x (k + 1) (nI (fb_ct (bt x) 32)) (nI 32) = _
  have h : (32 : Int32) ≤ nI 32 := nI_le (Nat.le_refl 32) (by decide)
  rw [fX7_bits_4, if_pos h]; rfl
def swar (v : Int32) : Int32 :=
  let x1 := v - (((v.toUInt32 >>> ((1 : Int32).toUInt32 &&& Int32.toUInt32 31)).toInt32) &&& 1431655765)
  let x2 := (x1 &&& 858993459) + (((x1.toUInt32 >>> ((2 : Int32).toUInt32 &&& Int32.toUInt32 31)).toInt32) &&& 858993459)
  let x3 := (x2 + ((x2.toUInt32 >>> ((4 : Int32).toUInt32 &&& Int32.toUInt32 31)).toInt32)) &&& 252645135
  let x4 := x3 + ((x3.toUInt32 >>> ((8 : Int32).toUInt32 &&& Int32.toUInt32 31)).toInt32)
  let x5 := x4 + ((x4.toUInt32 >>> ((16 : Int32).toUInt32 &&& Int32.toUInt32 31)).toInt32)
  x5 &&& 63
theorem swar_all : ((List.range 4096).all fun s => decide (swar (nI s) = nI (cntN (nI s)))) = true := by decide +kernel
theorem bc_n (N : Nat) (M : Mem) {s : Nat} (h : s < 4096) : fJ6_bitCount_0f7a4 N M (nI s) = some (nI (cntN (nI s))) := by
  have a := of_decide_eq_true (List.all_eq_true.mp swar_all s (List.mem_range.mpr h))
  show some (swar (nI s)) = _
  rw [a]
theorem bc_s (N : Nat) (M : Mem) {x : Int32} (h : ∀ i, bt x i = true → i < 12) : fJ6_bitCount_0f7a4 N M x = some (nI (cntN x)) := by
  obtain ⟨s, hs, rfl⟩ := of_bits (n := 12) (by decide) h
  exact bc_n N M hs
