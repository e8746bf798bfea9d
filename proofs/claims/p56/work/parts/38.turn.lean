/-! ===== in turn ===== -/
theorem lpI {S R : Type} (F : Nat → S → Option R) (I : Nat → S → Prop) (n : Nat) (hs : ∀ k p s, p < n → I p s → ∃ s', I (p + 1) s' ∧ F (k + 1) s = F k s') {N : Nat} (h : n < N) {s0 : S} (h0 : I 0 s0) : ∃ k s, I n s ∧ F N s0 = F (k + 1) s := by
  have key : ∀ j p k s, p + j = n → I p s → ∃ s', I n s' ∧ F (k + j) s = F k s' := by
    intro j
    induction j with
    | zero => intro p k s e hi; simp at e; subst e; exact ⟨s, hi, rfl⟩
    | succ j ih =>
      intro p k s e hi
      obtain ⟨s', hi', e'⟩ := hs (k + j) p s (by omega) hi
      obtain ⟨s'', hi'', e''⟩ := ih (p + 1) k s' (by omega) hi'
      exact ⟨s'', hi'', by rw [← Nat.add_assoc, e', e'']⟩
  obtain ⟨s', hi', e'⟩ := key n 0 (N - n - 1 + 1) s0 (by omega) h0
  exact ⟨N - n - 1, s', hi', (congrArg (fun q => F q s0) (by omega : N = N - n - 1 + 1 + n)).trans e'⟩
def bl (x : Int64) (i : Nat) : Bool := x.toBitVec.getLsbD i
theorem bl_or (x y : Int64) (i : Nat) : bl (x ||| y) i = (bl x i || bl y i) := by unfold bl; rw [Int64.toBitVec_or, BitVec.getLsbD_or]
theorem bl_and (x y : Int64) (i : Nat) : bl (x &&& y) i = (bl x i && bl y i) := by unfold bl; rw [Int64.toBitVec_and, BitVec.getLsbD_and]
theorem bl_0 (i : Nat) : bl 0 i = false := BitVec.getLsbD_zero
theorem bl_ext {x y : Int64} (h : ∀ i, i < 64 → bl x i = bl y i) : x = y := Int64.toBitVec_inj.mp (BitVec.eq_of_getLsbD_eq (fun i hi => h i hi))
theorem bl_pow {k : Nat} (h : k < 64) {i : Nat} (hi : i < 64) : bl (lN (2 ^ k)) i = decide (i = k) := (by decide +kernel : ∀ k, k < 64 → ∀ i, i < 64 → bl (lN (2 ^ k)) i = decide (i = k)) k h i hi
theorem sh1L {k : Nat} (h : k < 64) : (1 : Int64) <<< ((nI k).toInt64 &&& 63) = lN (2 ^ k) := (by decide +kernel : ∀ k, k < 64 → (1 : Int64) <<< ((nI k).toInt64 &&& 63) = lN (2 ^ k)) k h
theorem bl_and0 (x : Int64) {k : Nat} (h : k < 64) : (lg_cmp (x &&& lN (2 ^ k)) 0 = 0) ↔ bl x k = false := by
  rw [lg_cmp_eq]
  constructor
  · intro e
    have a : bl (x &&& lN (2 ^ k)) k = false := by rw [e, bl_0]
    rw [bl_and, bl_pow h h, decide_eq_true rfl, Bool.and_true] at a
    exact a
  · intro e
    apply bl_ext
    intro i hi
    rw [bl_and, bl_pow h hi, bl_0]
    by_cases q : i = k
    · subst q; rw [e]; rfl
    · rw [decide_eq_false q, Bool.and_false]
/-- set s is among those seen -/
def sn (M : Mem) (c s : Nat) : Bool := bl (M.2 (c + 1) (s / 64)) (s % 64)
theorem see_c {N : Nat} {M : Mem} {c s : Nat} (hs : s < 4096) : ∃ M', fX0_see N M c (nI s) = some M' ∧ M'.1 = M.1 ∧ (∀ x i, x ≠ c + 1 → M'.2 x i = M.2 x i) ∧ ∀ j, j < 4096 → sn M' c j = (sn M c j || decide (j = s)) := by
  unfold fX0_see
  rw [if_neg (nI_pos (by omega)), if_neg (show ¬ (4096 : Int32) ≤ nI s from nI_ge (b := 4096) hs (by decide)), show (64 : Int32) = nI 64 from rfl, pk_rem (by omega) (by decide) (by decide), pk_div (by omega) (by decide) (by decide), gd_nI (by omega) (by decide), nI_clamp (by omega), sh1L (by omega), nm_eq]
  refine ⟨_, rfl, rfl, fun x i hx => sJ_o (Or.inl hx), fun j hj => ?_⟩
  unfold sn
  by_cases q : j / 64 = s / 64
  · rw [q, sJ_s, bl_or, bl_pow (by omega) (by omega)]
    congr 1
    exact decide_eq_decide.mpr (by omega)
  · rw [sJ_o (Or.inr q), decide_eq_false (by omega), Bool.or_false]
theorem seen_c {N : Nat} {M : Mem} {c s : Nat} (hs : s < 4096) : fX0_isSeen N M c (nI s) = some (b1 (sn M c s)) := by
  unfold fX0_isSeen sn
  rw [if_neg (nI_pos (by omega)), if_neg (show ¬ (4096 : Int32) ≤ nI s from nI_ge (b := 4096) hs (by decide)), show (64 : Int32) = nI 64 from rfl, pk_rem (by omega) (by decide) (by decide), pk_div (by omega) (by decide) (by decide), gd_nI (by omega) (by decide), nI_clamp (by omega), sh1L (by omega)]
  cases e : bl (M.2 (c + 1) (s / 64)) (s % 64)
  · rw [if_pos ((bl_and0 _ (by omega)).mpr e)]; rfl
  · rw [if_neg (fun q => by rw [(bl_and0 _ (by omega)).mp q] at e; cases e)]; rfl
/-! the sets one behind the other -/
theorem rnd_bits {C : Nat → Nat → Int32} {n : Nat} {d : Int32} (hn : n ≤ 12) (hd : ∀ i, bt d i = true → i < n) : ∀ p, p ≤ n → ∀ i, bt (rnd C d p) i = true → i < n
  | 0, _, i, h => hd i h
  | p + 1, hp, i, h => by
    rw [rnd] at h
    by_cases q : wld C p (rnd C d p) = true
    · rw [if_pos q, bt_xorp _ (by omega)] at h
      by_cases r : i = p
      · omega
      · rw [decide_eq_false r] at h
        exact rnd_bits hn hd p (by omega) i (by simpa using h)
    · rw [if_neg q] at h; exact rnd_bits hn hd p (by omega) i h
def xs (C : Nat → Nat → Int32) (n : Nat) (d : Int32) : Nat → Int32
  | 0 => d
  | r + 1 => rnd C (xs C n d r) n
theorem xs_bits {C : Nat → Nat → Int32} {n : Nat} {d : Int32} (hn : n ≤ 12) (hd : ∀ i, bt d i = true → i < n) : ∀ r, ∀ i, bt (xs C n d r) i = true → i < n
  | 0, i, h => hd i h
  | r + 1, i, h => rnd_bits hn (xs_bits hn hd r) n (Nat.le_refl n) i h
theorem xs_N {C : Nat → Nat → Int32} {n : Nat} {d : Int32} (hn : n ≤ 12) (hd : ∀ i, bt d i = true → i < n) (r : Nat) : ∃ s, s < 2 ^ n ∧ xs C n d r = nI s := of_bits (by omega) (xs_bits hn hd r)
def xN (C : Nat → Nat → Int32) (n : Nat) (d : Int32) (r : Nat) : Nat := (xs C n d r).toNatClampNeg
theorem xN_s {C : Nat → Nat → Int32} {n : Nat} {d : Int32} (hn : n ≤ 12) (hd : ∀ i, bt d i = true → i < n) (r : Nat) : xN C n d r < 2 ^ n ∧ xs C n d r = nI (xN C n d r) := by
  have h31 := pow31 hn
  obtain ⟨s, hs, e⟩ := xs_N (C := C) hn hd r
  unfold xN
  rw [e, nI_clamp (by omega)]
  exact ⟨hs, rfl⟩
theorem xN_eq {C : Nat → Nat → Int32} {n : Nat} {d : Int32} (hn : n ≤ 12) (hd : ∀ i, bt d i = true → i < n) (r q : Nat) : xs C n d r = xs C n d q ↔ xN C n d r = xN C n d q := by
  have h31 := pow31 hn
  have a := xN_s (C := C) hn hd r
  have b := xN_s (C := C) hn hd q
  constructor
  · intro h; unfold xN; rw [h]
  · intro h; rw [a.2, b.2, h]
/-- where round r leads to is one of the sets from the first to the r-th -/
def bk (C : Nat → Nat → Int32) (n : Nat) (d : Int32) (r : Nat) : Nat := fa_first (fun j => decide (xs C n d j = xs C n d (r + 1))) (r + 1)
def hit (C : Nat → Nat → Int32) (n : Nat) (d : Int32) (r : Nat) : Bool := decide (bk C n d r < r + 1)
def lst (C : Nat → Nat → Int32) (n : Nat) (d : Int32) : Nat := fa_first (hit C n d) 4096
theorem hit_of {C : Nat → Nat → Int32} {n : Nat} {d : Int32} {j r : Nat} (hj : j ≤ r) (h : xs C n d j = xs C n d (r + 1)) : hit C n d r = true := by
  unfold hit bk
  rw [decide_eq_true_eq]
  have hle := fa_first_le (fun j => decide (xs C n d j = xs C n d (r + 1))) (r + 1)
  rcases Nat.lt_or_ge (fa_first (fun j => decide (xs C n d j = xs C n d (r + 1))) (r + 1)) (r + 1) with q | q
  · exact q
  · have a := fa_first_no (fun j => decide (xs C n d j = xs C n d (r + 1))) (r + 1) j (by omega)
    rw [decide_eq_false_iff_not] at a
    exact absurd h a
theorem lst_lt {C : Nat → Nat → Int32} {n : Nat} {d : Int32} (hn : n ≤ 12) (hd : ∀ i, bt d i = true → i < n) : lst C n d < 4096 := by
  have h31 := pow31 hn
  obtain ⟨i, j, hij, hj, e⟩ := fb_twice (m := 2 ^ n) (n := 2 ^ n + 1) (f := xN C n d) (fun r _ => (xN_s hn hd r).1) (by omega)
  have hle := fa_first_le (hit C n d) 4096
  rcases Nat.lt_or_ge (lst C n d) 4096 with q | q
  · exact q
  · have a := fa_first_no (hit C n d) 4096 (j - 1) (by show j - 1 < lst C n d; omega)
    rw [hit_of (j := i) (r := j - 1) (by omega) (by rw [show j - 1 + 1 = j by omega]; exact (xN_eq hn hd i j).mpr e)] at a
    cases a
theorem lst_no {C : Nat → Nat → Int32} {n : Nat} {d : Int32} {i j : Nat} (hij : i < j) (hj : j ≤ lst C n d) : xs C n d i ≠ xs C n d j := fun e => by
  have a := fa_first_no (hit C n d) 4096 (j - 1) (by show j - 1 < lst C n d; omega)
  rw [hit_of (j := i) (r := j - 1) (by omega) (by rw [show j - 1 + 1 = j by omega]; exact e)] at a
  cases a
theorem bk_yes {C : Nat → Nat → Int32} {n : Nat} {d : Int32} (hn : n ≤ 12) (hd : ∀ i, bt d i = true → i < n) : bk C n d (lst C n d) ≤ lst C n d ∧ xs C n d (bk C n d (lst C n d)) = xs C n d (lst C n d + 1) := by
  have a := fa_first_yes (hit C n d) 4096 (lst_lt hn hd)
  have b : bk C n d (lst C n d) < lst C n d + 1 := of_decide_eq_true a
  have c := fa_first_yes (fun j => decide (xs C n d j = xs C n d (lst C n d + 1))) (lst C n d + 1) b
  exact ⟨by omega, of_decide_eq_true c⟩
theorem xs_add (C : Nat → Nat → Int32) (n : Nat) (d : Int32) (j : Nat) : ∀ i, xs C n (xs C n d j) i = xs C n d (j + i)
  | 0 => rfl
  | i + 1 => by rw [xs, xs_add C n d j i]; rfl
/-- how many changes: bits that differ -/
def chg (C : Nat → Nat → Int32) (n : Nat) (d : Int32) (r : Nat) : Int32 := nI (cntN (xs C n d r ^^^ xs C n d (r + 1)))
theorem xor_bits {x y : Int32} {n : Nat} (hx : ∀ i, bt x i = true → i < n) (hy : ∀ i, bt y i = true → i < n) : ∀ i, bt (x ^^^ y) i = true → i < n := fun i h => by
  rw [b_xor] at h
  cases e : bt x i
  · rw [e] at h; exact hy i (by simpa using h)
  · exact hx i e
/-! the class -/
theorem back_c {N : Nat} {M : Mem} {c n e j : Nat} {C : Nat → Nat → Int32} (hV : CV M c C) (hC : RC n C) {d : Int32} (he : e < 4096) (hj : j ≤ e) (h2 : xs C n d j = xs C n d (e + 1)) (hno : ∀ i k, i < k → k ≤ e → xs C n d i ≠ xs C n d k) (hN : 4097 < N) :
    fX0_roundsBackTo N M c (xs C n d (e + 1)) = some (nI (e + 1 - j)) := by
  unfold fX0_roundsBackTo
  obtain ⟨k, hk⟩ := lp (fun k (s : Int32 × Int32) => fX0_roundsBackTo_4 N M c (xs C n d (e + 1)) k s.1 s.2) (fun p => (xs C n d (j + p), nI (p + 1))) (e - j) (fun k p hp => by
    show fX0_roundsBackTo_4 N M c (xs C n d (e + 1)) (k + 1) (xs C n d (j + p)) (nI (p + 1)) = fX0_roundsBackTo_4 N M c (xs C n d (e + 1)) k (xs C n d (j + (p + 1))) (nI (p + 1 + 1))
    rw [fX0_roundsBackTo_4, if_neg (show ¬ (4096 : Int32) < nI (p + 1) from nI_nlt (a := 4096) (by omega) (by omega)), round_c N hV hC _ (by omega), bd_some, if_neg, nI_1]
    · rfl
    · show ¬ xs C n d (j + p + 1) = xs C n d (e + 1)
      intro q
      exact hno j (j + p + 1) (by omega) (by omega) (h2.trans q.symm)) (N := N) (by omega)
  have e0 : xs C n d (e + 1) = xs C n d (j + 0) := by rw [Nat.add_zero]; exact h2.symm
  refine Eq.trans ?_ (hk.trans ?_)
  · show fX0_roundsBackTo_4 N M c (xs C n d (e + 1)) N (xs C n d (e + 1)) 1 = fX0_roundsBackTo_4 N M c (xs C n d (e + 1)) N (xs C n d (j + 0)) (nI (0 + 1))
    rw [← e0]; rfl
  · show fX0_roundsBackTo_4 N M c (xs C n d (e + 1)) (k + 1) (xs C n d (j + (e - j))) (nI (e - j + 1)) = _
    rw [fX0_roundsBackTo_4, if_neg (show ¬ (4096 : Int32) < nI (e - j + 1) from nI_nlt (a := 4096) (by omega) (by omega)), round_c N hV hC _ (by omega), bd_some, if_pos (show rnd C (xs C n d (j + (e - j))) n = xs C n d (e + 1) by rw [show j + (e - j) = e by omega]; rfl), show e - j + 1 = e + 1 - j by omega]
/-- the class's course is run: its three numbers; else only its own cells are new -/
def RunC (M M' : Mem) (c : Nat) (C : Nat → Nat → Int32) (n : Nat) (d : Int32) (e j : Nat) : Prop :=
  M'.1 c 1 = xs C n d (e + 1) ∧ M'.1 c 2 = isum (chg C n d) (e + 1) ∧ M'.1 c 3 = nI (if j = e then 0 else e + 1 - j) ∧ (∀ x i, x ≠ c → M'.1 x i = M.1 x i) ∧ (∀ x i, x ≠ c + 1 → M'.2 x i = M.2 x i)
theorem run_c {N : Nat} {M : Mem} {q c n : Nat} {C : Nat → Nat → Int32} (hV : CV M q C) (hC : RC n C) (hq : q + 7 < c ∨ c < q) {d : Int32} (hd : ∀ i, bt d i = true → i < n) {e j : Nat} (he : e < 4096) (hj : j ≤ e) (h2 : xs C n d j = xs C n d (e + 1)) (hno : ∀ i k, i < k → k ≤ e → xs C n d i ≠ xs C n d k) (hN : 4097 < N) : ∃ M', fX0_run N M c q d = some M' ∧ RunC M M' c C n d e j := by
  have hn := hC.1.2
  have h31 := pow31 hn
  unfold fX0_run
  rw [fill_J _ _ _ (by decide) hN, bd_some, nm_eq, nm_eq, nm_eq]
  have hbit : ∀ r i, bt (xs C n d r) i = true → i < 12 := fun r i h => Nat.lt_of_lt_of_le (xs_bits hn hd r i h) hn
  -- a round, up to the test
  have step : ∀ (k r : Nat) (Mr : Mem), r ≤ e → (∀ x i, x ≠ c → Mr.1 x i = M.1 x i) → (∀ x i, x ≠ c + 1 → Mr.2 x i = M.2 x i) → Mr.1 c 1 = xs C n d r → Mr.1 c 2 = isum (chg C n d) r → Mr.1 c 3 = 0 → (∀ s, s < 4096 → sn Mr c s = decide (∃ j, j < r ∧ xN C n d j = s)) →
      ∃ Ms : Mem, (∀ x i, x ≠ c → Ms.1 x i = M.1 x i) ∧ (∀ x i, x ≠ c + 1 → Ms.2 x i = M.2 x i) ∧ Ms.1 c 1 = xs C n d (r + 1) ∧ Ms.1 c 2 = isum (chg C n d) (r + 1) ∧ Ms.1 c 3 = 0 ∧ (∀ s, s < 4096 → sn Ms c s = decide (∃ j, j < r + 1 ∧ xN C n d j = s)) ∧
        fX0_run_25 N c q (k + 1) Mr (nI r) = if xs C n d (r + 1) = xs C n d r then some Ms else if sn Ms c (xN C n d (r + 1)) = true then bd (fX0_roundsBackTo N Ms q (xs C n d (r + 1))) (fun r11 => some (sI Ms c 3 r11)) else fX0_run_25 N c q k Ms (nI (r + 1)) := by
    intro k r Mr hr f1 f2 g1 g2 g3 g4
    have xr := xN_s (C := C) hn hd r
    have xr1 := xN_s (C := C) hn hd (r + 1)
    obtain ⟨Ma, s1, s2, s3, s4⟩ := see_c (N := N) (M := Mr) (c := c) (s := xN C n d r) (by omega)
    have hVa : CV Ma q C := CV_fr (fun j hj i => by rw [s2, f1 _ _ (by omega)]) hV
    let Mb := sI Ma c 1 (xs C n d (r + 1))
    let Mc := sI Mb c 2 (isum (chg C n d) (r + 1))
    refine ⟨Mc, fun x i hx => ?_, fun x i hx => ?_, ?_, ?_, ?_, fun s hs => ?_, ?_⟩
    · show (sI (sI Ma c 1 _) c 2 _).1 x i = _
      rw [sI_o (Or.inl hx), sI_o (Or.inl hx), s2, f1 x i hx]
    · show Ma.2 x i = _
      rw [s3 x i hx, f2 x i hx]
    · show (sI (sI Ma c 1 _) c 2 _).1 c 1 = _
      rw [sI_o (by omega), sI_s]
    · show (sI (sI Ma c 1 _) c 2 _).1 c 2 = _
      rw [sI_s]
    · show (sI (sI Ma c 1 _) c 2 _).1 c 3 = _
      rw [sI_o (by omega), sI_o (by omega), s2, g3]
    · show sn Ma c s = _
      rw [s4 s hs, g4 s hs]
      by_cases hx : ∃ j, j < r ∧ xN C n d j = s
      · obtain ⟨j, hj, ej⟩ := hx
        rw [decide_eq_true (show ∃ j, j < r ∧ xN C n d j = s from ⟨j, hj, ej⟩), decide_eq_true (show ∃ j, j < r + 1 ∧ xN C n d j = s from ⟨j, by omega, ej⟩)]; rfl
      · rw [decide_eq_false hx, Bool.false_or]
        by_cases hs2 : s = xN C n d r
        · rw [decide_eq_true hs2, decide_eq_true (show ∃ j, j < r + 1 ∧ xN C n d j = s from ⟨r, by omega, hs2.symm⟩)]
        · rw [decide_eq_false hs2, decide_eq_false]
          rintro ⟨j, hj, ej⟩
          by_cases hjr : j = r
          · subst hjr; exact hs2 ej.symm
          · exact hx ⟨j, by omega, ej⟩
    · have e1 : Ma.1 c 1 = xs C n d r := by rw [s2, g1]
      have e2 : fX4_afterRound N Ma q (xs C n d r) = some (xs C n d (r + 1)) := round_c N hVa hC _ (by omega)
      have e3 : (sI Ma c 1 (xs C n d (r + 1))).1 c 1 = xs C n d (r + 1) := sI_s
      have e4 : (sI Ma c 1 (xs C n d (r + 1))).1 c 2 = isum (chg C n d) r := by rw [sI_o (by omega), s2, g2]
      have e5 : fJ6_bitCount_0f7a4 N (sI Ma c 1 (xs C n d (r + 1))) (xs C n d r ^^^ xs C n d (r + 1)) = some (chg C n d r) := bc_s N _ (xor_bits (hbit r) (hbit (r + 1)))
      have e6 : (sI (sI Ma c 1 (xs C n d (r + 1))) c 2 (isum (chg C n d) r + chg C n d r)).1 c 1 = xs C n d (r + 1) := by rw [sI_o (by omega), sI_s]
      have s1' : fX0_see N Mr c (xs C n d r) = some Ma := by rw [xr.2]; exact s1
      have s5 : ∀ M7, fX0_isSeen N M7 c (xs C n d (r + 1)) = some (b1 (sn M7 c (xN C n d (r + 1)))) := fun M7 => by
        have := seen_c (N := N) (M := M7) (c := c) (s := xN C n d (r + 1)) (by omega)
        rw [← xr1.2] at this; exact this
      rw [fX0_run_25, if_neg (show ¬ (4096 : Int32) < nI r from nI_nlt (a := 4096) (by omega) (by omega)), g1, s1', bd_some, e1, nm_eq, e2, bd_some, nm_eq, e3, e5, bd_some, nm_eq, e4, e6, s5, bd_some, b1_if, nI_1]
      show _ = if xs C n d (r + 1) = xs C n d r then some (sI (sI Ma c 1 (xs C n d (r + 1))) c 2 (isum (chg C n d) r + chg C n d r)) else if sn (sI (sI Ma c 1 (xs C n d (r + 1))) c 2 (isum (chg C n d) r + chg C n d r)) c (xN C n d (r + 1)) = true then _ else _
      by_cases z1 : xs C n d (r + 1) = xs C n d r
      · rw [if_pos z1, if_pos z1]
      · rw [if_neg z1, if_neg z1]
        cases sn (sI (sI Ma c 1 (xs C n d (r + 1))) c 2 (isum (chg C n d) r + chg C n d r)) c (xN C n d (r + 1)) <;> rfl
  obtain ⟨k, ⟨Mr, w⟩, ⟨i1, i2, i3, i4, i5, i6, i7⟩, hk⟩ := lpI (fun k (s : Mem × Int32) => fX0_run_25 N c q k s.1 s.2)
    (fun r (s : Mem × Int32) => s.2 = nI r ∧ (∀ x i, x ≠ c → s.1.1 x i = M.1 x i) ∧ (∀ x i, x ≠ c + 1 → s.1.2 x i = M.2 x i) ∧ s.1.1 c 1 = xs C n d r ∧ s.1.1 c 2 = isum (chg C n d) r ∧ s.1.1 c 3 = 0 ∧ (∀ t, t < 4096 → sn s.1 c t = decide (∃ j, j < r ∧ xN C n d j = t))) e (fun k r s hr hi => by
      obtain ⟨Mr, w⟩ := s
      obtain ⟨j1, j2, j3, j4, j5, j6, j7⟩ := hi
      subst j1
      obtain ⟨Ms, a1, a2, a3, a4, a5, a6, a7⟩ := step k r Mr (by omega) j2 j3 j4 j5 j6 j7
      refine ⟨(Ms, nI (r + 1)), ⟨rfl, a1, a2, a3, a4, a5, a6⟩, ?_⟩
      show fX0_run_25 N c q (k + 1) Mr (nI r) = fX0_run_25 N c q k Ms (nI (r + 1))
      rw [a7, if_neg (fun z => hno r (r + 1) (by omega) (by omega) z.symm), if_neg]
      have xr1 := xN_s (C := C) hn hd (r + 1)
      rw [a6 _ (by omega), decide_eq_true_eq]
      rintro ⟨j, hj, ej⟩
      exact hno j (r + 1) hj (by omega) ((xN_eq hn hd j (r + 1)).mpr ej)) (N := N) (by omega)
    (s0 := (sI (sI (sI (fJ M (c + 1) (upto (fun _ => 0) (M.2 (c + 1)) 64)) c 1 d) c 2 0) c 3 0, (0 : Int32))) (by
      refine ⟨rfl, fun x i hx => ?_, fun x i hx => ?_, ?_, ?_, ?_, fun t ht => ?_⟩
      · show (sI (sI (sI (fJ M (c + 1) (upto (fun _ => 0) (M.2 (c + 1)) 64)) c 1 d) c 2 0) c 3 0).1 x i = _
        rw [sI_o (Or.inl hx), sI_o (Or.inl hx), sI_o (Or.inl hx)]; rfl
      · exact fJ_o hx i
      · show (sI (sI (sI (fJ M (c + 1) (upto (fun _ => 0) (M.2 (c + 1)) 64)) c 1 d) c 2 0) c 3 0).1 c 1 = _
        rw [sI_o (by omega), sI_o (by omega), sI_s]; rfl
      · show (sI (sI (sI (fJ M (c + 1) (upto (fun _ => 0) (M.2 (c + 1)) 64)) c 1 d) c 2 0) c 3 0).1 c 2 = _
        rw [sI_o (by omega), sI_s]; rfl
      · show (sI (sI (sI (fJ M (c + 1) (upto (fun _ => 0) (M.2 (c + 1)) 64)) c 1 d) c 2 0) c 3 0).1 c 3 = _
        rw [sI_s]
      · unfold sn
        show bl ((fJ M (c + 1) (upto (fun _ => 0) (M.2 (c + 1)) 64)).2 (c + 1) (t / 64)) (t % 64) = _
        rw [fJ_s, upto_in (by omega), bl_0, decide_eq_false]
        rintro ⟨j, hj, -⟩
        omega)
  dsimp only at i1 i2 i3 i4 i5 i6 i7
  subst i1
  obtain ⟨Ms, a1, a2, a3, a4, a5, a6, a7⟩ := step k e Mr (Nat.le_refl _) i2 i3 i4 i5 i6 i7
  have hk' : fX0_run_25 N c q N (sI (sI (sI (fJ M (c + 1) (upto (fun _ => 0) (M.2 (c + 1)) 64)) c 1 d) c 2 0) c 3 0) 0 = fX0_run_25 N c q (k + 1) Mr (nI e) := hk
  rw [hk', a7]
  by_cases z : xs C n d (e + 1) = xs C n d e
  · have zz : j = e := by
      rcases Nat.lt_or_ge j e with w | w
      · exact absurd (h2.trans z) (hno j e w (Nat.le_refl e))
      · omega
    rw [if_pos z]
    refine ⟨Ms, rfl, a3, a4, ?_, a1, a2⟩
    rw [a5, if_pos zz]; rfl
  · have zz : ¬ j = e := fun w => z (by rw [← h2, w])
    have xr1 := xN_s (C := C) hn hd (e + 1)
    have hs : sn Ms c (xN C n d (e + 1)) = true := by
      rw [a6 _ (by omega), decide_eq_true_eq]
      exact ⟨j, by omega, (xN_eq hn hd _ _).mp h2⟩
    rw [if_neg z, if_pos hs, back_c (CV_fr (fun j hj i => a1 _ _ (by omega)) hV) hC he hj h2 hno hN, bd_some]
    refine ⟨_, rfl, by rw [sI_o (by omega), a3], by rw [sI_o (by omega), a4], by rw [sI_s, if_neg zz], fun x i hx => by rw [sI_o (Or.inl hx), a1 x i hx], a2⟩
/-- there is such a round -/
theorem course (C : Nat → Nat → Int32) {n : Nat} {d : Int32} (hn : n ≤ 12) (hd : ∀ i, bt d i = true → i < n) : ∃ e j, e < 4096 ∧ j ≤ e ∧ xs C n d j = xs C n d (e + 1) ∧ ∀ i k, i < k → k ≤ e → xs C n d i ≠ xs C n d k :=
  ⟨lst C n d, bk C n d (lst C n d), lst_lt hn hd, (bk_yes hn hd).1, (bk_yes hn hd).2, fun _ _ h1 h2 => lst_no h1 h2⟩
