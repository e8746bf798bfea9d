/-! ===== the class's street: what each function answers ===== -/
section CLS
variable {N : Nat} {M : Mem} {c n : Nat} {C : Nat → Nat → Int32}
theorem CV0 (h : CV M c C) (i : Nat) : M.1 c i = C 0 i := h 0 (Nat.zero_le 7) i
theorem isIn_s (N : Nat) (M : Mem) (d : Int32) {p : Nat} (hp : p < 32) : fX4_isIn N M (nI p) d = some (b1 (bt d p)) := by
  unfold fX4_isIn
  rw [sh1 hp, and1i d hp]
  cases bt d p <;> rfl
theorem isMust_s (N : Nat) (hV : CV M c C) {p : Nat} (hp : p < 32) : fX4_isMust N M c (nI p) = some (b1 (bt (C 0 9) p)) := by
  unfold fX4_isMust
  rw [isIn_s _ _ _ hp, bd_some, gc_b1, CV0 hV]
theorem hasP_y (N : Nat) (hV : CV M c C) (hC : RC n C) {p : Nat} (hp : p < n) : fX4_hasPerson N M c (nI p) = some 1 := by
  have hn := hC.1.2
  unfold fX4_hasPerson
  rw [CV0 hV, hC.2.1, if_neg (nI_pos (by omega)), if_neg (nI_ge hp (by omega)), if_neg (show ¬ (12 : Int32) ≤ nI p from nI_ge (b := 12) (by omega) (by decide))]
theorem hasP_n (N : Nat) (hV : CV M c C) (hC : RC n C) {v : Int32} (h : v < 0 ∨ nI n ≤ v) : fX4_hasPerson N M c v = some 0 := by
  unfold fX4_hasPerson
  rw [CV0 hV, hC.2.1]
  by_cases q : v < 0
  · rw [if_pos q]
  · rw [if_neg q, if_pos (h.resolve_left q)]
theorem hasPair_y (N : Nat) (hV : CV M c C) (hC : RC n C) {p q : Nat} (hp : p < n) (hq : q < n) (h : p ≠ q) : fX4_hasPair N M c (nI p) (nI q) = some 1 := by
  have hn := hC.1.2
  unfold fX4_hasPair
  rw [hasP_y N hV hC hp, bd_some, if_neg (by decide), hasP_y N hV hC hq, bd_some, if_neg (by decide), if_neg (fun e => h ((nI_eq (by omega) (by omega)).mp e))]
theorem sets_s (N : Nat) (hV : CV M c C) (hC : RC n C) : fX4_sets N M c = some (nI (2 ^ n)) := by
  have hn := hC.1.2
  unfold fX4_sets
  rw [CV0 hV, hC.2.1, sh1 (by omega)]
theorem hasSet_y (N : Nat) (hV : CV M c C) (hC : RC n C) {s : Nat} (hs : s < 2 ^ n) : fX4_hasSet N M c (nI s) = some 1 := by
  have h := pow31 hC.1.2
  unfold fX4_hasSet
  rw [if_neg (nI_pos (by omega)), sets_s N hV hC, bd_some, if_neg (nI_ge hs (by omega))]
theorem hasSet_n (N : Nat) (hV : CV M c C) (hC : RC n C) {v : Int32} (h : v < 0 ∨ nI (2 ^ n) ≤ v) : fX4_hasSet N M c v = some 0 := by
  unfold fX4_hasSet
  by_cases q : v < 0
  · rw [if_pos q]
  · rw [if_neg q, sets_s N hV hC, bd_some, if_pos (h.resolve_left q)]
theorem areNear_s (N : Nat) (hV : CV M c C) (hC : RC n C) {p q : Nat} (hp : p < n) (hq : q < n) (h : p ≠ q) : fX4_areNear N M c (nI p) (nI q) = some (b1 (bt (C 3 p) q)) := by
  have hn := hC.1.2
  unfold fX4_areNear
  rw [hasPair_y N hV hC hp hq h, bd_some, if_neg (by decide), gd_nI (by omega) (by decide), nI_clamp (by omega), hV 3 (by decide), isIn_s _ _ _ (by omega), bd_some, b1_if]
  cases bt (C 3 p) q <;> rfl
theorem areNear_self (N : Nat) (M : Mem) (c : Nat) (p : Int32) : ∃ r, fX4_areNear N M c p p = some r ∧ r = 0 ∨ fX4_areNear N M c p p = some 0 := by
  refine ⟨0, ?_⟩
  unfold fX4_areNear fX4_hasPair
  unfold fX4_hasPerson
  by_cases h1 : p < 0
  · right; simp [h1, bd_some]
  · by_cases h2 : M.1 c 7 ≤ p
    · right; simp [h1, h2, bd_some]
    · by_cases h3 : 12 ≤ p
      · right; simp [h1, h2, h3, bd_some]
      · right; simp [h1, h2, h3, bd_some]
theorem gain_c (N : Nat) (hV : CV M c C) {p : Nat} (hp : p < 12) {d : Int32} (hd : ∀ i, bt d i = true → i < 12) : fX4_gainOf N M c (nI p) d = some (gS C p d) := by
  unfold fX4_gainOf
  have hb : ∀ i, bt ((C 3 p ||| nI (2 ^ p)) &&& d) i = true → i < 12 := fun i hi => hd i (by rw [b_and, Bool.and_eq_true] at hi; exact hi.2)
  rw [gd_nI hp (by decide), nI_clamp (by omega), sh1 (by omega), hV 3 (by decide), bc_s N M hb, bd_some]
  simp only [isIn_s N M d (show p < 32 by omega), bd_some, nm_eq, b1_if, hV 7 (by decide), hV 1 (by decide), hV 2 (by decide), CV0 hV]
  unfold gS
  by_cases h0 : hel C p d = 0
  · have h1 : nI (cntN ((C 3 p ||| nI (2 ^ p)) &&& d)) ≤ 0 := by
      show nI (hel C p d) ≤ 0
      rw [h0]; decide
    rw [if_pos h1, if_pos h0]
    cases bt d p <;> rfl
  · have h1 : ¬ nI (cntN ((C 3 p ||| nI (2 ^ p)) &&& d)) ≤ 0 := nI_nle (Nat.pos_of_ne_zero h0) (Nat.lt_of_le_of_lt (cnt_le _) (by decide))
    rw [if_neg h1, if_neg h0]
    cases bt d p <;> rfl
theorem good_c (N : Nat) (hV : CV M c C) (hC : RC n C) {d : Int32} (hd : ∀ i, bt d i = true → i < 12) (hN : 12 < N) : fX4_goodOf N M c d = some (isum (fun p => gS C p d) n) := by
  have hn := hC.1.2
  unfold fX4_goodOf
  obtain ⟨k, hk⟩ := lp (fun k (s : Int32 × Int32) => fX4_goodOf_4 N M c d k s.1 s.2) (fun p => (isum (fun p => gS C p d) p, nI p)) n (fun k p hp => by
    show fX4_goodOf_4 N M c d (k + 1) _ (nI p) = fX4_goodOf_4 N M c d k _ (nI (p + 1))
    rw [fX4_goodOf_4, CV0 hV, hC.2.1, if_neg (nI_ge hp (by omega)), gain_c N hV (by omega) hd, bd_some, nm_eq, nI_1]; rfl) (N := N) (by omega)
  refine hk.trans ?_
  show fX4_goodOf_4 N M c d (k + 1) _ (nI n) = _
  rw [fX4_goodOf_4, CV0 hV, hC.2.1, if_pos (nI_le (Nat.le_refl n) (by omega))]
theorem edge_c (N : Nat) (hV : CV M c C) {p : Nat} (hp : p < 12) (d : Int32) : fX4_edge N M c (nI p) d = some (edg C p d) := by
  unfold fX4_edge edg
  rw [gd_nI hp (by decide), nI_clamp (by omega), hV 3 (by decide), hV 2 (by decide), hV 1 (by decide), CV0 hV]
  by_cases h : C 3 p &&& d = 0
  · rw [if_pos h, if_pos h]; rfl
  · rw [if_neg h, if_neg h]; rfl
theorem gbc_c (N : Nat) (hV : CV M c C) {p : Nat} (hp : p < 12) (d : Int32) : fX4_gainByChange N M c (nI p) d = some (gbc C p d) := by
  unfold fX4_gainByChange gbc
  rw [edge_c N hV hp, bd_some, isIn_s _ _ _ (by omega), bd_some, b1_if]
  cases bt d p <;> rfl
theorem would_c (N : Nat) (hV : CV M c C) {p : Nat} (hp : p < 12) (d : Int32) : fX4_wouldChange N M c (nI p) d = some (b1 (wld C p d)) := by
  unfold fX4_wouldChange wld
  rw [isMust_s N hV (by omega), bd_some, b1_if, gbc_c N hV hp, bd_some]
  cases bt (C 0 9) p
  · rw [if_neg (by decide)]
    by_cases h : gbc C p d ≤ 0
    · rw [if_pos h, decide_eq_false (fun q => (le_nlt _ _).mp h q)]; rfl
    · rw [if_neg h, decide_eq_true (fa_of_nle h)]; rfl
  · rfl
def ndS (C : Nat → Nat → Int32) (p : Nat) (d : Int32) : Int32 := if wld C p d = true then gbc C p d else 0
theorem need_c (N : Nat) (hV : CV M c C) {p : Nat} (hp : p < 12) (d : Int32) : fX4_needOf N M c (nI p) d = some (ndS C p d) := by
  unfold fX4_needOf ndS
  rw [would_c N hV hp, bd_some, b1_if, gbc_c N hV hp, bd_some]
  cases wld C p d <;> rfl
theorem first_c (N : Nat) (hV : CV M c C) (hC : RC n C) (d : Int32) (hN : 12 < N) : fX4_firstRestless N M c d = some (fst1 (rsl C d) n) := by
  have hn := hC.1.2
  unfold fX4_firstRestless fst1
  have a := lp_first (fun k (p : Int32) => fX4_firstRestless_2 N M c d k p) nI (rsl C d) n (fun p => some (nI p)) (some (-1))
    (fun k p hp h => by
      show fX4_firstRestless_2 N M c d (k + 1) (nI p) = fX4_firstRestless_2 N M c d k (nI (p + 1))
      rw [fX4_firstRestless_2, CV0 hV, hC.2.1, if_neg (nI_ge hp (by omega)), isMust_s N hV (by omega), bd_some, b1_if, isIn_s _ _ _ (by omega), bd_some, b1_if, gbc_c N hV (by omega), bd_some, nI_1]
      unfold rsl at h
      cases e : bt (C 0 9) p
      · rw [e, if_neg (by decide), decide_eq_false_iff_not] at h
        rw [if_neg (by decide), if_pos ((le_nlt _ _).mpr h)]
      · rw [e, if_pos rfl] at h
        rw [if_pos rfl]
        cases e2 : bt d p
        · rw [e2] at h; cases h
        · rfl)
    (fun k p hp h => by
      show fX4_firstRestless_2 N M c d (k + 1) (nI p) = some (nI p)
      rw [fX4_firstRestless_2, CV0 hV, hC.2.1, if_neg (nI_ge hp (by omega)), isMust_s N hV (by omega), bd_some, b1_if, isIn_s _ _ _ (by omega), bd_some, b1_if, gbc_c N hV (by omega), bd_some, nI_1]
      unfold rsl at h
      cases e : bt (C 0 9) p
      · rw [e, if_neg (by decide), decide_eq_true_eq] at h
        rw [if_neg (by decide), if_neg (fun q => (le_nlt _ _).mp q h)]
      · rw [e, if_pos rfl] at h
        rw [if_pos rfl]
        cases e2 : bt d p
        · rfl
        · rw [e2] at h; cases h)
    (fun k => by
      show fX4_firstRestless_2 N M c d (k + 1) (nI n) = some (-1)
      rw [fX4_firstRestless_2, CV0 hV, hC.2.1, if_pos (nI_le (Nat.le_refl n) (by omega))]) (N := N) (by omega)
  refine a.trans ?_
  by_cases q : fa_first (rsl C d) n < n
  · rw [if_pos q, if_pos q]
  · rw [if_neg q, if_neg q]
theorem rest_c (N : Nat) (hV : CV M c C) (hC : RC n C) (d : Int32) (hN : 12 < N) : fX4_isRest N M c d = some (b1 (rst C n d)) := by
  have hn := hC.1.2
  unfold fX4_isRest
  rw [first_c N hV hC d hN, bd_some]
  by_cases h : rst C n d = true
  · rw [if_pos ((fst1_rst (by omega) d).mpr h), h]; rfl
  · rw [if_neg (fun q => h ((fst1_rst (by omega) d).mp q))]
    cases e : rst C n d
    · rfl
    · exact absurd e h
def cntR (P : Nat → Bool) (s : Nat) : Nat := fb_ct P s
theorem rests_c (N : Nat) (hV : CV M c C) (hC : RC n C) (hN : 4096 < N) : fX4_rests N M c = some (nI (fb_ct (fun s => rst C n (nI s)) (2 ^ n))) := by
  have h31 := pow31 hC.1.2
  unfold fX4_rests
  obtain ⟨k, hk⟩ := lp (fun k (s : Int32 × Int32) => fX4_rests_4 N M c k s.1 s.2) (fun p => (nI (fb_ct (fun s => rst C n (nI s)) p), nI p)) (2 ^ n) (fun k p hp => by
    show fX4_rests_4 N M c (k + 1) (nI (fb_ct (fun s => rst C n (nI s)) p)) (nI p) = fX4_rests_4 N M c k (nI (fb_ct (fun s => rst C n (nI s)) (p + 1))) (nI (p + 1))
    rw [fX4_rests_4, sets_s N hV hC, bd_some, if_neg (nI_ge hp (by omega)), rest_c N hV hC _ (by omega), bd_some, b1_if, nI_1, nI_1, fb_ct_succ]
    cases rst C n (nI p) <;> rfl) (N := N) (by omega)
  refine hk.trans ?_
  show fX4_rests_4 N M c (k + 1) _ (nI (2 ^ n)) = _
  rw [fX4_rests_4, sets_s N hV hC, bd_some, if_pos (nI_le (Nat.le_refl _) (by omega))]
/-- the i-th of the sets with a property -/
def ith (P : Nat → Bool) (i : Int32) (s : Nat) : Bool := P s && decide (nI (fb_ct P s) = i)
theorem restNo_c (N : Nat) (hV : CV M c C) (hC : RC n C) (i : Int32) (hN : 4096 < N) : fX4_restNumber N M c i = some (fst1 (ith (fun s => rst C n (nI s)) i) (2 ^ n)) := by
  have h31 := pow31 hC.1.2
  unfold fX4_restNumber fst1
  have a := lp_first (fun k (s : Int32 × Int32) => fX4_restNumber_4 N M c i k s.1 s.2) (fun p => (nI (fb_ct (fun s => rst C n (nI s)) p), nI p)) (ith (fun s => rst C n (nI s)) i) (2 ^ n) (fun p => some (nI p)) (some (-1))
    (fun k p hp h => by
      show fX4_restNumber_4 N M c i (k + 1) (nI (fb_ct (fun s => rst C n (nI s)) p)) (nI p) = fX4_restNumber_4 N M c i k (nI (fb_ct (fun s => rst C n (nI s)) (p + 1))) (nI (p + 1))
      rw [fX4_restNumber_4, sets_s N hV hC, bd_some, if_neg (nI_ge hp (by omega)), rest_c N hV hC _ (by omega), bd_some, b1_if, nI_1, nI_1, fb_ct_succ]
      unfold ith at h
      cases e : rst C n (nI p)
      · rfl
      · simp only [e, Bool.true_and, decide_eq_false_iff_not] at h
        rw [if_pos rfl, if_neg h]; rfl)
    (fun k p hp h => by
      show fX4_restNumber_4 N M c i (k + 1) (nI (fb_ct (fun s => rst C n (nI s)) p)) (nI p) = some (nI p)
      rw [fX4_restNumber_4, sets_s N hV hC, bd_some, if_neg (nI_ge hp (by omega)), rest_c N hV hC _ (by omega), bd_some, b1_if]
      unfold ith at h
      rw [Bool.and_eq_true, decide_eq_true_eq] at h
      rw [if_pos h.1, if_pos h.2])
    (fun k => by
      show fX4_restNumber_4 N M c i (k + 1) _ (nI (2 ^ n)) = some (-1)
      rw [fX4_restNumber_4, sets_s N hV hC, bd_some, if_pos (nI_le (Nat.le_refl _) (by omega))]) (N := N) (by omega)
  refine a.trans ?_
  by_cases q : fa_first (ith (fun s => rst C n (nI s)) i) (2 ^ n) < 2 ^ n
  · rw [if_pos q, if_pos q]
  · rw [if_neg q, if_neg q]
/-- those of a greatest value -/
def pick (P : Nat → Bool) (V : Nat → Int32) : Nat → Int32 × Int32
  | 0 => (-1, 0)
  | s + 1 => if P s = true then (if (pick P V s).1 = -1 then (nI s, V s) else if V s ≤ (pick P V s).2 then pick P V s else (nI s, V s)) else pick P V s
def csS (C : Nat → Nat → Int32) (n : Nat) (d : Int32) : Int32 := isum (fun p => if bt d p = true then C 1 p else 0) n
def vlS (C : Nat → Nat → Int32) (n : Nat) (by_ : Nat) (d : Int32) : Int32 :=
  if by_ = 0 then -(nI (cntN d)) else if by_ = 1 then nI (cntN d) else if by_ = 2 then -(csS C n d) else if by_ = 3 then isum (fun p => gS C p d) n else -(isum (fun p => gS C p d) n)
theorem cost_c (N : Nat) (hV : CV M c C) (hC : RC n C) (d : Int32) (hN : 12 < N) : fX4_costOf N M c d = some (csS C n d) := by
  have hn := hC.1.2
  unfold fX4_costOf csS
  obtain ⟨k, hk⟩ := lp (fun k (s : Int32 × Int32) => fX4_costOf_4 N M c d k s.1 s.2) (fun p => (isum (fun p => if bt d p = true then C 1 p else 0) p, nI p)) n (fun k p hp => by
    show fX4_costOf_4 N M c d (k + 1) _ (nI p) = fX4_costOf_4 N M c d k (isum (fun p => if bt d p = true then C 1 p else 0) p + (if bt d p = true then C 1 p else 0)) (nI (p + 1))
    rw [fX4_costOf_4, CV0 hV, hC.2.1, if_neg (nI_ge hp (by omega)), isIn_s _ _ _ (by omega), bd_some, b1_if, gd_nI (by omega) (by decide), nm_eq, nI_1, nI_clamp (by omega), hV 1 (by decide)]
    cases bt d p
    · rw [if_neg (by decide), if_neg (by decide), Int32.add_zero]
    · rfl) (N := N) (by omega)
  refine hk.trans ?_
  show fX4_costOf_4 N M c d (k + 1) _ (nI n) = _
  rw [fX4_costOf_4, CV0 hV, hC.2.1, if_pos (nI_le (Nat.le_refl n) (by omega))]
theorem value_c (N : Nat) (hV : CV M c C) (hC : RC n C) {s : Nat} (hs : s < 2 ^ n) {b : Nat} (hb : b < 5) (hN : 12 < N) : fX4_valueOf N M c (nI s) (nI b) = some (vlS C n b (nI s)) := by
  have h31 := pow31 hC.1.2
  have hd : ∀ i, bt (nI s) i = true → i < 12 := fun i hi => Nat.lt_of_lt_of_le (bt_lt hs hi) hC.1.2
  unfold fX4_valueOf vlS
  rw [bc_s N M hd, cost_c N hV hC _ hN, good_c N hV hC hd hN]
  have h5 : b = 0 ∨ b = 1 ∨ b = 2 ∨ b = 3 ∨ b = 4 := by omega
  rcases h5 with rfl | rfl | rfl | rfl | rfl <;> rfl
theorem must_c (N : Nat) (hV : CV M c C) (d : Int32) : fX4_hasMustsIn N M c d = some (b1 (decide (C 0 9 &&& (d ^^^ (-1)) = 0))) := by
  unfold fX4_hasMustsIn
  rw [CV0 hV, if_b1]
theorem choose_c (N : Nat) (hV : CV M c C) (hC : RC n C) {b : Nat} (hb : b < 5) (ra : Bool) (hN : 4096 < N) :
    fX4_choose N M c (nI b) (b1 ra) = some (pick (fun s => if ra = true then rst C n (nI s) else decide (C 0 9 &&& (nI s ^^^ (-1)) = 0)) (fun s => vlS C n b (nI s)) (2 ^ n)).1 := by
  have h31 := pow31 hC.1.2
  unfold fX4_choose
  obtain ⟨k, hk⟩ := lp (fun k (s : Int32 × Int32 × Int32) => fX4_choose_8 N M c (nI b) (b1 ra) k s.1 s.2.1 s.2.2) (fun p => ((pick (fun s => if ra = true then rst C n (nI s) else decide (C 0 9 &&& (nI s ^^^ (-1)) = 0)) (fun s => vlS C n b (nI s)) p).1, (pick (fun s => if ra = true then rst C n (nI s) else decide (C 0 9 &&& (nI s ^^^ (-1)) = 0)) (fun s => vlS C n b (nI s)) p).2, nI p)) (2 ^ n) (fun k p hp => by
    show fX4_choose_8 N M c (nI b) (b1 ra) (k + 1) _ _ (nI p) = fX4_choose_8 N M c (nI b) (b1 ra) k _ _ (nI (p + 1))
    rw [fX4_choose_8, sets_s N hV hC, bd_some, if_neg (nI_ge hp (by omega)), rest_c N hV hC _ (by omega), bd_some, b1_if, must_c N hV, bd_some, b1_if, b1_if, value_c N hV hC hp hb (by omega), bd_some, nI_1]
    rw [pick]
    cases ra
    · simp only [Bool.false_eq_true, if_false]
      by_cases h1 : decide (C 0 9 &&& (nI p ^^^ (-1)) = 0) = true
      · simp only [h1, if_true]
        split
        · rfl
        · split <;> rfl
      · simp only [h1, if_false]
        rfl
    · simp only [if_true]
      by_cases h1 : rst C n (nI p) = true
      · simp only [h1, if_true]
        split
        · rfl
        · split <;> rfl
      · simp only [h1, if_false]
        rfl) (N := N) (by omega)
  refine hk.trans ?_
  show fX4_choose_8 N M c (nI b) (b1 ra) (k + 1) _ _ (nI (2 ^ n)) = _
  rw [fX4_choose_8, sets_s N hV hC, bd_some, if_pos (nI_le (Nat.le_refl _) (by omega))]
def anyS (P : Nat → Bool) (n : Nat) : Bool := decide (fa_first P n < n)
theorem below_c (N : Nat) (hV : CV M c C) (hC : RC n C) {b : Nat} (hb : b < 2 ^ 31) (hN : 4096 < N) :
    fX4_hasRestBelow N M c (nI b) = some (b1 (anyS (fun s => decide (cntN (nI s) < b) && rst C n (nI s)) (2 ^ n))) := by
  have h31 := pow31 hC.1.2
  unfold fX4_hasRestBelow anyS
  have a := lp_first (fun k (p : Int32) => fX4_hasRestBelow_2 N M c (nI b) k p) nI (fun s => decide (cntN (nI s) < b) && rst C n (nI s)) (2 ^ n) (fun p => some 1) (some 0)
    (fun k p hp h => by
      show fX4_hasRestBelow_2 N M c (nI b) (k + 1) (nI p) = fX4_hasRestBelow_2 N M c (nI b) k (nI (p + 1))
      have hc : cntN (nI p) < 2 ^ 31 := Nat.lt_of_le_of_lt (cnt_le _) (by decide)
      rw [fX4_hasRestBelow_2, sets_s N hV hC, bd_some, if_neg (nI_ge hp (by omega)), bc_n N M (by omega), bd_some, rest_c N hV hC _ (by omega), bd_some, b1_if, nI_1]
      by_cases q : cntN (nI p) < b
      · rw [if_neg (nI_ge q hb)]
        simp only [q, decide_true, Bool.true_and] at h
        rw [h]; rfl
      · rw [if_pos (nI_le (Nat.le_of_not_lt q) hc)])
    (fun k p hp h => by
      show fX4_hasRestBelow_2 N M c (nI b) (k + 1) (nI p) = some 1
      rw [fX4_hasRestBelow_2, sets_s N hV hC, bd_some, if_neg (nI_ge hp (by omega)), bc_n N M (by omega), bd_some, rest_c N hV hC _ (by omega), bd_some, b1_if, nI_1]
      rw [Bool.and_eq_true, decide_eq_true_eq] at h
      rw [if_neg (nI_ge h.1 hb), if_pos h.2])
    (fun k => by
      show fX4_hasRestBelow_2 N M c (nI b) (k + 1) (nI (2 ^ n)) = some 0
      rw [fX4_hasRestBelow_2, sets_s N hV hC, bd_some, if_pos (nI_le (Nat.le_refl _) (by omega))]) (N := N) (by omega)
  refine a.trans ?_
  exact if_b1 _
/-- a round in turn -/
def rnd (C : Nat → Nat → Int32) (d : Int32) : Nat → Int32
  | 0 => d
  | p + 1 => if wld C p (rnd C d p) = true then rnd C d p ^^^ nI (2 ^ p) else rnd C d p
theorem round_c (N : Nat) (hV : CV M c C) (hC : RC n C) (d : Int32) (hN : 12 < N) : fX4_afterRound N M c d = some (rnd C d n) := by
  have hn := hC.1.2
  unfold fX4_afterRound
  obtain ⟨k, hk⟩ := lp (fun k (s : Int32 × Int32) => fX4_afterRound_4 N M c k s.1 s.2) (fun p => (rnd C d p, nI p)) n (fun k p hp => by
    show fX4_afterRound_4 N M c (k + 1) (rnd C d p) (nI p) = fX4_afterRound_4 N M c k (rnd C d (p + 1)) (nI (p + 1))
    rw [fX4_afterRound_4, CV0 hV, hC.2.1, if_neg (nI_ge hp (by omega)), would_c N hV (by omega), bd_some, b1_if, nm_eq, nI_1, sh1 (by omega), rnd]
    cases wld C p (rnd C d p) <;> rfl) (N := N) (by omega)
  refine hk.trans ?_
  show fX4_afterRound_4 N M c (k + 1) _ (nI n) = _
  rw [fX4_afterRound_4, CV0 hV, hC.2.1, if_pos (nI_le (Nat.le_refl n) (by omega))]
end CLS
