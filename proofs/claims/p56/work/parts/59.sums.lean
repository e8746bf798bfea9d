/-! ===== what must hold of the answers ===== -/
theorem isum_S (f : Nat → Int32) (n : Nat) : isum f (n + 1) = isum f n + f n := rfl
theorem isum_bd {f : Nat → Int32} : ∀ {n : Nat}, n ≤ 12 → (∀ k, k < n → -4194304 < (f k).toInt ∧ (f k).toInt < 4194304) → -(4194304 * (n : Int)) ≤ (isum f n).toInt ∧ (isum f n).toInt ≤ 4194304 * (n : Int)
  | 0, _, _ => by
    rw [show isum f 0 = (0 : Int32) from rfl, show (0 : Int32).toInt = 0 from rfl]
    omega
  | n + 1, hn, h => by
    have a := isum_bd (n := n) (by omega) (fun k hk => h k (by omega))
    have b := h n (by omega)
    rw [isum_S, Int32.toInt_add]
    simp only [Int.bmod]
    omega
theorem isum_z {f : Nat → Int32} {c : Nat} (hc : c ≤ 1000) : ∀ {n : Nat}, n ≤ 12 → (∀ k, k < n → ∃ j, j ≤ c ∧ f k = nI j) → (isum f n = 0 ↔ ∀ k, k < n → f k = 0)
  | 0, _, _ => ⟨fun _ k hk => absurd hk (Nat.not_lt_zero k), fun _ => rfl⟩
  | n + 1, hn, h => by
    have a := isum_z (n := n) hc (by omega) (fun k hk => h k (by omega))
    obtain ⟨J, hJ, eJ⟩ := isum_nat (f := f) (c := c) (n := n) (fun k hk => h k (by omega))
    obtain ⟨j, hj, ej⟩ := h n (by omega)
    have hJ2 : J ≤ 12 * 1000 := Nat.le_trans hJ (Nat.mul_le_mul (by omega) hc)
    rw [isum_S]
    constructor
    · intro e k hk
      rw [eJ, ej, nI_add, ← nI_0] at e
      have e2 := (nI_eq (by omega) (by omega)).mp e
      by_cases q : k = n
      · subst q
        rw [ej, show j = 0 by omega, nI_0]
      · exact a.mp (by rw [eJ, show J = 0 by omega, nI_0]) k (by omega)
    · intro e
      rw [a.mpr (fun k hk => e k (by omega)), e n (by omega)]; rfl
section LAWS
variable {n : Nat} {C : Nat → Nat → Int32}
theorem must_in (d : Int32) : (C 0 9 &&& (d ^^^ (-1)) = 0) ↔ ∀ i, bt (C 0 9) i = true → bt d i = true := by
  constructor
  · intro h i hi
    rcases Nat.lt_or_ge i 32 with q | q
    · have z : bt (C 0 9 &&& (d ^^^ (-1))) i = false := by rw [h, b_0]
      rw [b_and, bt_not _ q, hi] at z
      cases e : bt d i
      · rw [e] at z; cases z
      · rfl
    · rw [b_big q] at hi; cases hi
  · intro h
    apply b_ext
    intro i hi
    rw [b_and, bt_not _ hi, b_0]
    cases e : bt (C 0 9) i
    · rfl
    · rw [h i e]; rfl
theorem rst_out (d : Int32) : rst C n d = true ↔ ∀ p, p < n → rsl C d p = false := by
  unfold rst
  rw [decide_eq_true_eq]
  constructor
  · intro h p hp
    exact fa_first_no (rsl C d) n p (by omega)
  · intro h
    have hl := fa_first_le (rsl C d) n
    rcases Nat.lt_or_ge (fa_first (rsl C d) n) n with q | q
    · have y := fa_first_yes (rsl C d) n q
      rw [h _ q] at y
      cases y
    · omega
theorem rst_iff (hC : RC n C) (d : Int32) : rst C n d = true ↔ (∀ i, bt (C 0 9) i = true → bt d i = true) ∧ ∀ p, p < n → wld C p d = false := by
  rw [rst_out]
  unfold rsl wld
  constructor
  · intro h
    refine ⟨fun i hi => ?_, fun p hp => ?_⟩
    · have a := h i (hC.2.2.2.1 i hi)
      rw [if_pos hi] at a
      cases e : bt d i
      · rw [e] at a; cases a
      · rfl
    · have a := h p hp
      cases e : bt (C 0 9) p
      · rw [if_neg (by rw [e]; decide)] at a
        rw [a]; rfl
      · rfl
  · rintro ⟨h1, h2⟩ p hp
    have a := h2 p hp
    by_cases e : bt (C 0 9) p = true
    · rw [if_pos e, h1 p e]; rfl
    · rw [if_neg e]
      rw [show bt (C 0 9) p = false by simpa using e] at a
      simpa using a
theorem rst_must (hC : RC n C) {d : Int32} (h : rst C n d = true) : C 0 9 &&& (d ^^^ (-1)) = 0 := (must_in d).mpr ((rst_iff hC d).mp h).1
/-! in turn -/
theorem rnd_same {d : Int32} (h : ∀ p, p < n → wld C p d = false) : ∀ m, m ≤ n → rnd C d m = d
  | 0, _ => rfl
  | m + 1, hm => by
    rw [rnd, rnd_same h m (by omega), h m (by omega), if_neg (by decide)]
theorem rnd_up (d : Int32) : ∀ m, m ≤ 32 → ∀ i, m ≤ i → bt (rnd C d m) i = bt d i
  | 0, _, _, _ => rfl
  | m + 1, hm, i, hi => by
    rw [rnd]
    have a := rnd_up d m (by omega) i (by omega)
    by_cases q : wld C m (rnd C d m) = true
    · rw [if_pos q, bt_xorp _ (by omega), decide_eq_false (show ¬ i = m by omega), a]; simp
    · rw [if_neg q, a]
theorem rnd_lo (d : Int32) (p : Nat) : ∀ m, p + 1 ≤ m → m ≤ 32 → bt (rnd C d m) p = bt (rnd C d (p + 1)) p
  | 0, h, _ => absurd h (by omega)
  | m + 1, h, hm => by
    by_cases e : m = p
    · rw [e]
    · have a := rnd_lo d p m (by omega) (by omega)
      rw [rnd]
      by_cases q : wld C m (rnd C d m) = true
      · rw [if_pos q, bt_xorp _ (by omega), decide_eq_false (show ¬ p = m by omega), a]; simp
      · rw [if_neg q, a]
theorem rnd_fix {d : Int32} (hn : n ≤ 12) (h : rnd C d n = d) : ∀ p, p < n → wld C p d = false := by
  have h1 : ∀ p, p < n → wld C p (rnd C d p) = false := fun p hp => by
    have a := rnd_lo (C := C) d p n (by omega) (by omega)
    have b := rnd_up (C := C) d p (by omega) p (Nat.le_refl p)
    rw [h, rnd] at a
    cases e : wld C p (rnd C d p)
    · rfl
    · rw [e, if_pos rfl, bt_xorp _ (by omega), b, decide_eq_true rfl] at a
      cases q : bt d p <;> rw [q] at a <;> cases a
  have h2 : ∀ m, m ≤ n → rnd C d m = d := by
    intro m
    induction m with
    | zero => intro _; rfl
    | succ m ih =>
      intro hm
      rw [rnd, h1 m (by omega), if_neg (by decide), ih (by omega)]
  intro p hp
  have a := h1 p hp
  rw [h2 p (by omega)] at a
  exact a
theorem rnd_must {d : Int32} (hn : n ≤ 12) (h : ∀ i, bt (C 0 9) i = true → bt d i = true) : ∀ m, m ≤ n → ∀ i, bt (C 0 9) i = true → bt (rnd C d m) i = true
  | 0, _ => h
  | m + 1, hm => fun i hi => by
    have a := rnd_must hn h m (by omega) i hi
    rw [rnd]
    by_cases q : wld C m (rnd C d m) = true
    · rw [if_pos q, bt_xorp _ (by omega), a]
      by_cases e : i = m
      · subst e
        unfold wld at q
        rw [hi] at q
        cases q
      · rw [decide_eq_false e]; rfl
    · rw [if_neg q]; exact a
theorem xs_must {d : Int32} (hn : n ≤ 12) (h : ∀ i, bt (C 0 9) i = true → bt d i = true) : ∀ r, ∀ i, bt (C 0 9) i = true → bt (xs C n d r) i = true
  | 0 => h
  | r + 1 => rnd_must hn (xs_must hn h r) n (Nat.le_refl n)
theorem or_must (d : Int32) : ∀ i, bt (C 0 9) i = true → bt (d ||| C 0 9) i = true := fun i hi => by rw [b_or, hi]; simp
theorem or_same {d : Int32} (h : ∀ i, bt (C 0 9) i = true → bt d i = true) : d ||| C 0 9 = d := by
  apply b_ext
  intro i _
  rw [b_or]
  cases e : bt (C 0 9) i
  · simp
  · rw [h i e]; rfl
/-- where a course ends that ends -/
theorem end_rest (hC : RC n C) {d : Int32} (hd : ∀ i, bt d i = true → i < n) (hm : ∀ i, bt (C 0 9) i = true → bt d i = true) {e : Nat} (h : xs C n d e = xs C n d (e + 1)) : ∃ s, s < 2 ^ n ∧ xs C n d (e + 1) = nI s ∧ rst C n (nI s) = true := by
  obtain ⟨s, hs, es⟩ := xs_N (C := C) hC.1.2 hd (e + 1)
  refine ⟨s, hs, es, ?_⟩
  rw [← es]
  refine (rst_iff hC _).mpr ⟨xs_must hC.1.2 hm (e + 1), rnd_fix hC.1.2 ?_⟩
  have a : rnd C (xs C n d e) n = xs C n d (e + 1) := rfl
  rw [h] at a
  exact a
theorem rest_xs (hC : RC n C) {s : Nat} (h : rst C n (nI s) = true) : nI s ||| C 0 9 = nI s ∧ xs C n (nI s) 1 = nI s := by
  have a := (rst_iff hC _).mp h
  exact ⟨or_same a.1, rnd_same a.2 n (Nat.le_refl n)⟩
/-! what they need -/
theorem gbc_bd (hC : RC n C) {p : Nat} (hp : p < n) (d : Int32) : -99 ≤ (gbc C p d).toInt ∧ (gbc C p d).toInt ≤ 99 := by
  obtain ⟨⟨hn1, hn⟩, -, ⟨k, hk, ek⟩, -, hcw, -⟩ := hC
  obtain ⟨⟨c, hc, ec⟩, ⟨w, hw, ew⟩⟩ := hcw p hp
  have key : ∀ x : Nat, x ≤ 99 → (nI x - nI c).toInt = (x : Int) - c := fun x hx => by
    rw [Int32.toInt_sub, nI_toInt (by omega), nI_toInt (by omega)]
    simp only [Int.bmod]
    omega
  have he : -99 ≤ (edg C p d).toInt ∧ (edg C p d).toInt ≤ 99 := by
    unfold edg
    rw [ec]
    by_cases q : C 3 p &&& d = 0
    · rw [if_pos q, ew, key w hw]; omega
    · rw [if_neg q, ek, key k (by omega)]; omega
  unfold gbc
  by_cases q : bt d p = true
  · rw [if_pos q, Int32.toInt_neg]
    simp only [Int.bmod]
    omega
  · rw [if_neg q]; exact he
theorem nd_nat (hC : RC n C) {p : Nat} (hp : p < n) (d : Int32) : ∃ j, j ≤ 99 ∧ ndS C p d = nI j ∧ (j = 0 ↔ wld C p d = false) := by
  have hb := gbc_bd hC hp d
  unfold ndS
  cases e : wld C p d
  · exact ⟨0, by decide, by rw [if_neg (by decide)]; rfl, by simp⟩
  · rw [if_pos rfl]
    unfold wld at e
    rw [Bool.and_eq_true, decide_eq_true_eq] at e
    have e2 : (0 : Int) < (gbc C p d).toInt := (fa_lt _ _).mp e.2
    obtain ⟨j, hj, ej⟩ := nI_of (x := gbc C p d) (fun q => by
      have := (fa_lt _ _).mp q
      rw [show (0 : Int32).toInt = 0 from rfl] at this
      omega)
    rw [ej, nI_toInt hj] at hb e2
    refine ⟨j, by omega, ej, ?_⟩
    constructor
    · intro h; omega
    · intro h; cases h
theorem pay_0 (hC : RC n C) (d : Int32) : (isum (fun p => ndS C p d) n = 0) ↔ ∀ p, p < n → wld C p d = false := by
  rw [isum_z (c := 99) (by decide) hC.1.2 (fun k hk => by
    obtain ⟨j, hj, ej, -⟩ := nd_nat hC hk d
    exact ⟨j, hj, ej⟩)]
  constructor
  · intro h p hp
    obtain ⟨j, hj, ej, hz⟩ := nd_nat hC hp d
    have a := h p hp
    rw [ej, ← nI_0] at a
    exact hz.mp ((nI_eq (by omega) (by omega)).mp a)
  · intro h p hp
    obtain ⟨j, hj, ej, hz⟩ := nd_nat hC hp d
    rw [ej, hz.mpr (h p hp), nI_0]
theorem fewf (hC : RC n C) {p : Nat} (hp : p < n) (d : Int32) : (if ndS C p d ≤ 0 then (0 : Int32) else 1) = nI (if wld C p d = true then 1 else 0) := by
  obtain ⟨j, hj, ej, hz⟩ := nd_nat hC hp d
  rw [ej]
  cases e : wld C p d
  · rw [hz.mpr e, if_pos (by decide), if_neg (by decide)]; rfl
  · have h0 : 0 < j := by
      rcases Nat.eq_zero_or_pos j with q | q
      · rw [hz.mp q] at e; cases e
      · exact q
    rw [if_neg (nI_nle h0 (by omega)), if_pos rfl]; rfl
theorem few_n (hC : RC n C) (d : Int32) : ∃ m, m ≤ n ∧ isum (fun p => if ndS C p d ≤ 0 then (0 : Int32) else 1) n = nI m := by
  obtain ⟨m, hm, em⟩ := isum_nat (f := fun p => if ndS C p d ≤ 0 then (0 : Int32) else 1) (c := 1) (n := n) (fun k hk => by
    show ∃ j, j ≤ 1 ∧ (if ndS C k d ≤ 0 then (0 : Int32) else 1) = nI j
    rw [fewf hC hk d]
    cases wld C k d
    · exact ⟨0, by decide, by rw [if_neg (by decide)]⟩
    · exact ⟨1, by decide, by rw [if_pos rfl]⟩)
  exact ⟨m, by omega, em⟩
theorem few_0 (hC : RC n C) (d : Int32) : (isum (fun p => if ndS C p d ≤ 0 then (0 : Int32) else 1) n = 0) ↔ ∀ p, p < n → wld C p d = false := by
  rw [isum_z (c := 1) (by decide) hC.1.2 (fun k hk => by
    show ∃ j, j ≤ 1 ∧ (if ndS C k d ≤ 0 then (0 : Int32) else 1) = nI j
    rw [fewf hC hk d]
    cases wld C k d
    · exact ⟨0, by decide, by rw [if_neg (by decide)]⟩
    · exact ⟨1, by decide, by rw [if_pos rfl]⟩)]
  constructor
  · intro h p hp
    have a : (if ndS C p d ≤ 0 then (0 : Int32) else 1) = 0 := h p hp
    rw [fewf hC hp d] at a
    cases e : wld C p d
    · rfl
    · rw [e, if_pos rfl] at a; exact absurd a (by decide)
  · intro h p hp
    show (if ndS C p d ≤ 0 then (0 : Int32) else 1) = 0
    rw [fewf hC hp d, h p hp, if_neg (by decide)]; rfl
theorem judge_0 (hC : RC n C) {d : Int32} (hm : ∀ i, bt (C 0 9) i = true → bt d i = true) : (fst1 (rsl C d) n = -1) ↔ ∀ p, p < n → wld C p d = false := by
  rw [fst1_rst (by have := hC.1.2; omega), rst_iff hC]
  exact ⟨fun h => h.2, fun h => ⟨hm, h⟩⟩
/-! how good they are -/
def gG (C : Nat → Nat → Int32) (n s : Nat) : Int32 := isum (fun p => gS C p (nI s)) n
theorem gG_bd (hC : RC n C) (s : Nat) : -50331648 ≤ (gG C n s).toInt ∧ (gG C n s).toInt ≤ 50331648 := by
  have hn := hC.1.2
  have a := isum_bd (f := fun p => gS C p (nI s)) (n := n) hn (fun k hk => gS_bound hC hk (nI s))
  unfold gG
  omega
theorem neg_le {x y : Int32} (hx : -50331648 ≤ x.toInt ∧ x.toInt ≤ 50331648) (hy : -50331648 ≤ y.toInt ∧ y.toInt ≤ 50331648) (h : -x ≤ -y) : y ≤ x := by
  rw [fa_le, Int32.toInt_neg, Int32.toInt_neg] at h
  rw [fa_le]
  simp only [Int.bmod] at h
  omega
theorem dif_0 {x y : Int32} (hx : -50331648 ≤ x.toInt ∧ x.toInt ≤ 50331648) (hy : -50331648 ≤ y.toInt ∧ y.toInt ≤ 50331648) (h : y ≤ x) : ¬ x - y < 0 := by
  rw [fa_le] at h
  rw [fa_lt, Int32.toInt_sub, show (0 : Int32).toInt = 0 from rfl]
  simp only [Int.bmod]
  omega
theorem dif_le {x y z : Int32} (hx : -50331648 ≤ x.toInt ∧ x.toInt ≤ 50331648) (hy : -50331648 ≤ y.toInt ∧ y.toInt ≤ 50331648) (hz : -50331648 ≤ z.toInt ∧ z.toInt ≤ 50331648) (h : z ≤ y) : ¬ x - z < x - y := by
  rw [fa_le] at h
  rw [fa_lt, Int32.toInt_sub, Int32.toInt_sub]
  simp only [Int.bmod]
  omega
theorem h_good (hC : RC n C) : ∃ g, g < 2 ^ n ∧ (pick (fun s => decide (C 0 9 &&& (nI s ^^^ (-1)) = 0)) (fun s => vlS C n 3 (nI s)) (2 ^ n)).1 = nI g ∧ C 0 9 &&& (nI g ^^^ (-1)) = 0 ∧ ∀ s, s < 2 ^ n → C 0 9 &&& (nI s ^^^ (-1)) = 0 → gG C n s ≤ gG C n g := by
  have h31 := pow31 hC.1.2
  rcases pick_spec (fun s => decide (C 0 9 &&& (nI s ^^^ (-1)) = 0)) (fun s => vlS C n 3 (nI s)) (2 ^ n) (by omega) with ⟨-, h2⟩ | ⟨g, hg, h1, h2, h3⟩
  · obtain ⟨s, hs, e⟩ := musts_set hC
    have a := h2 s hs
    rw [decide_eq_false_iff_not, ← e] at a
    exact absurd (and_not_self _) a
  · exact ⟨g, hg, by rw [h1], of_decide_eq_true h2, fun s hs hm => h3 s hs (decide_eq_true hm)⟩
/-- the rest that is chosen, if there is one -/
theorem h_pick (hC : RC n C) (b : Nat) : ((pick (fun s => rst C n (nI s)) (fun s => vlS C n b (nI s)) (2 ^ n)).1 = -1 ∧ fb_ct (fun s => rst C n (nI s)) (2 ^ n) = 0) ∨ (0 < fb_ct (fun s => rst C n (nI s)) (2 ^ n) ∧ ∃ s, s < 2 ^ n ∧ (pick (fun s => rst C n (nI s)) (fun s => vlS C n b (nI s)) (2 ^ n)).1 = nI s ∧ rst C n (nI s) = true ∧ ∀ s2, s2 < 2 ^ n → rst C n (nI s2) = true → vlS C n b (nI s2) ≤ vlS C n b (nI s)) := by
  have h31 := pow31 hC.1.2
  rcases pick_spec (fun s => rst C n (nI s)) (fun s => vlS C n b (nI s)) (2 ^ n) (by omega) with ⟨h1, h2⟩ | ⟨s, hs, h1, h2, h3⟩
  · exact Or.inl ⟨h1, fb_ct_zero.mpr h2⟩
  · exact Or.inr ⟨fb_ct_pos.mpr ⟨s, hs, h2⟩, s, hs, by rw [h1], h2, h3⟩
theorem h_below (hC : RC n C) (h : 0 < fb_ct (fun s => rst C n (nI s)) (2 ^ n)) : ∃ s g, s < 2 ^ n ∧ g < 2 ^ n ∧ (pick (fun s => rst C n (nI s)) (fun s => vlS C n 3 (nI s)) (2 ^ n)).1 = nI s ∧ (pick (fun s => decide (C 0 9 &&& (nI s ^^^ (-1)) = 0)) (fun s => vlS C n 3 (nI s)) (2 ^ n)).1 = nI g ∧ C 0 9 &&& (nI g ^^^ (-1)) = 0 ∧ blw C n 3 = gG C n g - gG C n s ∧ ¬ blw C n 3 < 0 ∧ ¬ blw C n 4 < blw C n 3 := by
  have h31 := pow31 hC.1.2
  obtain ⟨g, hg, eg, mg, bg⟩ := h_good hC
  rcases h_pick hC 3 with ⟨-, q⟩ | ⟨-, s, hs, es, rs, bs⟩
  · omega
  rcases h_pick hC 4 with ⟨-, q⟩ | ⟨-, w, hw, ew, rw_, bw⟩
  · omega
  have e3 : blw C n 3 = gG C n g - gG C n s := by
    unfold blw
    rw [es, if_neg (nI_ne_m1 (by omega)), eg]; rfl
  have e4 : blw C n 4 = gG C n g - gG C n w := by
    unfold blw
    rw [ew, if_neg (nI_ne_m1 (by omega)), eg]; rfl
  have l1 : gG C n s ≤ gG C n g := bg s hs (rst_must hC rs)
  have l2 : gG C n w ≤ gG C n s := by
    have a : -(gG C n s) ≤ -(gG C n w) := bw s hs rs
    exact neg_le (gG_bd hC s) (gG_bd hC w) a
  refine ⟨s, g, hs, hg, es, eg, mg, e3, ?_, ?_⟩
  · rw [e3]; exact dif_0 (gG_bd hC g) (gG_bd hC s) l1
  · rw [e3, e4]; exact dif_le (gG_bd hC g) (gG_bd hC s) (gG_bd hC w) l2
theorem cnt12 (hn : n ≤ 12) {s : Nat} (hs : s < 2 ^ n) : fb_ct (bt (nI s)) 12 = cntN (nI s) := by
  have a : fb_ct (bt (nI s)) 32 = fb_ct (bt (nI s)) 12 + fb_ct (fun k => bt (nI s) (12 + k)) 20 := fb_ct_split (bt (nI s)) 12 20
  have z : fb_ct (fun k => bt (nI s) (12 + k)) 20 = 0 := fb_ct_zero.mpr (fun k _ => by
    cases e : bt (nI s) (12 + k)
    · rfl
    · have := bt_lt hs e
      omega)
  unfold cntN
  omega
theorem h_bits (hC : RC n C) (h : 0 < fb_ct (fun s => rst C n (nI s)) (2 ^ n)) : ∃ s w, s < 2 ^ n ∧ w < 2 ^ n ∧ (pick (fun s => rst C n (nI s)) (fun s => vlS C n 0 (nI s)) (2 ^ n)).1 = nI s ∧ (pick (fun s => rst C n (nI s)) (fun s => vlS C n 1 (nI s)) (2 ^ n)).1 = nI w ∧ ¬ nI (fb_ct (bt (nI w)) 12) < nI (fb_ct (bt (nI s)) 12) := by
  rcases h_pick hC 0 with ⟨-, q⟩ | ⟨-, s, hs, es, rs, bs⟩
  · omega
  rcases h_pick hC 1 with ⟨-, q⟩ | ⟨-, w, hw, ew, rw_, bw⟩
  · omega
  refine ⟨s, w, hs, hw, es, ew, ?_⟩
  rw [cnt12 hC.1.2 hs, cnt12 hC.1.2 hw]
  have a : nI (cntN (nI s)) ≤ nI (cntN (nI w)) := bw s hs rs
  exact (le_nlt _ _).mp a
end LAWS
