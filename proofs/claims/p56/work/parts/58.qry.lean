/-! ===== what the class answers of a street, as numbers ===== -/
/-- street t of k, its n persons, what it says -/
def SV (M : Mem) (a k t n : Nat) (C : Nat → Nat → Int32) : Prop := k ≤ 4 ∧ t < k ∧ M.1 (a + 4) 3 = nI k ∧ RC n C ∧ WK n C ∧ CV M (a + 4 + 1 + 11 + 8 * t) C
theorem SV_of {kp : Int32} {a b k t : Nat} {M : Mem} (hI : Inv kp a b M) (hk : k ≤ 4) (e : M.1 (a + 4) 3 = nI k) (ht : t < k) : ∃ n C, SV M a k t n C := by
  obtain ⟨k', hk', e1, e2, hs⟩ := hI.2.2.2.2.1.1
  have ek : k' = k := (nI_eq (by omega) (by omega)).mp (e1.symm.trans e)
  subst ek
  obtain ⟨n, C, hC, hV, hM, hW⟩ := hs t ht
  exact ⟨n, C, hk, ht, e1, hC, WV_WK hW, hV⟩
theorem SV_fr {a k t n : Nat} {M M' : Mem} {C : Nat → Nat → Int32} (h : SV M a k t n C) (e : ∀ x i, x < a + 100 → M'.1 x i = M.1 x i) : SV M' a k t n C := by
  obtain ⟨hk, ht, e1, hC, hW, hV⟩ := h
  exact ⟨hk, ht, by rw [e _ _ (by omega), e1], hC, hW, CV_fr (fun j hj i => e _ _ (by omega)) hV⟩
section QRY
variable {N a k t n s : Nat} {M : Mem} {C : Nat → Nat → Int32}
theorem q_at {A : Option (Int32 × Mem)} {B : Nat → Option (Int32 × Mem)} (ha : a = 0) (h : SV M a k t n C) : bd (fX5_streetAt N M (a + 4) (nI t)) (fun r1 => onO r1 A (fun q2 => gc (kd q2 = 4 ∧ q2 + 8 ≤ a + 119) (B q2))) = B (a + 4 + 1 + 11 + 8 * t) := by
  obtain ⟨hk, ht, e1, hC, hW, hV⟩ := h
  rw [streetAt_y e1 hk ht, bd_some, onO_some, gc_of (kd_street ha (by omega))]
theorem q_ws {A : Option (Int32 × Mem)} {B : Nat → Option (Int32 × Mem)} (ha : a = 0) (h : SV M a k t n C) (hs : s < 2 ^ n) : bd (fX6_streetWithSet N M a (nI t) (nI s)) (fun r1 => onO r1 A (fun q2 => gc (kd q2 = 4 ∧ q2 + 8 ≤ a + 119) (B q2))) = B (a + 4 + 1 + 11 + 8 * t) := by
  obtain ⟨hk, ht, e1, hC, hW, hV⟩ := h
  rw [sws_y ha e1 hk ht hC hV hs, bd_some, onO_some, gc_of (kd_street ha (by omega))]
theorem q_people (ha : a = 0) (h : SV M a k t n C) : fX6_streetOf N M a (nI t) 0 = some (nI n, M) := by
  unfold fX6_streetOf
  rw [q_at ha h, if_pos rfl, CV0 h.2.2.2.2.2, h.2.2.2.1.2.1]
theorem q_musts (ha : a = 0) (h : SV M a k t n C) : fX6_streetOf N M a (nI t) 3 = some (C 0 9, M) := by
  unfold fX6_streetOf
  rw [q_at ha h, if_neg (by decide), if_neg (by decide), if_neg (by decide), if_pos rfl, CV0 h.2.2.2.2.2]
theorem q_none {v w : Int32} (e : M.1 (a + 4) 3 = nI k) (hv : v < 0 ∨ nI k ≤ v) : fX6_streetOf N M a v w = some (-2, rC a M 2) := by
  unfold fX6_streetOf
  rw [streetAt_n e hv, bd_some, onO_none, rfC2]; rfl
theorem q_dark {v w : Int32} (e : M.1 (a + 4) 3 = nI k) (hv : v < 0 ∨ nI k ≤ v) : fX6_light N M a v w = some (-2, rC a M 2) := by
  unfold fX6_light
  rw [streetAt_n e hv, bd_some, onO_none, rfC2]; rfl
theorem q_count (ha : a = 0) (h : SV M a k t n C) (hN : 4097 < N) : fX6_count N M a (nI t) = some (nI (fb_ct (fun s => rst C n (nI s)) (2 ^ n)), M) := by
  unfold fX6_count
  rw [q_at ha h, rests_c N h.2.2.2.2.2 h.2.2.2.1 (by omega), bd_some]
theorem q_by (ha : a = 0) (h : SV M a k t n C) (hN : 4097 < N) {c : Nat} (hc : c < 5) : fX6_restBy N M a (nI t) (nI c) = some ((pick (fun s => rst C n (nI s)) (fun s => vlS C n c (nI s)) (2 ^ n)).1, M) := by
  unfold fX6_restBy
  rw [q_at ha h, choose_r h.2.2.2.2.2 h.2.2.2.1 hc (by omega), bd_some]
theorem q_fewest (ha : a = 0) (h : SV M a k t n C) (hN : 4097 < N) : fX6_fewest N M a (nI t) = some ((pick (fun s => rst C n (nI s)) (fun s => vlS C n 0 (nI s)) (2 ^ n)).1, M) := by
  unfold fX6_fewest
  rw [bd_eta]; exact q_by ha h hN (c := 0) (by decide)
theorem q_most (ha : a = 0) (h : SV M a k t n C) (hN : 4097 < N) : fX6_most N M a (nI t) = some ((pick (fun s => rst C n (nI s)) (fun s => vlS C n 1 (nI s)) (2 ^ n)).1, M) := by
  unfold fX6_most
  rw [bd_eta]; exact q_by ha h hN (c := 1) (by decide)
theorem q_best (ha : a = 0) (h : SV M a k t n C) (hN : 4097 < N) : fX6_best N M a (nI t) = some ((pick (fun s => rst C n (nI s)) (fun s => vlS C n 3 (nI s)) (2 ^ n)).1, M) := by
  unfold fX6_best
  rw [bd_eta]; exact q_by ha h hN (c := 3) (by decide)
theorem q_good (ha : a = 0) (h : SV M a k t n C) (hN : 4097 < N) : fX6_good N M a (nI t) = some ((pick (fun s => decide (C 0 9 &&& (nI s ^^^ (-1)) = 0)) (fun s => vlS C n 3 (nI s)) (2 ^ n)).1, M) := by
  unfold fX6_good
  rw [q_at ha h, choose_g h.2.2.2.2.2 h.2.2.2.1 (by omega), bd_some]
theorem q_below (ha : a = 0) (h : SV M a k t n C) (hN : 4097 < N) {c : Nat} (hc : c < 5) : fX6_belowGood N M a (nI t) (nI c) = some (blw C n c, M) := by
  unfold fX6_belowGood
  rw [q_at ha h]
  obtain ⟨hk, ht, e1, hC, hW, hV⟩ := h
  have h31 := pow31 hC.1.2
  obtain ⟨s1, hs1, g1⟩ := pick_good hC
  rw [choose_r hV hC hc (by omega), bd_some, choose_g hV hC (by omega), bd_some, g1, good_c N hV hC (set12 hC hs1) (by omega), bd_some]
  unfold blw
  rw [g1]
  rcases pick_spec (fun s => rst C n (nI s)) (fun s => vlS C n c (nI s)) (2 ^ n) (by omega) with ⟨h1, -⟩ | ⟨s, hs, h1, -, -⟩
  · rw [if_pos h1, if_pos h1]
  · rw [h1, if_neg (nI_ne_m1 (by omega)), if_neg (nI_ne_m1 (by omega)), good_c N hV hC (set12 hC hs) (by omega)]; rfl
theorem q_lost (ha : a = 0) (h : SV M a k t n C) (hN : 4097 < N) : fX6_lost N M a (nI t) = some (blw C n 3, M) := by
  unfold fX6_lost
  rw [bd_eta]; exact q_below ha h hN (c := 3) (by decide)
theorem q_beside (ha : a = 0) (h : SV M a k t n C) (hN : 4097 < N) : fX6_beside N M a (nI t) = some (blw C n 4, M) := by
  unfold fX6_beside
  rw [bd_eta]; exact q_below ha h hN (c := 4) (by decide)
theorem q_total (ha : a = 0) (h : SV M a k t n C) (hs : s < 2 ^ n) (hN : 4097 < N) : fX6_total N M a (nI t) (nI s) = some (isum (fun p => gS C p (nI s)) n, M) := by
  unfold fX6_total
  rw [q_ws ha h hs, good_c N h.2.2.2.2.2 h.2.2.2.1 (set12 h.2.2.2.1 hs) (by omega), bd_some]
theorem q_judge (ha : a = 0) (h : SV M a k t n C) (hs : s < 2 ^ n) (hN : 4097 < N) : fX6_judge N M a (nI t) (nI s) = some (fst1 (rsl C (nI s)) n, M) := by
  unfold fX6_judge
  rw [q_ws ha h hs, first_c N h.2.2.2.2.2 h.2.2.2.1 _ (by omega), bd_some]
theorem q_rest (ha : a = 0) (h : SV M a k t n C) (hN : 4097 < N) {i : Nat} (hi : i < fb_ct (fun s => rst C n (nI s)) (2 ^ n)) : ∃ s, s < 2 ^ n ∧ rst C n (nI s) = true ∧ fX6_rest N M a (nI t) (nI i) = some (nI s, M) := by
  have hC := h.2.2.2.1
  have h31 := pow31 hC.1.2
  have hle := fb_ct_le (fun s => rst C n (nI s)) (2 ^ n)
  obtain ⟨j, hj, hp, ej⟩ := fb_ct_kth hi
  have hf : fa_first (ith (fun s => rst C n (nI s)) (nI i)) (2 ^ n) < 2 ^ n := by
    have hl := fa_first_le (ith (fun s => rst C n (nI s)) (nI i)) (2 ^ n)
    rcases Nat.lt_or_ge (fa_first (ith (fun s => rst C n (nI s)) (nI i)) (2 ^ n)) (2 ^ n) with q | q
    · exact q
    · have z := fa_first_no (ith (fun s => rst C n (nI s)) (nI i)) (2 ^ n) j (by omega)
      have z2 : (rst C n (nI j) && decide (nI (fb_ct (fun s => rst C n (nI s)) j) = nI i)) = false := z
      rw [hp, ej, decide_eq_true rfl] at z2
      cases z2
  have y := fa_first_yes (ith (fun s => rst C n (nI s)) (nI i)) (2 ^ n) hf
  refine ⟨_, hf, ?_, ?_⟩
  · unfold ith at y
    rw [Bool.and_eq_true] at y
    exact y.1
  · unfold fX6_rest
    rw [q_at ha h, if_pos (nI_pos' (by omega)), restNo_c N h.2.2.2.2.2 hC _ (by omega), bd_some]
    unfold fst1
    rw [if_pos hf, if_neg (nI_ne_m1 (by omega))]
theorem q_pay (ha : a = 0) (h : SV M a k t n C) (hs : s < 2 ^ n) (hm : C 0 9 &&& (nI s ^^^ (-1)) = 0) (hN : 4097 < N) : fX6_pay N M a (nI t) (nI s) = some (isum (fun p => ndS C p (nI s)) n, M) := by
  unfold fX6_pay
  rw [q_ws ha h hs, must_c N h.2.2.2.2.2, bd_some, b1_if, if_pos (decide_eq_true hm), pay_c h.2.2.2.2.2 h.2.2.2.1 _ hN]
theorem q_few (ha : a = 0) (h : SV M a k t n C) (hs : s < 2 ^ n) (hm : C 0 9 &&& (nI s ^^^ (-1)) = 0) (hN : 4097 < N) : fX6_few N M a (nI t) (nI s) = some (isum (fun p => if ndS C p (nI s) ≤ 0 then 0 else 1) n, M) := by
  unfold fX6_few
  rw [q_ws ha h hs, must_c N h.2.2.2.2.2, bd_some, b1_if, if_pos (decide_eq_true hm), few_c h.2.2.2.2.2 h.2.2.2.1 _ hN]
/-- the class's course from a set -/
theorem q_run (ha : a = 0) (h : SV M a k t n C) (hs : s < 2 ^ n) (hN : 4097 < N) : ∃ M1 e j, e < 4096 ∧ j ≤ e ∧ xs C n (nI s ||| C 0 9) j = xs C n (nI s ||| C 0 9) (e + 1) ∧ (∀ i k, i < k → k ≤ e → xs C n (nI s ||| C 0 9) i ≠ xs C n (nI s ||| C 0 9) k) ∧ fX0_run N M (a + 100) (a + 4 + 1 + 11 + 8 * t) (nI s ||| C 0 9) = some M1 ∧ RunC M M1 (a + 100) C n (nI s ||| C 0 9) e j := by
  obtain ⟨hk, ht, e1, hC, hW, hV⟩ := h
  have hd := or_lt hC hs
  obtain ⟨e, j, he, hj, h2, hno⟩ := course C hC.1.2 hd
  obtain ⟨M1, r1, r2⟩ := run_c (N := N) (c := a + 100) hV hC (by omega) hd he hj h2 hno hN
  exact ⟨M1, e, j, he, hj, h2, hno, r1, r2⟩
theorem q_turns (ha : a = 0) (h : SV M a k t n C) (hs : s < 2 ^ n) {M1 : Mem} {e j : Nat} (r1 : fX0_run N M (a + 100) (a + 4 + 1 + 11 + 8 * t) (nI s ||| C 0 9) = some M1) (r2 : RunC M M1 (a + 100) C n (nI s ||| C 0 9) e j) : fX6_turns N M a (nI t) (nI s) = some (isum (chg C n (nI s ||| C 0 9)) (e + 1), M1) := by
  unfold fX6_turns
  rw [q_ws ha h hs, CV0 h.2.2.2.2.2, r1, bd_some, r2.2.1]
theorem q_ring (ha : a = 0) (h : SV M a k t n C) (hs : s < 2 ^ n) {M1 : Mem} {e j : Nat} (r1 : fX0_run N M (a + 100) (a + 4 + 1 + 11 + 8 * t) (nI s ||| C 0 9) = some M1) (r2 : RunC M M1 (a + 100) C n (nI s ||| C 0 9) e j) : fX6_ring N M a (nI t) (nI s) = some (nI (if j = e then 0 else e + 1 - j), M1) := by
  unfold fX6_ring
  rw [q_ws ha h hs, CV0 h.2.2.2.2.2, r1, bd_some, r2.2.2.1]
theorem q_go (ha : a = 0) (h : SV M a k t n C) (hs : s < 2 ^ n) {M1 : Mem} {e : Nat} (r1 : fX0_run N M (a + 100) (a + 4 + 1 + 11 + 8 * t) (nI s ||| C 0 9) = some M1) (r2 : RunC M M1 (a + 100) C n (nI s ||| C 0 9) e e) : fX6_go N M a (nI t) (nI s) = some (xs C n (nI s ||| C 0 9) (e + 1), M1) := by
  unfold fX6_go
  rw [q_ws ha h hs, CV0 h.2.2.2.2.2, r1, bd_some, r2.2.2.1, if_pos rfl, if_pos (by decide), r2.1]
theorem q_goR (ha : a = 0) (h : SV M a k t n C) (hs : s < 2 ^ n) {M1 : Mem} {e j : Nat} (he : e < 4096) (hj : j ≤ e) (hje : ¬ j = e) (r1 : fX0_run N M (a + 100) (a + 4 + 1 + 11 + 8 * t) (nI s ||| C 0 9) = some M1) (r2 : RunC M M1 (a + 100) C n (nI s ||| C 0 9) e j) : fX6_go N M a (nI t) (nI s) = some (-5, rC a M1 5) := by
  unfold fX6_go
  rw [q_ws ha h hs, CV0 h.2.2.2.2.2, r1, bd_some, r2.2.2.1, if_neg hje, if_neg (nI_nle (by omega) (by omega)), rfC5]; rfl
theorem q_light (ha : a = 0) (h : SV M a k t n C) {v : Nat} (h1 : 1 ≤ v) (h99 : v ≤ 99) (hN : 4097 < N) : fX6_light N M a (nI t) (nI v) = some (nI (lgh C n v), M) := by
  unfold fX6_light
  rw [q_at ha h, within_r, bd_some, b1_if]
  have hr : rg (nI v) 1 99 = true := by
    unfold rg
    rw [decide_eq_true (show (1 : Int32) ≤ nI v from nI_le (a := 1) h1 (by omega)), decide_eq_true (show nI v ≤ (99 : Int32) from nI_le (b := 99) h99 (by decide))]; rfl
  rw [if_pos hr]
  obtain ⟨hk, ht, e1, hC, hW, hV⟩ := h
  obtain ⟨j, hj⟩ := lp (fun k (s : Int32 × Int32) => fX6_light_38 N M a (a + 4 + 1 + 11 + 8 * t) (nI v) k s.1 s.2) (fun p => (nI (lgh C n p), nI (p + 1))) v (fun k p hp => by
    show fX6_light_38 N M a _ (nI v) (k + 1) (nI (lgh C n p)) (nI (p + 1)) = fX6_light_38 N M a _ (nI v) k (nI (lgt C (nI (p + 1)) (lgh C n p) n)) (nI (p + 1 + 1))
    rw [fX6_light_38, if_neg (nI_nlt (by omega) (by omega)), light_c hV hC hW (lgh_le C n p) _ hN, bd_some, nI_1 (p + 1)]) (N := N) (by omega)
  refine hj.trans ?_
  show fX6_light_38 N M a _ (nI v) (j + 1) _ (nI (v + 1)) = _
  rw [fX6_light_38, if_pos (nI_lt (by omega) (by omega))]
theorem q_streets (e : M.1 (a + 4) 3 = nI k) : fX6_status N M a 0 = some (nI k) := by
  unfold fX6_status
  rw [if_pos rfl, e]
theorem q_tape : fX6_status N M a 1 = some (M.1 (a + 2) 1) := by
  unfold fX6_status
  rw [if_neg (by decide), if_pos rfl]
theorem q_ref {j : Nat} (hj : j < 5) : fX6_status N M a (nI (12 + j)) = some (M.1 (a + 102) j) := by
  unfold fX6_status
  have h : rg (nI (12 + j)) 12 16 = true := by
    unfold rg
    rw [decide_eq_true (show (12 : Int32) ≤ nI (12 + j) from nI_le (a := 12) (by omega) (by omega)), decide_eq_true (show nI (12 + j) ≤ (16 : Int32) from nI_le (b := 16) (by omega) (by decide))]; rfl
  have ne : ∀ c, c < 4 → ¬ nI (12 + j) = nI c := fun c hc e => by
    have := (nI_eq (by omega) (by omega)).mp e
    omega
  have e12 : nI (12 + j) - 12 = nI j := nI_subl 12 j
  rw [if_neg (show ¬ nI (12 + j) = 0 from ne 0 (by decide)), if_neg (show ¬ nI (12 + j) = 1 from ne 1 (by decide)), if_neg (show ¬ nI (12 + j) = 2 from ne 2 (by decide)), if_neg (show ¬ nI (12 + j) = 3 from ne 3 (by decide)), within_r, bd_some, b1_if, if_pos h, e12, gd_nI hj (by decide), nI_clamp (by omega)]
end QRY
