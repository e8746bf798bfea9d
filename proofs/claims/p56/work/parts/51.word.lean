/-! words and numbers -/
def wl (w : Nat) : Nat := lenS.getD w 0
def wb (w i : Nat) : Nat := ((bytS.getD w []).getD i 0).toNatClampNeg
theorem wl_le {w : Nat} (h : w < 10) : 3 ≤ wl w ∧ wl w ≤ 6 := (by decide +kernel : ∀ w, w < 10 → 3 ≤ wl w ∧ wl w ≤ 6) w h
theorem wb_lt {w i : Nat} (h : w < 10) (hi : i < wl w) : wb w i < 256 := (by decide +kernel : ∀ w, w < 10 → ∀ i, i < wl w → wb w i < 256) w h i hi
theorem len_w (N : Nat) (M : Mem) {w : Nat} (h : w < 10) : fJ0_length_8abf5 N M w = some (nI (wl w)) := by
  unfold fJ0_length_8abf5 fJ0_coder_7d493
  revert h; revert w
  decide +kernel
theorem char_w (N : Nat) (M : Mem) {w : Nat} (h : w < 10) {i : Nat} (hi : i < wl w) : fJ0_charAt_5068e N M w (nI i) = some (nI (wb w i)) := by
  unfold fJ0_charAt_5068e fJ1_charAt_3b067 fJ0_isLatin1_aae02 fJ0_checkIndex_df160 fJ3_checkIndex_8e157
  revert hi; revert i; revert h; revert w
  decide +kernel
/-- the token behind p is the word w -/
def isW (z : Nat) (f : Nat → Nat) (p w : Nat) : Bool := decide (tO z f p = 1 ∧ tE z f p - tS z f p = wl w ∧ ¬ fa_first (fun i => decide (f (tS z f p + i) ≠ wb w i)) (wl w) < wl w)
def mv (z : Nat) (f : Nat → Nat) (p : Nat) : Nat := mvj f (tS z f p) (1 + tR z f (tS z f p))
def SC (q z : Nat) (f : Nat → Nat) (p : Nat) (M : Mem) : Prop := TC q z f M ∧ M.1 q 2 = nI (tO z f p) ∧ M.1 q 3 = nI (tS z f p) ∧ M.1 q 4 = nI (tE z f p)
def SM (b z : Nat) (f : Nat → Nat) (p : Nat) (M : Mem) : Prop := TM b z f M ∧ M.1 b 28 = nI (tO z f p) ∧ M.1 b 29 = nI (tS z f p) ∧ M.1 b 27 = nI (tE z f p) ∧ (tO z f p = 2 → M.2 b 30 = (nI (mv z f p)).toInt64)
def CF (M M' : Mem) (q : Nat) : Prop := (∀ x i, (x ≠ q ∨ i < 2 ∨ 5 < i) → M'.1 x i = M.1 x i) ∧ M'.2 = M.2
def GF (M M' : Mem) (b : Nat) : Prop := (∀ x i, (x ≠ b ∨ i < 27) → M'.1 x i = M.1 x i) ∧ (∀ x i, x ≠ b → M'.2 x i = M.2 x i)
theorem CF.rf (M : Mem) (q : Nat) : CF M M q := ⟨fun _ _ _ => rfl, rfl⟩
theorem GF.rf (M : Mem) (b : Nat) : GF M M b := ⟨fun _ _ _ => rfl, fun _ _ _ => rfl⟩
theorem CF.tr {M M' M'' : Mem} {q : Nat} (h : CF M M' q) (h' : CF M' M'' q) : CF M M'' q := ⟨fun x i w => by rw [h'.1 x i w, h.1 x i w], by rw [h'.2, h.2]⟩
theorem GF.tr {M M' M'' : Mem} {b : Nat} (h : GF M M' b) (h' : GF M' M'' b) : GF M M'' b := ⟨fun x i w => by rw [h'.1 x i w, h.1 x i w], fun x i w => by rw [h'.2 x i w, h.2 x i w]⟩
theorem AF.cf {M M' : Mem} {q : Nat} (h : AF M M' q) : CF M M' q := ⟨fun x i w => h.1 x i (by omega), h.2⟩
theorem LF.gf {M M' : Mem} {b : Nat} (h : LF M M' b) : GF M M' b := ⟨fun x i w => h.1 x i (by omega), fun x i w => h.2 x i (Or.inl w)⟩
theorem CF.sI {M M' : Mem} {q : Nat} (h : CF M M' q) {i : Nat} (v : Int32) (hi : 2 ≤ i ∧ i ≤ 5) : CF M (sI M' q i v) q := ⟨fun y j w => by rw [sI_o (by omega)]; exact h.1 y j w, h.2⟩
theorem GF.sI {M M' : Mem} {b : Nat} (h : GF M M' b) {i : Nat} (v : Int32) (hi : 27 ≤ i) : GF M (sI M' b i v) b := ⟨fun y j w => by rw [sI_o (by omega)]; exact h.1 y j w, h.2⟩
theorem TC_cf {q z : Nat} {f : Nat → Nat} {M M' : Mem} (hA : CF M M' q) (h : TC q z f M) : TC q z f M' := ⟨by rw [hA.1 _ _ (by omega)]; exact h.1, fun i hi => by rw [hA.1 _ _ (by omega)]; exact h.2 i hi⟩
theorem TM_gf {b z : Nat} {f : Nat → Nat} {M M' : Mem} (hA : GF M M' b) (h : TM b z f M) : TM b z f M' := ⟨by rw [hA.1 _ _ (by omega)]; exact h.1, fun i hi => by rw [hA.1 _ _ (by omega)]; exact h.2 i hi⟩
theorem next_c {N : Nat} {M : Mem} {q z p : Nat} {f : Nat → Nat} (hS : SC q z f p M) (hB : TBy z f) (hp : p ≤ z) (hN : 4097 < N) : ∃ M', fX1_advance N M q = some M' ∧ AF M M' q ∧ SC q z f (tE z f p) M' := by
  obtain ⟨M', a1, a2, a3, a4, a5⟩ := adv_s (N := N) hS.1 hB (tE_le hp) hS.2.2.2 hN
  exact ⟨M', a1, a2, TC_fr a2 hS.1, a4, a3, a5⟩
theorem next_m {N : Nat} {M : Mem} {b z p : Nat} {f : Nat → Nat} (hS : SM b z f p M) (hB : TBy z f) (hp : p ≤ z) (hN : 4097 < N) : ∃ M', fX7_look N M b = some M' ∧ LF M M' b ∧ SM b z f (tE z f p) M' := by
  obtain ⟨M', a1, a2, a3, a4, a5, a6⟩ := look_s (N := N) hS.1 hB (tE_le hp) hS.2.2.2.1 hN
  exact ⟨M', a1, a2, TM_fr a2 hS.1, a4, a3, a5, a6⟩
theorem tO_z {z p : Nat} {f : Nat → Nat} (h : tO z f p ≠ 0) : tS z f p < z := by
  unfold tO at h
  split at h
  · assumption
  · exact absurd rfl h
theorem isWord_c {N : Nat} {M : Mem} {q z p w : Nat} {f : Nat → Nat} (hS : SC q z f p M) (hB : TBy z f) (hp : p ≤ z) (hw : w < 10) (hN : 4097 < N) : fX1_isWord N M q w = some (b1 (isW z f p w)) := by
  obtain ⟨hz, hf⟩ := hB
  obtain ⟨hT, h2, h3, h4⟩ := hS
  have hle := tE_le (f := f) hp
  have hge := tE_ge (z := z) (f := f) (p := p)
  have hwl := wl_le hw
  have ho : tO z f p ≤ 4 := by
    unfold tO; split
    · exact (bz_le _).2
    · omega
  unfold fX1_isWord isW
  rw [h2]
  by_cases w1 : tO z f p = 1
  · have ed : nI (tE z f p) - nI (tS z f p) = nI (tE z f p - tS z f p) := by
      have := nI_subl (tS z f p) (tE z f p - tS z f p)
      rwa [Nat.add_sub_cancel' hge] at this
    rw [if_pos (show nI (tO z f p) = 1 by rw [w1]; rfl), len_w N M hw, bd_some, h3, h4, ed]
    by_cases w2 : tE z f p - tS z f p = wl w
    · rw [if_pos (by rw [w2])]
      have a := lp_first (fun k (s : Int32) => fX1_isWord_28 N M q w k s) nI (fun i => decide (f (tS z f p + i) ≠ wb w i)) (wl w) (fun _ => some 0) (some 1) (fun k i hi h => by
        show fX1_isWord_28 N M q w (k + 1) (nI i) = fX1_isWord_28 N M q w k (nI (i + 1))
        have he : f (tS z f p + i) = wb w i := Decidable.not_not.mp (of_decide_eq_false h)
        rw [fX1_isWord_28, len_w N M hw, bd_some, if_neg (nI_ge hi (by omega)), h3, nI_add, if_neg (show ¬ (160 : Int32) ≤ nI (tS z f p + i) from nI_ge (b := 160) (by omega) (by decide)), gd_nI (by omega) (by decide), nI_clamp (by omega), hT.2 _ (by omega), char_w N M hw hi, bd_some, if_pos (by rw [he]), nI_1]) (fun k i hi h => by
        show fX1_isWord_28 N M q w (k + 1) (nI i) = some 0
        have he : f (tS z f p + i) ≠ wb w i := of_decide_eq_true h
        have hl := hf (tS z f p + i) (by omega)
        have hl2 := wb_lt hw hi
        rw [fX1_isWord_28, len_w N M hw, bd_some, if_neg (nI_ge hi (by omega)), h3, nI_add, if_neg (show ¬ (160 : Int32) ≤ nI (tS z f p + i) from nI_ge (b := 160) (by omega) (by decide)), gd_nI (by omega) (by decide), nI_clamp (by omega), hT.2 _ (by omega), char_w N M hw hi, bd_some, if_neg (fun e => he ((nI_k (by omega) (by omega)).mp e))]) (fun k => by
        show fX1_isWord_28 N M q w (k + 1) (nI (wl w)) = some 1
        rw [fX1_isWord_28, len_w N M hw, bd_some, if_pos (nI_le (Nat.le_refl _) (by omega))]) (N := N) (by omega)
      refine Eq.trans a ?_
      by_cases w3 : fa_first (fun i => decide (f (tS z f p + i) ≠ wb w i)) (wl w) < wl w
      · rw [if_pos w3, decide_eq_false (fun h => h.2.2 w3)]; rfl
      · rw [if_neg w3, decide_eq_true ⟨w1, w2, w3⟩]; rfl
    · rw [if_neg (fun e => w2 ((nI_k (by omega) (by omega)).mp e).symm), decide_eq_false (fun h => w2 h.2.1)]; rfl
  · rw [if_neg (show ¬ nI (tO z f p) = (1 : Int32) from fun e => w1 ((nI_k (d := 1) (by omega) (by decide)).mp e)), decide_eq_false (fun h => w1 h.1)]; rfl
theorem isWord_m {N : Nat} {M : Mem} {b z p w : Nat} {f : Nat → Nat} (hS : SM b z f p M) (hB : TBy z f) (hp : p ≤ z) (hw : w < 10) (hN : 4097 < N) : fX7_isWord N M b w = some (b1 (isW z f p w)) := by
  obtain ⟨hz, hf⟩ := hB
  obtain ⟨hT, h2, h3, h4, -⟩ := hS
  have hle := tE_le (f := f) hp
  have hge := tE_ge (z := z) (f := f) (p := p)
  have hwl := wl_le hw
  have ho : tO z f p ≤ 4 := by
    unfold tO; split
    · exact (bz_le _).2
    · omega
  unfold fX7_isWord isW
  rw [h2]
  by_cases w1 : tO z f p = 1
  · have ed : nI (tE z f p) - nI (tS z f p) = nI (tE z f p - tS z f p) := by
      have := nI_subl (tS z f p) (tE z f p - tS z f p)
      rwa [Nat.add_sub_cancel' hge] at this
    rw [if_pos (show nI (tO z f p) = 1 by rw [w1]; rfl), len_w N M hw, bd_some, h3, h4, ed]
    by_cases w2 : tE z f p - tS z f p = wl w
    · rw [if_pos (by rw [w2])]
      have a := lp_first (fun k (s : Int32) => fX7_isWord_28 N M b w k s) nI (fun i => decide (f (tS z f p + i) ≠ wb w i)) (wl w) (fun _ => some 0) (some 1) (fun k i hi h => by
        show fX7_isWord_28 N M b w (k + 1) (nI i) = fX7_isWord_28 N M b w k (nI (i + 1))
        have he : f (tS z f p + i) = wb w i := Decidable.not_not.mp (of_decide_eq_false h)
        rw [fX7_isWord_28, len_w N M hw, bd_some, if_neg (nI_ge hi (by omega)), h3, nI_add, gd_nI (by omega) (by decide), nI_clamp (by omega), hT.2 _ (by omega), char_w N M hw hi, bd_some, if_pos (by rw [he]), nI_1]) (fun k i hi h => by
        show fX7_isWord_28 N M b w (k + 1) (nI i) = some 0
        have he : f (tS z f p + i) ≠ wb w i := of_decide_eq_true h
        have hl := hf (tS z f p + i) (by omega)
        have hl2 := wb_lt hw hi
        rw [fX7_isWord_28, len_w N M hw, bd_some, if_neg (nI_ge hi (by omega)), h3, nI_add, gd_nI (by omega) (by decide), nI_clamp (by omega), hT.2 _ (by omega), char_w N M hw hi, bd_some, if_neg (fun e => he ((nI_k (by omega) (by omega)).mp e))]) (fun k => by
        show fX7_isWord_28 N M b w (k + 1) (nI (wl w)) = some 1
        rw [fX7_isWord_28, len_w N M hw, bd_some, if_pos (nI_le (Nat.le_refl _) (by omega))]) (N := N) (by omega)
      refine Eq.trans a ?_
      by_cases w3 : fa_first (fun i => decide (f (tS z f p + i) ≠ wb w i)) (wl w) < wl w
      · rw [if_pos w3, decide_eq_false (fun h => h.2.2 w3)]; rfl
      · rw [if_neg w3, decide_eq_true ⟨w1, w2, w3⟩]; rfl
    · rw [if_neg (fun e => w2 ((nI_k (by omega) (by omega)).mp e)), decide_eq_false (fun h => w2 h.2.1)]; rfl
  · rw [if_neg (show ¬ nI (tO z f p) = (1 : Int32) from fun e => w1 ((nI_k (d := 1) (by omega) (by decide)).mp e)), decide_eq_false (fun h => w1 h.1)]; rfl
theorem pw_n {N : Nat} {M : Mem} {q z p w : Nat} {f : Nat → Nat} (hS : SC q z f p M) (hB : TBy z f) (hp : p ≤ z) (hw : w < 10) (hN : 4097 < N) (h : isW z f p w = false) : fX1_passWord N M q w = some (0, M) := by
  unfold fX1_passWord
  rw [isWord_c hS hB hp hw hN, h, bd_some, b1_if, if_neg (by decide)]
theorem pw_y {N : Nat} {M : Mem} {q z p w : Nat} {f : Nat → Nat} (hS : SC q z f p M) (hB : TBy z f) (hp : p ≤ z) (hw : w < 10) (hN : 4097 < N) (h : isW z f p w = true) : ∃ M', fX1_passWord N M q w = some (1, M') ∧ AF M M' q ∧ SC q z f (tE z f p) M' := by
  obtain ⟨M', a1, a2, a3⟩ := next_c (N := N) hS hB hp hN
  refine ⟨M', ?_, a2, a3⟩
  unfold fX1_passWord
  rw [isWord_c hS hB hp hw hN, h, bd_some, b1_if, if_pos rfl, a1, bd_some]
/-- the token behind p is a number from lo to hi -/
def nOk (z : Nat) (f : Nat → Nat) (p lo hi : Nat) : Bool := decide (tO z f p = 2 ∧ lo ≤ mv z f p ∧ mv z f p ≤ hi)
theorem tok2 {z p : Nat} {f : Nat → Nat} (h : tO z f p = 2) : tS z f p < z ∧ bz (f (tS z f p)) = 2 ∧ tE z f p = tS z f p + 1 + tR z f (tS z f p) := by
  have hz := tO_z (z := z) (f := f) (p := p) (by omega)
  have hb : bz (f (tS z f p)) = 2 := by unfold tO at h; rwa [if_pos hz] at h
  refine ⟨hz, hb, ?_⟩
  unfold tE
  rw [if_pos hz, hb, if_neg (by decide)]
theorem mv_form {z p : Nat} {f : Nat → Nat} (h : tO z f p = 2) : (1 + tR z f (tS z f p) ≤ 3 ∧ mv z f p = hv f (tS z f p) (1 + tR z f (tS z f p)) ∧ mv z f p < 1000) ∨ (3 < 1 + tR z f (tS z f p) ∧ mv z f p = 100000) := by
  obtain ⟨hz, hb, he⟩ := tok2 h
  by_cases w : 1 + tR z f (tS z f p) ≤ 3
  · refine Or.inl ⟨w, if_pos w, ?_⟩
    have e : mv z f p = hv f (tS z f p) (1 + tR z f (tS z f p)) := if_pos w
    rw [e]
    have a := hv_lt (f := f) (s := tS z f p) (k := 1 + tR z f (tS z f p)) (fun i hi => by rw [tR_in hi, hb])
    have h3 : 1 + tR z f (tS z f p) = 1 ∨ 1 + tR z f (tS z f p) = 2 ∨ 1 + tR z f (tS z f p) = 3 := by omega
    rcases h3 with e | e | e <;> rw [e] at a ⊢ <;> omega
  · exact Or.inr ⟨by omega, if_neg w⟩
theorem nah_c {N : Nat} {M : Mem} {q z p : Nat} {f : Nat → Nat} (hS : SC q z f p M) (hB : TBy z f) (hp : p ≤ z) (h2 : tO z f p = 2) (hN : 4097 < N) : fX1_numberAtHand N M q = some (nI (if mv z f p = 100000 then 1000 else mv z f p)) := by
  obtain ⟨hz, hf⟩ := hB
  obtain ⟨hT, -, h3, h4⟩ := hS
  obtain ⟨hsz, hb, he⟩ := tok2 h2
  have hle := tE_le (f := f) hp
  obtain ⟨s, hs⟩ : ∃ s, s = tS z f p := ⟨_, rfl⟩
  unfold fX1_numberAtHand
  rw [h3, h4, he]
  have hm := mv_form h2
  rw [← hs] at hsz hb he hm ⊢
  rw [Nat.add_assoc, nI_subl]
  rcases hm with ⟨h3', em, hlt⟩ | ⟨h3', em⟩
  · rw [if_pos (show nI (1 + tR z f s) ≤ (3 : Int32) from nI_le (b := 3) h3' (by decide)), nm_eq, if_neg (by omega), em]
    obtain ⟨k, hk⟩ := lp (fun k (w : Int32 × Int32) => fX1_numberAtHand_24 N M q k w.1 w.2) (fun j => (nI (hv f s j), nI (s + j))) (1 + tR z f s) (fun k j hj => by
      show fX1_numberAtHand_24 N M q (k + 1) (nI (hv f s j)) (nI (s + j)) = fX1_numberAtHand_24 N M q k (nI (hv f s (j + 1))) (nI (s + (j + 1)))
      have hd := bz2 (show bz (f (s + j)) = 2 by rw [tR_in hj, hb])
      have hlt : hv f s j < 10 ^ j := hv_lt (fun i hi => by rw [tR_in (z := z) (by omega), hb])
      have h100 : hv f s j < 100 := by
        have h3 : j = 0 ∨ j = 1 ∨ j = 2 := by omega
        rcases h3 with rfl | rfl | rfl <;> omega
      have a := dig32 (h := hv f s j) (d := f (s + j) - 48) h100 (by omega)
      rw [show 48 + (f (s + j) - 48) = f (s + j) by omega] at a
      rw [fX1_numberAtHand_24, h4, he, if_neg (nI_ge (by omega) (by omega)), if_neg (show ¬ (160 : Int32) ≤ nI (s + j) from nI_ge (b := 160) (by omega) (by decide)), gd_nI (by omega) (by decide), nI_clamp (by omega), hT.2 _ (by omega), a, nm_eq, nI_1]
      rfl) (N := N) (by omega)
    refine hk.trans ?_
    show fX1_numberAtHand_24 N M q (k + 1) _ (nI (s + (1 + tR z f s))) = _
    rw [fX1_numberAtHand_24, h4, he, if_pos (nI_le (by omega) (by omega))]
  · rw [if_neg (show ¬ nI (1 + tR z f s) ≤ (3 : Int32) from nI_ge (a := 3) h3' (by omega)), em, if_pos rfl]
    rfl
theorem pn_n {N : Nat} {M : Mem} {q z p lo hi : Nat} {f : Nat → Nat} (hS : SC q z f p M) (hB : TBy z f) (hp : p ≤ z) (hlo : lo ≤ 99) (hhi : hi ≤ 99) (hN : 4097 < N) (h : nOk z f p lo hi = false) : fX1_passNumber N M q (nI lo) (nI hi) = some (0, M) := by
  have ho : tO z f p ≤ 4 := by
    unfold tO; split
    · exact (bz_le _).2
    · omega
  unfold fX1_passNumber
  rw [hS.2.1]
  by_cases w : tO z f p = 2
  · have h' : ¬ (lo ≤ mv z f p ∧ mv z f p ≤ hi) := fun q => of_decide_eq_false h ⟨w, q.1, q.2⟩
    have e2 : nI (tO z f p) = 2 := by rw [w]; rfl
    rw [if_pos e2, nah_c hS hB hp w hN, bd_some, if_pos e2]
    have hm := mv_form w
    obtain ⟨c, hc, hcc⟩ : ∃ c, c = (if mv z f p = 100000 then 1000 else mv z f p) ∧ c ≤ 1000 ∧ ¬ (lo ≤ c ∧ c ≤ hi) := by
      refine ⟨_, rfl, ?_⟩
      split <;> omega
    rw [← hc]
    by_cases w2 : c < lo
    · rw [if_pos (nI_lt w2 (by omega))]
    · rw [if_neg (nI_nlt (by omega) (by omega)), if_neg (nI_ge (by omega) (by omega))]
  · have e2 : ¬ nI (tO z f p) = (2 : Int32) := fun e => w ((nI_k (d := 2) (by omega) (by decide)).mp e)
    rw [if_neg e2, if_neg e2]
theorem pn_y {N : Nat} {M : Mem} {q z p lo hi : Nat} {f : Nat → Nat} (hS : SC q z f p M) (hB : TBy z f) (hp : p ≤ z) (hlo : lo ≤ 99) (hhi : hi ≤ 99) (hN : 4097 < N) (h : nOk z f p lo hi = true) : ∃ M', fX1_passNumber N M q (nI lo) (nI hi) = some (1, M') ∧ CF M M' q ∧ SC q z f (tE z f p) M' ∧ M'.1 q 5 = nI (mv z f p) := by
  obtain ⟨w, h1, h2⟩ := of_decide_eq_true h
  have e2 : nI (tO z f p) = 2 := by rw [w]; rfl
  have hA : CF M (sI M q 5 (nI (mv z f p))) q := (CF.rf M q).sI _ (by omega)
  have hS1 : SC q z f p (sI M q 5 (nI (mv z f p))) := ⟨TC_cf hA hS.1, by rw [sI_o (by omega)]; exact hS.2.1, by rw [sI_o (by omega)]; exact hS.2.2.1, by rw [sI_o (by omega)]; exact hS.2.2.2⟩
  obtain ⟨M', a1, a2, a3⟩ := next_c (N := N) hS1 hB hp hN
  refine ⟨M', ?_, hA.tr a2.cf, a3, by rw [a2.1 _ _ (by omega), sI_s]⟩
  unfold fX1_passNumber
  rw [hS.2.1, if_pos e2, nah_c hS hB hp w hN, bd_some, if_pos e2, if_neg (show ¬ mv z f p = 100000 by omega), if_neg (nI_nlt h1 (by omega)), if_pos (nI_le h2 (by omega)), nm_eq, a1, bd_some]
theorem num_n {N : Nat} {M : Mem} {b z p lo hi : Nat} {f : Nat → Nat} (hS : SM b z f p M) (hlo : lo ≤ 99) (hhi : hi ≤ 99) (h : nOk z f p lo hi = false) : fX7_number N M b (nI lo) (nI hi) = some (0, sI M b 31 (nI (tS z f p))) := by
  have ho : tO z f p ≤ 4 := by
    unfold tO; split
    · exact (bz_le _).2
    · omega
  unfold fX7_number fX7_wrong
  rw [hS.2.1, hS.2.2.1]
  by_cases w : tO z f p = 2
  · have h' : ¬ (lo ≤ mv z f p ∧ mv z f p ≤ hi) := fun q => of_decide_eq_false h ⟨w, q.1, q.2⟩
    have hm := mv_form w
    have hr : (decide (nI lo ≤ nI (mv z f p)) && decide (nI (mv z f p) ≤ nI hi)) = false := by
      by_cases w2 : lo ≤ mv z f p
      · rw [decide_eq_false (nI_ge (show hi < mv z f p by omega) (by omega)), Bool.and_false]
      · rw [decide_eq_false (nI_ge (show mv z f p < lo by omega) (by omega)), Bool.false_and]
    rw [if_pos (show nI (tO z f p) = 2 by rw [w]; rfl), hS.2.2.2.2 w, in_w N _ _ _ _ rfl rfl, hr, bd_some, b1_if, if_neg (by decide), nm_eq, bd_some, gc_of (Or.inl rfl)]
  · rw [if_neg (show ¬ nI (tO z f p) = (2 : Int32) from fun e => w ((nI_k (d := 2) (by omega) (by decide)).mp e)), nm_eq, bd_some, gc_of (Or.inl rfl)]
theorem num_y {N : Nat} {M : Mem} {b z p lo hi : Nat} {f : Nat → Nat} (hS : SM b z f p M) (hB : TBy z f) (hp : p ≤ z) (hlo : lo ≤ 99) (hhi : hi ≤ 99) (hN : 4097 < N) (h : nOk z f p lo hi = true) : ∃ M', fX7_number N M b (nI lo) (nI hi) = some (1, M') ∧ GF M M' b ∧ SM b z f (tE z f p) M' ∧ M'.1 b 32 = nI (mv z f p) := by
  obtain ⟨w, h1, h2⟩ := of_decide_eq_true h
  have hA : GF M (sI M b 32 (nI (mv z f p))) b := (GF.rf M b).sI _ (by omega)
  have hS1 : SM b z f p (sI M b 32 (nI (mv z f p))) := ⟨TM_gf hA hS.1, by rw [sI_o (by omega)]; exact hS.2.1, by rw [sI_o (by omega)]; exact hS.2.2.1, by rw [sI_o (by omega)]; exact hS.2.2.2.1, hS.2.2.2.2⟩
  obtain ⟨M', a1, a2, a3⟩ := next_m (N := N) hS1 hB hp hN
  refine ⟨M', ?_, hA.tr a2.gf, a3, by rw [a2.1 _ _ (by omega), sI_s]⟩
  have hr : (decide (nI lo ≤ nI (mv z f p)) && decide (nI (mv z f p) ≤ nI hi)) = true := by
    rw [decide_eq_true (nI_le h1 (by omega)), decide_eq_true (nI_le h2 (by omega))]; rfl
  unfold fX7_number
  rw [hS.2.1, if_pos (show nI (tO z f p) = 2 by rw [w]; rfl), hS.2.2.2.2 w, in_w N _ _ _ _ rfl rfl, hr, bd_some, b1_if, if_pos rfl, Int32.toInt32_toInt64, nm_eq, a1, bd_some]
