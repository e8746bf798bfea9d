/-! ===== the tape fed and wiped ===== -/
theorem byte_eq (x : Int32) {n : Nat} (hn : n ≤ 24) : ((x.toUInt32 >>> ((nI n).toUInt32 &&& Int32.toUInt32 31)).toInt32) &&& 255 = (x >>> (nI n &&& 31)) &&& 255 := by
  apply b_ext
  intro i hi
  rw [b_and, b_and, b_255, b_ushr n (by omega), b_sshr n (by omega) x hi]
  by_cases q : i < 8
  · rw [if_pos (by omega)]
  · rw [decide_eq_false q, Bool.and_false, Bool.and_false]
theorem byte_lt (y : Int32) : ∃ k, k < 256 ∧ y &&& 255 = nI k := of_bits (n := 8) (by decide) (fun i h => by
  rw [b_and, b_255, Bool.and_eq_true] at h
  exact of_decide_eq_true h.2)
theorem mul8 {w : Nat} (h : w < 4) : (8 : Int32) * nI w = nI (8 * w) := (by decide +kernel : ∀ w, w < 4 → (8 : Int32) * nI w = nI (8 * w)) w h
theorem sub160 {z : Nat} (h : z ≤ 160) : (160 : Int32) - nI z = nI (160 - z) := (by decide +kernel : ∀ z, z < 161 → (160 : Int32) - nI z = nI (160 - z)) z (by omega)
def dn (v p : Nat) : Int32 := if p < v then nI (v - 1 - p) else -1
theorem dn_s {v p : Nat} (h : p < v) : dn v p + (-1) = dn v (p + 1) := by
  unfold dn
  rw [if_pos h]
  by_cases q : p + 1 < v
  · rw [if_pos q, show v - 1 - p = (v - 1 - (p + 1)) + 1 by omega, ← Int32.sub_eq_add_neg, nI_pred]
  · rw [if_neg q, show v - 1 - p = 0 by omega]; rfl
def byU (u : Int32) (w : Nat) : Int32 := (u >>> (nI (8 * w) &&& 31)) &&& 255
def tpT (f : Nat → Int32) (u : Int32) (v z i : Nat) : Int32 := if i < z then f i else byU u (v - 1 - (i - z))
/-- M' is M but for the tape: the count at (o, k), the bytes in row d -/
def TF (M M' : Mem) (o k d : Nat) : Prop := (∀ x i, (x ≠ o ∨ i ≠ k) → x ≠ d → M'.1 x i = M.1 x i) ∧ M'.2 = M.2
theorem append_c {N : Nat} {M : Mem} {q z : Nat} (e : M.1 q 1 = nI z) (hz : z < 160) (y : Int32) : fX1_append N M q y = some (sI (sI M (q + 1) z y) q 1 (nI (z + 1))) := by
  unfold fX1_append
  rw [e, if_neg (show ¬ (160 : Int32) ≤ nI z from nI_ge (b := 160) hz (by decide)), gd_nI hz (by decide), nI_clamp (by omega), nm_eq, nm_eq, sI_o (by omega), e, nI_1]
theorem feed_c {N : Nat} {M : Mem} {a z v : Nat} (u : Int32) (e : M.1 (a + 2) 1 = nI z) (hv : v ≤ 4) (hz : z + v ≤ 160) (hN : 4097 < N) : ∃ M', fX6_feed_42 N a u N M (dn v 0) = some (nI (z + v), M') ∧ TF M M' (a + 2) 1 (a + 3) ∧ M'.1 (a + 2) 1 = nI (z + v) ∧ ∀ i, i < z + v → M'.1 (a + 3) i = tpT (M.1 (a + 3)) u v z i := by
  obtain ⟨k, ⟨Mw, w⟩, ⟨ew, hA, h1, h2⟩, e0⟩ := lpI (fun k (s : Mem × Int32) => fX6_feed_42 N a u k s.1 s.2) (fun j s => s.2 = dn v j ∧ TF M s.1 (a + 2) 1 (a + 3) ∧ s.1.1 (a + 2) 1 = nI (z + j) ∧ ∀ i, i < z + j → s.1.1 (a + 3) i = tpT (M.1 (a + 3)) u v z i) v (fun k p s hp hs => by
    obtain ⟨Mw, w⟩ := s
    obtain ⟨ew, hA, h1, h2⟩ := hs
    have ew : w = dn v p := ew
    subst ew
    have hA : TF M Mw (a + 2) 1 (a + 3) := hA
    have h1 : Mw.1 (a + 2) 1 = nI (z + p) := h1
    have h2 : ∀ i, i < z + p → Mw.1 (a + 3) i = tpT (M.1 (a + 3)) u v z i := h2
    refine ⟨(sI (sI Mw (a + 2 + 1) (z + p) (byU u (v - 1 - p))) (a + 2) 1 (nI (z + p + 1)), dn v (p + 1)), ⟨rfl, ⟨fun x i h h' => ?_, hA.2⟩, ?_, fun i hi => ?_⟩, ?_⟩
    · show (sI (sI Mw _ _ _) _ _ _).1 x i = _
      rw [sI_o (by omega), sI_o (by omega)]; exact hA.1 x i h h'
    · show (sI (sI Mw _ _ _) _ _ _).1 (a + 2) 1 = _
      rw [sI_s]; rfl
    · show (sI (sI Mw _ _ _) _ _ _).1 (a + 3) i = _
      rw [sI_o (by omega)]
      by_cases q : i = z + p
      · subst q
        show (sI Mw (a + 3) (z + p) _).1 (a + 3) (z + p) = _
        rw [sI_s]; unfold tpT; rw [if_neg (by omega), Nat.add_sub_cancel_left]
      · rw [sI_o (by omega)]; exact h2 i (by omega)
    · show fX6_feed_42 N a u (k + 1) Mw (dn v p) = fX6_feed_42 N a u k _ (dn v (p + 1))
      rw [fX6_feed_42, show dn v p = nI (v - 1 - p) from if_pos hp, if_neg (nI_pos (by omega)), mul8 (by omega), byte_eq u (by omega), append_c h1 (by omega), bd_some, show nI (v - 1 - p) = dn v p from (if_pos hp).symm, dn_s hp]
      rfl) (N := N) (by omega) (s0 := (M, dn v 0)) ⟨rfl, ⟨fun _ _ _ _ => rfl, rfl⟩, e, fun i hi => by unfold tpT; rw [if_pos (by omega)]⟩
  have ew : w = dn v v := ew
  subst ew
  have h1 : Mw.1 (a + 2) 1 = nI (z + v) := h1
  refine ⟨Mw, e0.trans ?_, hA, h1, h2⟩
  show fX6_feed_42 N a u (k + 1) Mw (dn v v) = _
  rw [fX6_feed_42, show dn v v = -1 from if_neg (by omega), if_pos (by decide), h1]
theorem feed_m {N : Nat} {M : Mem} {b z v : Nat} (u : Int32) (e : M.1 b 8 = nI z) (hv : v ≤ 4) (hz : z + v ≤ 160) (hN : 4097 < N) : ∃ M', fX7_feed_42 N b u N M (dn v 0) = some (nI (z + v), M') ∧ TF M M' b 8 (b + 16) ∧ M'.1 b 8 = nI (z + v) ∧ ∀ i, i < z + v → M'.1 (b + 16) i = tpT (M.1 (b + 16)) u v z i := by
  obtain ⟨k, ⟨Mw, w⟩, ⟨ew, hA, h1, h2⟩, e0⟩ := lpI (fun k (s : Mem × Int32) => fX7_feed_42 N b u k s.1 s.2) (fun j s => s.2 = dn v j ∧ TF M s.1 b 8 (b + 16) ∧ s.1.1 b 8 = nI (z + j) ∧ ∀ i, i < z + j → s.1.1 (b + 16) i = tpT (M.1 (b + 16)) u v z i) v (fun k p s hp hs => by
    obtain ⟨Mw, w⟩ := s
    obtain ⟨ew, hA, h1, h2⟩ := hs
    have ew : w = dn v p := ew
    subst ew
    have hA : TF M Mw b 8 (b + 16) := hA
    have h1 : Mw.1 b 8 = nI (z + p) := h1
    have h2 : ∀ i, i < z + p → Mw.1 (b + 16) i = tpT (M.1 (b + 16)) u v z i := h2
    refine ⟨(sI (sI Mw b 8 (nI (z + p + 1))) (b + 16) (z + p) (byU u (v - 1 - p)), dn v (p + 1)), ⟨rfl, ⟨fun x i h h' => ?_, hA.2⟩, ?_, fun i hi => ?_⟩, ?_⟩
    · show (sI (sI Mw _ _ _) _ _ _).1 x i = _
      rw [sI_o (by omega), sI_o (by omega)]; exact hA.1 x i h h'
    · show (sI (sI Mw _ _ _) _ _ _).1 b 8 = _
      rw [sI_o (by omega), sI_s]; rfl
    · show (sI (sI Mw _ _ _) _ _ _).1 (b + 16) i = _
      by_cases q : i = z + p
      · subst q
        rw [sI_s]; unfold tpT; rw [if_neg (by omega), Nat.add_sub_cancel_left]
      · rw [sI_o (by omega), sI_o (by omega)]; exact h2 i (by omega)
    · show fX7_feed_42 N b u (k + 1) Mw (dn v p) = fX7_feed_42 N b u k _ (dn v (p + 1))
      rw [fX7_feed_42, show dn v p = nI (v - 1 - p) from if_pos hp, if_neg (nI_pos (by omega)), mul8 (by omega), nm_eq, h1, gd_nI (by omega) (by decide), nI_clamp (by omega), nm_eq, show nI (v - 1 - p) = dn v p from (if_pos hp).symm, dn_s hp, nI_1]
      rfl) (N := N) (by omega) (s0 := (M, dn v 0)) ⟨rfl, ⟨fun _ _ _ _ => rfl, rfl⟩, e, fun i hi => by unfold tpT; rw [if_pos (by omega)]⟩
  have ew : w = dn v v := ew
  subst ew
  have h1 : Mw.1 b 8 = nI (z + v) := h1
  refine ⟨Mw, e0.trans ?_, hA, h1, h2⟩
  show fX7_feed_42 N b u (k + 1) Mw (dn v v) = _
  rw [fX7_feed_42, show dn v v = -1 from if_neg (by omega), if_pos (by decide), h1]
theorem Inv_tp {kp : Int32} {a b : Nat} {M M' : Mem} (hI : Inv kp a b M) (h : ∀ x i, x ≠ a + 2 → x ≠ a + 3 → (x ≠ b ∨ (i ≠ 8 ∧ i < 27)) → x ≠ b + 16 → M'.1 x i = M.1 x i) (hJ : ∀ x i, JS a b x → M'.2 x i = M.2 x i) (hT : TPr M' (a + 2) b) : Inv kp a b M' := by
  obtain ⟨⟨ha, hb⟩, hs, -, hr, htw, hk⟩ := hI
  refine ⟨⟨ha, hb⟩, fun s hs2 => SHr_fr (fun i => h _ _ (by omega) (by omega) (by omega) (by omega)) (fun i => hJ _ _ (by unfold JS; omega)) (fun j hj => h _ _ (by omega) (by omega) (by omega) (by omega)) (fun i => hJ _ _ (by unfold JS; omega)) (hs s hs2), hT, fun i hi => ?_, TWr_fr (fun x i p q => h _ _ (by omega) (by omega) (by omega) (by omega)) (fun x i p q => h _ _ (by omega) (by omega) (by omega) (by omega)) (fun i p => h _ _ (by omega) (by omega) (by omega) (by omega)) htw, KPr_fr (h _ _ (by omega) (by omega) (by omega) (by omega)) (h _ _ (by omega) (by omega) (by omega) (by omega)) (fun x i p q => h _ _ (by omega) (by omega) (by omega) (by omega)) (fun x i p => h _ _ (by omega) (by omega) (by omega) (by omega)) hk⟩
  rw [h _ _ (by omega) (by omega) (by omega) (by omega), h _ _ (by omega) (by omega) (by omega) (by omega)]
  exact hr i hi
theorem op_wipe {kp : Int32} {a b N : Nat} {M : Mem} (hI : Inv kp a b M) : Op kp a b M (fX6_wipe N M a) (fun M1 => fX7_wipe N M1 b) := by
  have hab := hI.1
  obtain ⟨z, hz, t1, t2, -⟩ := hI.2.2.1
  refine ⟨nI z, sI M (a + 2) 1 0, sI (sI M (a + 2) 1 0) b 8 0, ?_, fun x i h => ⟨sI_o (by omega), rfl⟩, ?_, ?_⟩
  · unfold fX6_wipe fX1_empty
    rw [nm_eq, nm_eq, bd_some, t1]
  · show fX7_wipe N _ b = _
    unfold fX7_wipe
    rw [nm_eq, nm_eq, sI_o (by omega), t2]
  · refine Inv_tp hI (fun x i h1 h2 h3 h4 => by rw [sI_o (by omega), sI_o (by omega)]) (fun _ _ _ => rfl) ⟨0, by decide, ?_, sI_s, fun i h => absurd h (Nat.not_lt_zero i)⟩
    rw [sI_o (by omega), sI_s]; rfl
theorem op_feed {kp : Int32} {a b N : Nat} {M : Mem} (hI : Inv kp a b M) (hN : 4097 < N) (v1 v2 : Int32) : Op kp a b M (fX6_feed N M a v1 v2) (fun M1 => fX7_feed N M1 b v1 v2) := by
  unfold fX6_feed fX7_feed
  refine op_rng hI v2 1 4 (by decide) (by decide) id _ _ (fun h1 => ?_)
  obtain ⟨v, hv1, hv, rfl⟩ := rg_nI (x := 1) (y := 4) (by decide) (by decide) h1
  have hab := hI.1
  obtain ⟨z, hz, t1, t2, t3⟩ := hI.2.2.1
  have ed : nI v - 1 = dn v 0 := by
    unfold dn
    rw [if_pos (by omega), show v = (v - 1) + 1 by omega, nI_pred]; rfl
  by_cases q : v ≤ 160 - z
  · obtain ⟨M1, a1, hA, a2, a3⟩ := feed_c (N := N) (a := a) v1 t1 hv (by omega) hN
    have hu : Up b M M1 := fun x i h => ⟨hA.1 _ _ (by omega) (by omega), by rw [hA.2]⟩
    obtain ⟨M2, b1, hB, b2, b3⟩ := feed_m (N := N) (b := b) (M := M1) v1 (by rw [(hu b 8 (by omega)).1, t2]) hv (by omega) hN
    refine ⟨nI (z + v), M1, M2, ?_, hu, ?_, ?_⟩
    · rw [t1, sub160 hz, if_pos (nI_le q (by omega)), nm_eq, ed, a1]
    · show (if _ then _ else _) = _
      rw [(hu b 8 (by omega)).1, t2, sub160 hz, if_pos (nI_le q (by omega)), nm_eq, ed, b1]
    · refine Inv_tp hI (fun x i h1 h2 h3 h4 => by rw [hB.1 _ _ (by omega) (by omega), hA.1 _ _ (by omega) (by omega)]) (fun _ _ _ => by rw [hB.2, hA.2]) ⟨z + v, by omega, by rw [hB.1 _ _ (by omega) (by omega), a2], b2, fun i hi => ?_⟩
      show M2.1 (a + 3) i = _ ∧ _
      rw [hB.1 _ _ (by omega) (by omega), a3 i hi, b3 i hi]
      unfold tpT
      by_cases r : i < z
      · rw [if_pos r, if_pos r, (hu (b + 16) i (by omega)).1]
        exact t3 i r
      · rw [if_neg r, if_neg r]
        exact ⟨rfl, byte_lt _⟩
  · refine Op.ref hI (w := 6) (by decide) (by decide) (-6) ?_ ?_
    · rw [t1, sub160 hz, if_neg (nI_ge (by omega) (by omega)), rfC6]; rfl
    · show (if _ then _ else _) = _
      rw [rC_o (by omega), t2, sub160 hz, if_neg (nI_ge (by omega) (by omega)), rfM6]; rfl
