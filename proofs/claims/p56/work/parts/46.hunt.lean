/-! ===== a search begun, its steps, what it tells ===== -/
theorem i4c : (4 : Int32).toNatClampNeg = 4 := rfl
def ov (M : Mem) (x y len : Nat) : Mem := fI M y (upto (M.1 x) (M.1 y) len)
def cs (M : Mem) (x i j : Nat) : Mem := sI M x i (M.1 x j)
theorem ov_o {M : Mem} {x y len z : Nat} (h : z ≠ y) (i : Nat) : (ov M x y len).1 z i = M.1 z i := fI_o h i
theorem ov_s {M : Mem} {x y len i : Nat} (h : i < len) : (ov M x y len).1 y i = M.1 x i := by
  unfold ov; rw [fI_s, upto_in h]
theorem cs_o {M : Mem} {x y i j k : Nat} (h : y ≠ x ∨ k ≠ i) : (cs M x i j).1 y k = M.1 y k := sI_o h
theorem cs_s {M : Mem} {x i j : Nat} : (cs M x i j).1 x i = M.1 x j := sI_s
def bgA (M : Mem) (b t : Nat) : Mem := cs (cs (cs M (b + 18) 4 t) (b + 19) 4 t) (b + 20) 4 t
def bgB (M : Mem) (b t : Nat) : Mem := ov (ov (ov (ov M (b + 21 + 1 + t) (b + 21 + 1 + 4) 12) (b + 27 + 1 + t) (b + 27 + 1 + 4) 12) (b + 33 + 1 + t) (b + 33 + 1 + 4) 12) (b + 39 + 1 + t) (b + 39 + 1 + 4) 144
def bgC (M : Mem) (b t : Nat) : Mem := sI (sI (sI (sI M b 22 (nI t)) b 23 0) b 24 0) b 25 (-1)
def bgM (M : Mem) (b t : Nat) : Mem := bgC (bgB (bgA M b t) b t) b t
theorem bgC_o {M : Mem} {b t x i : Nat} (h : x ≠ b ∨ i < 22 ∨ 25 < i) : (bgC M b t).1 x i = M.1 x i := by
  unfold bgC; rw [sI_o (by omega), sI_o (by omega), sI_o (by omega), sI_o (by omega)]
theorem bgB_o {M : Mem} {b t x i : Nat} (h : x ≠ b + 21 + 1 + 4 ∧ x ≠ b + 27 + 1 + 4 ∧ x ≠ b + 33 + 1 + 4 ∧ x ≠ b + 39 + 1 + 4) : (bgB M b t).1 x i = M.1 x i := by
  unfold bgB; rw [ov_o (by omega), ov_o (by omega), ov_o (by omega), ov_o (by omega)]
theorem bgA_o {M : Mem} {b t x i : Nat} (h : (x ≠ b + 18 ∧ x ≠ b + 19 ∧ x ≠ b + 20) ∨ i ≠ 4) : (bgA M b t).1 x i = M.1 x i := by
  unfold bgA; rw [cs_o (by omega), cs_o (by omega), cs_o (by omega)]
theorem bgM_MV {M : Mem} {b t n : Nat} {C : Nat → Nat → Int32} (hn : n ≤ 12) (ht : t < 4) (hM : MV M b t n C) : MV (bgM M b t) b 4 n C := by
  obtain ⟨h1, h2, h3, h4, h5, h6⟩ := hM
  unfold bgM
  refine ⟨?_, ?_, ?_, fun p hp => ⟨?_, ?_⟩, fun p hp => ?_, fun k hk => ?_⟩
  · rw [bgC_o (by omega), bgB_o (by omega), ← h1]; unfold bgA; rw [cs_o (by omega), cs_o (by omega), cs_s]
  · rw [bgC_o (by omega), bgB_o (by omega), ← h2]; unfold bgA; rw [cs_o (by omega), cs_s, cs_o (by omega)]
  · rw [bgC_o (by omega), bgB_o (by omega), ← h3]; unfold bgA; rw [cs_s, cs_o (by omega), cs_o (by omega)]
  · rw [bgC_o (by omega), ← (h4 p hp).1]; unfold bgB; rw [ov_o (by omega), ov_o (by omega), ov_o (by omega), ov_s (by omega), bgA_o (by omega)]
  · rw [bgC_o (by omega), ← (h4 p hp).2]; unfold bgB; rw [ov_o (by omega), ov_o (by omega), ov_s (by omega), ov_o (by omega), bgA_o (by omega)]
  · rw [bgC_o (by omega), ← h5 p hp]; unfold bgB; rw [ov_o (by omega), ov_s (by omega), ov_o (by omega), ov_o (by omega), bgA_o (by omega)]
  · rw [bgC_o (by omega), ← h6 k hk]; unfold bgB; rw [ov_s (by omega), ov_o (by omega), ov_o (by omega), ov_o (by omega), bgA_o (by omega)]
theorem MV_bg {M : Mem} {b t t' n : Nat} {C : Nat → Nat → Int32} (ht' : t' < 4) (hM : MV M b t' n C) : MV (bgM M b t) b t' n C := by
  obtain ⟨h1, h2, h3, h4, h5, h6⟩ := hM
  have f : ∀ x i, (x ≠ b ∧ x ≠ b + 21 + 1 + 4 ∧ x ≠ b + 27 + 1 + 4 ∧ x ≠ b + 33 + 1 + 4 ∧ x ≠ b + 39 + 1 + 4) → ((x ≠ b + 18 ∧ x ≠ b + 19 ∧ x ≠ b + 20) ∨ i ≠ 4) → (bgM M b t).1 x i = M.1 x i := fun x i p q => by
    unfold bgM; rw [bgC_o (by omega), bgB_o (by omega), bgA_o q]
  refine ⟨by rw [f _ _ (by omega) (by omega), h1], by rw [f _ _ (by omega) (by omega), h2], by rw [f _ _ (by omega) (by omega), h3], fun p hp => ?_, fun p hp => ?_, fun k hk => ?_⟩
  · rw [f _ _ (by omega) (by omega), f _ _ (by omega) (by omega)]; exact h4 p hp
  · rw [f _ _ (by omega) (by omega)]; exact h5 p hp
  · rw [f _ _ (by omega) (by omega)]; exact h6 k hk
theorem bgM_o {M : Mem} {b t x i : Nat} (h : x ≠ b ∨ i < 22 ∨ 25 < i) (h2 : x < b + 18 ∨ b + 44 < x) : (bgM M b t).1 x i = M.1 x i := by
  unfold bgM; rw [bgC_o h, bgB_o (by omega), bgA_o (by omega)]
def bgH (M : Mem) (h t : Nat) (C : Nat → Nat → Int32) : Mem := sI (sI (sI (sI (sI (wC M (h + 1) (beC C (fun j i => M.1 (h + 1 + j) i))) h 1 1) h 2 (nI t)) h 3 0) h 4 0) h 5 (-1)
theorem bgH_o {M : Mem} {h t x i : Nat} {C : Nat → Nat → Int32} (q : x < h ∨ h + 8 < x) : (bgH M h t C).1 x i = M.1 x i := by
  unfold bgH; rw [sI_o (by omega), sI_o (by omega), sI_o (by omega), sI_o (by omega), sI_o (by omega), wC_o (by omega)]
theorem op_begin {kp : Int32} {a b N : Nat} {M : Mem} (hI : Inv kp a b M) (hN : 4097 < N) (v1 : Int32) : Op kp a b M (fX6_begin N M a v1) (fun M1 => fX7_begin N M1 b v1) := by
  unfold fX6_begin fX7_begin
  refine op_st hI v1 id _ _ ?_
  rintro k t n C hk ht e1 e2 rfl hC hV hM hW
  have hab := hI.1
  have hu : Up b M (bgH M (a + 4 + 3) t C) := fun x i h => ⟨bgH_o (by omega), rfl⟩
  have hM1 : MV (bgH M (a + 4 + 3) t C) b t n C := MV_fr (by omega) (fun x i p q => (hu x i (by omega)).1) hM
  refine ⟨nI (2 ^ n), bgH M (a + 4 + 3) t C, bgM (bgH M (a + 4 + 3) t C) b t, ?_, hu, ?_, ?_⟩
  · have hV1 : CV (bgH M (a + 4 + 3) t C) (a + 4 + 1 + 11 + 8 * t) C := CV_fr (fun j hj i => bgH_o (by omega)) hV
    unfold fX2_start
    rw [become_c hV (by omega), bd_some, nm_eq, nm_eq, nm_eq, nm_eq, nm_eq, bd_some]
    show bd (fX4_sets N (bgH M (a + 4 + 3) t C) _) (fun r5 => some (r5, bgH M (a + 4 + 3) t C)) = _
    rw [sets_s N hV1 hC, bd_some]
  · show gd _ _ _ = _
    have e : (bgM (bgH M (a + 4 + 3) t C) b t).1 (b + 18) t = nI n := (MV_bg (by omega) hM1).1
    rw [gd_nI (by omega) (by decide), nI_clamp (by omega), i4c, nm_eq, nm_eq, nm_eq, over_m (b0 := b + 21 + 1 + t) (b1 := b + 21 + 1 + 4) (len := 12) _ (by omega) (by decide) hN, bd_some, over_m (b0 := b + 27 + 1 + t) (b1 := b + 27 + 1 + 4) (len := 12) _ (by omega) (by decide) hN, bd_some, over_m (b0 := b + 33 + 1 + t) (b1 := b + 33 + 1 + 4) (len := 12) _ (by omega) (by decide) hN, bd_some, over_m (b0 := b + 39 + 1 + t) (b1 := b + 39 + 1 + 4) (len := 144) _ (by omega) (by decide) hN, bd_some, nm_eq, nm_eq, nm_eq, nm_eq]
    show some ((1 : Int32) <<< ((bgM (bgH M (a + 4 + 3) t C) b t).1 (b + 18) t &&& 31), bgM (bgH M (a + 4 + 3) t C) b t) = _
    rw [e, sh1 (by have := hC.1.2; omega)]
  · have f : ∀ x i, (x < a + 4 + 3 ∨ a + 4 + 3 + 8 < x) → (x ≠ b ∨ i < 22 ∨ 25 < i) → (x < b + 18 ∨ b + 44 < x) → (bgM (bgH M (a + 4 + 3) t C) b t).1 x i = M.1 x i := fun x i p q r => by rw [bgM_o q r, bgH_o p]
    refine Inv_tw hI (fun x i h => f _ _ (by unfold IT at h; omega) (by unfold IT at h; omega) (by unfold IT at h; omega)) (fun _ _ _ => rfl) ?_
    obtain ⟨⟨k', hk', e1', e2', hs⟩, hkn, hse, hhn⟩ := hI.2.2.2.2.1
    refine ⟨⟨k', hk', by rw [f _ _ (by omega) (by omega) (by omega), e1'], by rw [f _ _ (by omega) (by omega) (by omega), e2'], fun t' ht' => ?_⟩, fun d hd => ?_, by rw [f _ _ (by omega) (by omega) (by omega), f _ _ (by omega) (by omega) (by omega), hse], Or.inr ⟨t, n, beC C (fun j i => M.1 (a + 4 + 3 + 1 + j) i), 0, ?_, by omega, ?_, ?_, RC_eq (be_eq C _) hC, ?_, MV_eq (be_eq C _) hC.1.2 (bgM_MV hC.1.2 (by omega) hM1), Nat.zero_le _, ?_, ?_, ?_, ?_⟩⟩
    · obtain ⟨n', C', hC', hV', hM', hW'⟩ := hs t' ht'
      exact ⟨n', C', hC', CV_fr (fun j hj i => f _ _ (by omega) (by omega) (by omega)) hV', MV_bg (by omega) (MV_fr (by omega) (fun x i p q => (hu x i (by omega)).1) hM'), WV_fr (by omega) (fun x i p q => f _ _ (by omega) (by omega) (by omega)) hW'⟩
    · rw [f _ _ (by omega) (by omega) (by omega), f _ _ (by omega) (by omega) (by omega)]; exact hkn d hd
    · rw [bgM_o (by omega) (by omega)]; unfold bgH; rw [sI_o (by omega), sI_o (by omega), sI_o (by omega), sI_o (by omega), sI_s]
    · rw [bgM_o (by omega) (by omega)]; unfold bgH; rw [sI_o (by omega), sI_o (by omega), sI_o (by omega), sI_s]
    · unfold bgM bgC; rw [sI_o (by omega), sI_o (by omega), sI_o (by omega), sI_s]
    · exact CV_fr (fun j hj i => by rw [bgM_o (by omega) (by omega)]; unfold bgH; rw [sI_o (by omega), sI_o (by omega), sI_o (by omega), sI_o (by omega), sI_o (by omega)]) (wC_CV M (a + 4 + 3 + 1) (beC C (fun j i => M.1 (a + 4 + 3 + 1 + j) i)))
    · rw [bgM_o (by omega) (by omega)]; unfold bgH; rw [sI_o (by omega), sI_o (by omega), sI_s]; rfl
    · unfold bgM bgC; rw [sI_o (by omega), sI_o (by omega), sI_s]; rfl
    · rw [bgM_o (by omega) (by omega)]; unfold bgH bgM bgC; rw [sI_o (by omega), sI_s, sI_o (by omega), sI_s]
    · rw [bgM_o (by omega) (by omega)]; unfold bgH bgM bgC; rw [sI_s, sI_s]
