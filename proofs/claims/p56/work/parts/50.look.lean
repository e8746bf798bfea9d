/-! the reference -/
theorem tR_le {z : Nat} {f : Nat → Nat} {s : Nat} (h : s < z) : s + 1 + tR z f s ≤ z := by
  have hle := fa_first_le (fun i => decide (bz (f (s + 1 + i)) ≠ bz (f s))) (z - (s + 1))
  unfold tR; omega
theorem tR_in {z : Nat} {f : Nat → Nat} {s i : Nat} (h : i < 1 + tR z f s) : bz (f (s + i)) = bz (f s) := by
  rcases i with _ | i
  · rfl
  · have hno := fa_first_no (fun i => decide (bz (f (s + 1 + i)) ≠ bz (f s))) (z - (s + 1)) i (by unfold tR at h; omega)
    have a : bz (f (s + 1 + i)) = bz (f s) := Decidable.not_not.mp (of_decide_eq_false hno)
    rw [show s + (i + 1) = s + 1 + i by omega]; exact a
theorem tR_out {z : Nat} {f : Nat → Nat} {s : Nat} (h : s + 1 + tR z f s < z) : bz (f (s + 1 + tR z f s)) ≠ bz (f s) := by
  have hyes := fa_first_yes (fun i => decide (bz (f (s + 1 + i)) ≠ bz (f s))) (z - (s + 1)) (by unfold tR at h; omega)
  exact of_decide_eq_true hyes
theorem bz2 {c : Nat} (h : bz c = 2) : 48 ≤ c ∧ c ≤ 57 := by
  unfold bz at h
  split at h
  · omega
  · split at h
    · assumption
    · split at h <;> omega
theorem hv_lt {f : Nat → Nat} {s : Nat} : ∀ {k : Nat}, (∀ i, i < k → bz (f (s + i)) = 2) → hv f s k < 10 ^ k
  | 0, _ => Nat.lt_succ_self 0
  | k + 1, h => by
    have a := hv_lt (k := k) (fun i hi => h i (by omega))
    have b := bz2 (h k (by omega))
    rw [hv, Nat.pow_succ]
    omega
theorem dig64 {h d : Nat} (hh : h < 100) (hd : d < 10) : ((nI h).toInt64 * 10 + (nI (48 + d)).toInt64) - 48 = (nI (10 * h + d)).toInt64 := (by decide +kernel : ∀ h, h < 100 → ∀ d, d < 10 → ((nI h).toInt64 * 10 + (nI (48 + d)).toInt64) - 48 = (nI (10 * h + d)).toInt64) h hh d hd
theorem dig32 {h d : Nat} (hh : h < 100) (hd : d < 10) : (10 * nI h + nI (48 + d)) - 48 = nI (10 * h + d) := (by decide +kernel : ∀ h, h < 100 → ∀ d, d < 10 → (10 * nI h + nI (48 + d)) - 48 = nI (10 * h + d)) h hh d hd
theorem nI_subl (s j : Nat) : nI (s + j) - nI s = nI j := by
  rw [Nat.add_comm, ← nI_add, Int32.add_sub_cancel]
def mvj (f : Nat → Nat) (s j : Nat) : Nat := if j ≤ 3 then hv f s j else 100000
def LF (M M' : Mem) (b : Nat) : Prop := (∀ x i, (x ≠ b ∨ i < 27 ∨ 29 < i) → M'.1 x i = M.1 x i) ∧ (∀ x i, (x ≠ b ∨ i ≠ 30) → M'.2 x i = M.2 x i)
theorem LF.rf (M : Mem) (b : Nat) : LF M M b := ⟨fun _ _ _ => rfl, fun _ _ _ => rfl⟩
theorem LF.sI {M M' : Mem} {b : Nat} (h : LF M M' b) {i : Nat} (v : Int32) (hi : 27 ≤ i ∧ i ≤ 29) : LF M (sI M' b i v) b := ⟨fun y j w => by rw [sI_o (by omega)]; exact h.1 y j w, h.2⟩
theorem LF.sJ {M M' : Mem} {b : Nat} (h : LF M M' b) (v : Int64) : LF M (sJ M' b 30 v) b := ⟨h.1, fun y j w => by rw [sJ_o (by omega)]; exact h.2 y j w⟩
theorem LF.tr {M M' M'' : Mem} {b : Nat} (h : LF M M' b) (h' : LF M' M'' b) : LF M M'' b := ⟨fun x i w => by rw [h'.1 x i w, h.1 x i w], fun x i w => by rw [h'.2 x i w, h.2 x i w]⟩
theorem TM_fr {b z : Nat} {f : Nat → Nat} {M M' : Mem} (hA : LF M M' b) (h : TM b z f M) : TM b z f M' := ⟨by rw [hA.1 _ _ (by omega)]; exact h.1, fun i hi => by rw [hA.1 _ _ (by omega)]; exact h.2 i hi⟩
theorem look149 {N : Nat} {M : Mem} {b z s : Nat} {f : Nat → Nat} (hT : TM b z f M) (hB : TBy z f) (hs : s < z) (e2 : bz (f s) = 2) (e27 : M.1 b 27 = nI s) (e29 : M.1 b 29 = nI s) (e30 : M.2 b 30 = 0) (hN : 4097 < N) :
    ∃ M', fX7_look_149 N b N M = some M' ∧ LF M M' b ∧ M'.1 b 28 = M.1 b 28 ∧ M'.1 b 29 = nI s ∧ M'.1 b 27 = nI (s + 1 + tR z f s) ∧ M'.2 b 30 = (nI (mvj f s (1 + tR z f s))).toInt64 := by
  obtain ⟨hz, hf⟩ := hB
  have hrz := tR_le (f := f) hs
  obtain ⟨k, Mw, ⟨hA, h27, h28, h29, h30⟩, e⟩ := lpI (fun k (w : Mem) => fX7_look_149 N b k w) (fun j w => LF M w b ∧ w.1 b 27 = nI (s + j) ∧ w.1 b 28 = M.1 b 28 ∧ w.1 b 29 = nI s ∧ w.2 b 30 = (nI (mvj f s j)).toInt64) (1 + tR z f s) (fun k p w hp hw => by
    obtain ⟨hA, h27, h28, h29, h30⟩ := hw
    have hd := tR_in hp
    rw [e2] at hd
    have hd2 := bz2 hd
    have hTw := TM_fr hA hT
    by_cases w3 : 3 ≤ p
    · refine ⟨sI (sJ w b 30 100000) b 27 (nI (s + p) + 1), ⟨(hA.sJ _).sI _ (by omega), by rw [sI_s, nI_1]; rfl, by rw [sI_o (by omega)]; exact h28, by rw [sI_o (by omega)]; exact h29, ?_⟩, ?_⟩
      · show (sJ w b 30 100000).2 b 30 = _
        rw [sJ_s]; unfold mvj; rw [if_neg (by omega)]; decide +kernel
      · show fX7_look_149 N b (k + 1) w = fX7_look_149 N b k _
        rw [fX7_look_149, h27, hTw.1, if_neg (nI_ge (by omega) (by omega)), gd_nI (by omega) (by decide), nI_clamp (by omega), hTw.2 _ (by omega), bzD N _ (hf _ (by omega)), bd_some, hd, b1_if, if_pos (by decide), h29, nI_subl, if_pos (show (3 : Int32) ≤ nI p from nI_le (a := 3) w3 (by omega)), nm_eq, nm_eq]
        rw [show (sJ w b 30 100000).1 b 27 = nI (s + p) from h27]
    · refine ⟨sI (sJ w b 30 (nI (mvj f s (p + 1))).toInt64) b 27 (nI (s + p) + 1), ⟨(hA.sJ _).sI _ (by omega), by rw [sI_s, nI_1]; rfl, by rw [sI_o (by omega)]; exact h28, by rw [sI_o (by omega)]; exact h29, ?_⟩, ?_⟩
      · show (sJ w b 30 _).2 b 30 = _
        rw [sJ_s]
      · show fX7_look_149 N b (k + 1) w = fX7_look_149 N b k _
        have hlt : hv f s p < 10 ^ p := hv_lt (fun i hi => by rw [tR_in (z := z) (by omega), e2])
        have h100 : hv f s p < 100 := by
          have h3 : p = 0 ∨ p = 1 ∨ p = 2 := by omega
          rcases h3 with rfl | rfl | rfl <;> omega
        have ev : ((nI (hv f s p)).toInt64 * 10 + (nI (f (s + p))).toInt64) - 48 = (nI (mvj f s (p + 1))).toInt64 := by
          have a := dig64 (h := hv f s p) (d := f (s + p) - 48) h100 (by omega)
          rw [show 48 + (f (s + p) - 48) = f (s + p) by omega] at a
          rw [a]; unfold mvj; rw [if_pos (by omega), hv]
        rw [fX7_look_149, h27, hTw.1, if_neg (nI_ge (by omega) (by omega)), gd_nI (by omega) (by decide), nI_clamp (by omega), hTw.2 _ (by omega), bzD N _ (hf _ (by omega)), bd_some, hd, b1_if, if_pos (by decide), h29, nI_subl, if_neg (show ¬ (3 : Int32) ≤ nI p from nI_ge (b := 3) (by omega) (by decide)), h30, show mvj f s p = hv f s p from if_pos (by omega), ev, nm_eq, nm_eq]
        rw [show ∀ v, (sJ w b 30 v).1 b 27 = nI (s + p) from fun _ => h27]) (N := N) (by omega) (s0 := M) ⟨LF.rf M b, e27, rfl, e29, by rw [e30]; unfold mvj; rw [if_pos (by omega)]; show (0 : Int64) = (nI 0).toInt64; decide +kernel⟩
  refine ⟨Mw, e.trans ?_, hA, h28, h29, by rw [h27, Nat.add_assoc], h30⟩
  show fX7_look_149 N b (k + 1) Mw = _
  have hTw := TM_fr hA hT
  rw [fX7_look_149, h27, hTw.1, ← Nat.add_assoc]
  by_cases w : s + 1 + tR z f s < z
  · have ho := tR_out w
    rw [e2] at ho
    rw [if_neg (nI_ge w (by omega)), gd_nI (by omega) (by decide), nI_clamp (by omega), hTw.2 _ w, bzD N _ (hf _ w), bd_some, decide_eq_false ho, b1_if, if_neg (by decide)]
  · rw [if_pos (nI_le (by omega) (by omega))]
theorem look90 {N : Nat} {M : Mem} {b z s : Nat} {f : Nat → Nat} (hT : TM b z f M) (hB : TBy z f) (hs : s < z) (e2 : bz (f s) = 1) (e27 : M.1 b 27 = nI s) (hN : 4097 < N) :
    ∃ M', fX7_look_90 N b N M = some M' ∧ LF M M' b ∧ M'.1 b 28 = M.1 b 28 ∧ M'.1 b 29 = M.1 b 29 ∧ M'.1 b 27 = nI (s + 1 + tR z f s) := by
  obtain ⟨hz, hf⟩ := hB
  have hrz := tR_le (f := f) hs
  obtain ⟨k, Mw, ⟨hA, h27, h28, h29⟩, e⟩ := lpI (fun k (w : Mem) => fX7_look_90 N b k w) (fun j w => LF M w b ∧ w.1 b 27 = nI (s + j) ∧ w.1 b 28 = M.1 b 28 ∧ w.1 b 29 = M.1 b 29) (1 + tR z f s) (fun k p w hp hw => by
    obtain ⟨hA, h27, h28, h29⟩ := hw
    have hd := tR_in hp
    rw [e2] at hd
    have hTw := TM_fr hA hT
    refine ⟨sI w b 27 (nI (s + p) + 1), ⟨hA.sI _ (by omega), by rw [sI_s, nI_1]; rfl, by rw [sI_o (by omega)]; exact h28, by rw [sI_o (by omega)]; exact h29⟩, ?_⟩
    show fX7_look_90 N b (k + 1) w = fX7_look_90 N b k _
    rw [fX7_look_90, h27, hTw.1, if_neg (nI_ge (by omega) (by omega)), gd_nI (by omega) (by decide), nI_clamp (by omega), hTw.2 _ (by omega), bzL N _ (hf _ (by omega)), bd_some, hd, b1_if, if_pos (by decide), nm_eq]) (N := N) (by omega) (s0 := M) ⟨LF.rf M b, e27, rfl, rfl⟩
  refine ⟨Mw, e.trans ?_, hA, h28, h29, by rw [h27, Nat.add_assoc]⟩
  show fX7_look_90 N b (k + 1) Mw = _
  have hTw := TM_fr hA hT
  rw [fX7_look_90, h27, hTw.1, ← Nat.add_assoc]
  by_cases w : s + 1 + tR z f s < z
  · have ho := tR_out w
    rw [e2] at ho
    rw [if_neg (nI_ge w (by omega)), gd_nI (by omega) (by decide), nI_clamp (by omega), hTw.2 _ w, bzL N _ (hf _ w), bd_some, decide_eq_false ho, b1_if, if_neg (by decide)]
  · rw [if_pos (nI_le (by omega) (by omega))]
def lookT (N : Nat) (a : Nat) (Mw : Mem) : Option Mem := nm (sI Mw a 29 (Mw.1 a 27)) (fun M20 => nm (sJ M20 a 30 0) (fun M21 => if (M21.1 a 27) = (M21.1 a 8) then nm (sI M21 a 28 0) (fun M35 => some M35) else gd (M21.1 a 27) 160 (bd (fX7_isLetter N M21 (M21.1 (a + 16) ((M21.1 a 27) : Int32).toNatClampNeg)) (fun r24 => if r24 = 0 then bd (fX7_isDigit N M21 (M21.1 (a + 16) ((M21.1 a 27) : Int32).toNatClampNeg)) (fun r26 => if r26 = 0 then if (M21.1 (a + 16) ((M21.1 a 27) : Int32).toNatClampNeg) = 59 then nm (sI M21 a 28 3) (fun M31 => nm (sI M31 a 27 ((M31.1 a 27) + 1)) (fun M32 => some M32)) else nm (sI M21 a 28 4) (fun M29 => nm (sI M29 a 27 ((M29.1 a 27) + 1)) (fun M30 => some M30)) else nm (sI M21 a 28 2) (fun M33 => fX7_look_149 N a N M33 )) else nm (sI M21 a 28 1) (fun M34 => fX7_look_90 N a N M34 )))))
theorem look_0e (N a n : Nat) (Mw : Mem) : fX7_look_0 N a (n + 1) Mw = if (Mw.1 a 8) ≤ (Mw.1 a 27) then lookT N a Mw else gd (Mw.1 a 27) 160 (if (Mw.1 (a + 16) ((Mw.1 a 27) : Int32).toNatClampNeg) = 32 then nm (sI Mw a 27 ((Mw.1 a 27) + 1)) (fun M36 => fX7_look_0 N a n M36) else lookT N a Mw) := rfl
theorem lookT_m {N : Nat} {M : Mem} {b z s : Nat} {f : Nat → Nat} (hT : TM b z f M) (hB : TBy z f) (hs : s ≤ z) (e27 : M.1 b 27 = nI s) (hN : 4097 < N) :
    ∃ M', lookT N b M = some M' ∧ LF M M' b ∧ M'.1 b 29 = nI s ∧ M'.1 b 28 = nI (if s < z then bz (f s) else 0) ∧ M'.1 b 27 = nI (if s < z then (if 3 ≤ bz (f s) then s + 1 else s + 1 + tR z f s) else s)
      ∧ (s < z → bz (f s) = 2 → M'.2 b 30 = (nI (mvj f s (1 + tR z f s))).toInt64) := by
  have hB' := hB
  obtain ⟨hz, hf⟩ := hB
  have hA1 : LF M (sJ (sI M b 29 (nI s)) b 30 0) b := ((LF.rf M b).sI _ (by omega)).sJ _
  have hT1 := TM_fr hA1 hT
  have f27 : (sJ (sI M b 29 (nI s)) b 30 0).1 b 27 = nI s := by show (sI M b 29 (nI s)).1 b 27 = _; rw [sI_o (by omega), e27]
  have f29 : (sJ (sI M b 29 (nI s)) b 30 0).1 b 29 = nI s := by show (sI M b 29 (nI s)).1 b 29 = _; rw [sI_s]
  have f30 : (sJ (sI M b 29 (nI s)) b 30 0).2 b 30 = 0 := sJ_s
  unfold lookT
  rw [e27, nm_eq, nm_eq]
  obtain ⟨M1, hM1⟩ : ∃ M1, M1 = sJ (sI M b 29 (nI s)) b 30 0 := ⟨_, rfl⟩
  rw [← hM1] at hA1 hT1 f27 f29 f30 ⊢
  rw [f27, hT1.1]
  by_cases w : s < z
  · have b2 := bz_le (f s)
    rw [if_neg (fun e => by have := (nI_k (c := s) (d := z) (by omega) (by omega)).mp e; omega), gd_nI (by omega) (by decide), nI_clamp (by omega), hT1.2 _ w, bzL N _ (hf _ w), bd_some, bzD N _ (hf _ w), bd_some, b1_if, b1_if, if_pos w, if_pos w]
    by_cases w1 : bz (f s) = 1
    · rw [decide_eq_true w1, if_pos rfl, nm_eq, w1]
      have hA2 : LF M (sI M1 b 28 1) b := hA1.sI _ (by omega)
      obtain ⟨M', a1, a2, a3, a4, a5⟩ := look90 (N := N) (TM_fr hA2 hT) hB' w w1 (by rw [sI_o (by omega)]; exact f27) hN
      exact ⟨M', a1, hA2.tr a2, by rw [a4, sI_o (by omega)]; exact f29, by rw [a3, sI_s]; rfl, by rw [a5, if_neg (by omega)], fun _ h => by cases h⟩
    · rw [decide_eq_false w1, if_neg (by decide)]
      by_cases w2 : bz (f s) = 2
      · rw [decide_eq_true w2, if_pos rfl, nm_eq, w2]
        have hA2 : LF M (sI M1 b 28 2) b := hA1.sI _ (by omega)
        obtain ⟨M', a1, a2, a3, a4, a5, a6⟩ := look149 (N := N) (TM_fr hA2 hT) hB' w w2 (by rw [sI_o (by omega)]; exact f27) (by rw [sI_o (by omega)]; exact f29) f30 hN
        exact ⟨M', a1, hA2.tr a2, a4, by rw [a3, sI_s]; rfl, by rw [a5, if_neg (by omega)], fun _ _ => a6⟩
      · rw [decide_eq_false w2, if_neg (by decide)]
        by_cases w3 : bz (f s) = 3
        · rw [if_pos ((nI_59 (hf _ w)).mpr w3), nm_eq, nm_eq, sI_o (a := b) (x := b) (i := 28) (j := 27) (by omega), f27, nI_1]
          exact ⟨_, rfl, (hA1.sI _ (by omega)).sI _ (by omega), by rw [sI_o (by omega), sI_o (by omega)]; exact f29, by rw [sI_o (by omega), sI_s, w3]; rfl, by rw [sI_s, if_pos (by omega)], fun _ h => by omega⟩
        · rw [if_neg (fun e => w3 ((nI_59 (hf _ w)).mp e)), nm_eq, nm_eq, sI_o (a := b) (x := b) (i := 28) (j := 27) (by omega), f27, nI_1]
          have w4 : bz (f s) = 4 := by omega
          exact ⟨_, rfl, (hA1.sI _ (by omega)).sI _ (by omega), by rw [sI_o (by omega), sI_o (by omega)]; exact f29, by rw [sI_o (by omega), sI_s, w4]; rfl, by rw [sI_s, if_pos (by omega)], fun _ h => by omega⟩
  · have e : s = z := by omega
    rw [if_pos (by rw [e]), nm_eq, if_neg w, if_neg w]
    exact ⟨_, rfl, hA1.sI _ (by omega), by rw [sI_o (by omega)]; exact f29, by rw [sI_s]; rfl, by rw [sI_o (by omega)]; exact f27, fun h => absurd h w⟩
theorem look_s {N : Nat} {M : Mem} {b z p : Nat} {f : Nat → Nat} (hT : TM b z f M) (hB : TBy z f) (hp : p ≤ z) (e27 : M.1 b 27 = nI p) (hN : 4097 < N) :
    ∃ M', fX7_look N M b = some M' ∧ LF M M' b ∧ M'.1 b 29 = nI (tS z f p) ∧ M'.1 b 28 = nI (tO z f p) ∧ M'.1 b 27 = nI (tE z f p) ∧ (tO z f p = 2 → M'.2 b 30 = (nI (mvj f (tS z f p) (1 + tR z f (tS z f p)))).toInt64) := by
  have hB' := hB
  obtain ⟨hz, hf⟩ := hB
  unfold fX7_look
  obtain ⟨r, hr⟩ : ∃ r, r = fa_first (fun i => decide (f (p + i) ≠ 32)) (z - p) := ⟨_, rfl⟩
  have hle := fa_first_le (fun i => decide (f (p + i) ≠ 32)) (z - p)
  rw [← hr] at hle
  have hs : tS z f p = p + r := by unfold tS; rw [← hr]
  obtain ⟨k, Mw, ⟨hA, h3⟩, e⟩ := lpI (fun k (w : Mem) => fX7_look_0 N b k w) (fun j w => LF M w b ∧ w.1 b 27 = nI (p + j)) r (fun k i w hi hw => by
    obtain ⟨hA, h3⟩ := hw
    have hno := fa_first_no (fun i => decide (f (p + i) ≠ 32)) (z - p) i (by omega)
    have he : f (p + i) = 32 := Decidable.not_not.mp (of_decide_eq_false hno)
    refine ⟨sI w b 27 (nI (p + i) + 1), ⟨hA.sI _ (by omega), by rw [sI_s, nI_1]; rfl⟩, ?_⟩
    show fX7_look_0 N b (k + 1) w = fX7_look_0 N b k _
    rw [look_0e, h3, (TM_fr hA hT).1, if_neg (nI_ge (by omega) (by omega)), gd_nI (by omega) (by decide), nI_clamp (by omega), (TM_fr hA hT).2 _ (by omega), if_pos ((nI_32 (hf _ (by omega))).mpr he), nm_eq]) (N := N) (by omega) (s0 := M) ⟨LF.rf M b, e27⟩
  have hTw := TM_fr hA hT
  obtain ⟨M', a1, a2, a3, a4, a5, a6⟩ := lookT_m (N := N) hTw hB' (show p + r ≤ z by omega) h3 hN
  refine ⟨M', ?_, hA.tr a2, by rw [hs]; exact a3, ?_, ?_, ?_⟩
  · refine e.trans ?_
    show fX7_look_0 N b (k + 1) Mw = _
    rw [look_0e, h3, hTw.1]
    by_cases w : p + r < z
    · have hyes := fa_first_yes (fun i => decide (f (p + i) ≠ 32)) (z - p) (by omega)
      rw [← hr] at hyes
      have he : f (p + r) ≠ 32 := of_decide_eq_true hyes
      rw [if_neg (nI_ge w (by omega)), gd_nI (by omega) (by decide), nI_clamp (by omega), hTw.2 _ w, if_neg (fun e => he ((nI_32 (hf _ w)).mp e)), a1]
    · rw [if_pos (nI_le (by omega) (by omega)), a1]
  · unfold tO; rw [hs]; exact a4
  · unfold tE; rw [hs]; exact a5
  · intro h
    rw [hs]
    unfold tO at h
    rw [hs] at h
    by_cases w : p + r < z
    · rw [if_pos w] at h; exact a6 w h
    · rw [if_neg w] at h; cases h
