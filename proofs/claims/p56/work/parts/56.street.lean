/-! ===== a street told ===== -/
variable {N q c b t z n p : Nat} {f : Nat → Nat} {Mc Mm : Mem}
def clC (v : Nat) (O : Nat → Nat → Int32) : Nat → Nat → Int32 := fun j i => if j = 0 then (if i = 9 then 0 else if i = 8 then 0 else if i = 7 then nI v else O 0 i) else if j = 6 then upto (fun _ => 0) (O 6) 144 i else if j = 4 then upto (fun _ => -1) (O 4) 12 i else upto (fun _ => 0) (O j) 12 i
theorem clear_c (M : Mem) (c v : Nat) (hN : 4097 < N) : fX4_clear N M c (nI v) = some (wC M c (clC v (fun j i => M.1 (c + j) i))) := by
  unfold fX4_clear
  rw [nm_eq, nm_eq, nm_eq, fill_I _ _ _ (by decide) hN, bd_some, fill_I _ _ _ (by decide) hN, bd_some, fill_I _ _ _ (by decide) hN, bd_some, fill_I _ _ _ (by decide) hN, bd_some, fill_I _ _ _ (by decide) hN, bd_some, fill_I _ _ _ (by decide) hN, bd_some, fill_I _ _ _ (by decide) hN, bd_some]
  congr 1
  have f0 : ∀ x i, x ≠ c → (sI (sI (sI M c 7 (nI v)) c 8 0) c 9 0).1 x i = M.1 x i := fun x i h => by rw [sI_o (by omega), sI_o (by omega), sI_o (by omega)]
  refine wC_is (fun j hj i => ?_) (fun x i h => ?_) (fun _ _ => rfl)
  · have h8 : j = 0 ∨ j = 1 ∨ j = 2 ∨ j = 3 ∨ j = 4 ∨ j = 5 ∨ j = 6 ∨ j = 7 := by omega
    unfold clC
    rcases h8 with rfl | rfl | rfl | rfl | rfl | rfl | rfl | rfl
    · rw [fI_o (by omega), fI_o (by omega), fI_o (by omega), fI_o (by omega), fI_o (by omega), fI_o (by omega), fI_o (by omega), if_pos rfl]
      show (sI (sI (sI M c 7 (nI v)) c 8 0) c 9 0).1 c i = _
      by_cases h9 : i = 9
      · subst h9; rw [sI_s, if_pos rfl]
      · rw [if_neg h9, sI_o (by omega)]
        by_cases h8 : i = 8
        · subst h8; rw [sI_s, if_pos rfl]
        · rw [if_neg h8, sI_o (by omega)]
          by_cases h7 : i = 7
          · subst h7; rw [sI_s, if_pos rfl]
          · rw [if_neg h7, sI_o (by omega)]; rfl
    · rw [fI_o (by omega), fI_o (by omega), fI_o (by omega), fI_o (by omega), fI_o (by omega), fI_o (by omega), fI_s, if_neg (by decide), if_neg (by decide), if_neg (by decide)]
      unfold upto; rw [f0 _ _ (by omega)]
    · rw [fI_o (by omega), fI_o (by omega), fI_o (by omega), fI_o (by omega), fI_o (by omega), fI_s, if_neg (by decide), if_neg (by decide), if_neg (by decide)]
      unfold upto; rw [fI_o (by omega), f0 _ _ (by omega)]
    · rw [fI_o (by omega), fI_o (by omega), fI_o (by omega), fI_o (by omega), fI_s, if_neg (by decide), if_neg (by decide), if_neg (by decide)]
      unfold upto; rw [fI_o (by omega), fI_o (by omega), f0 _ _ (by omega)]
    · rw [fI_o (by omega), fI_o (by omega), fI_o (by omega), fI_s, if_neg (by decide), if_neg (by decide), if_pos rfl]
      unfold upto; rw [fI_o (by omega), fI_o (by omega), fI_o (by omega), f0 _ _ (by omega)]
    · rw [fI_o (by omega), fI_o (by omega), fI_s, if_neg (by decide), if_neg (by decide), if_neg (by decide)]
      unfold upto; rw [fI_o (by omega), fI_o (by omega), fI_o (by omega), fI_o (by omega), f0 _ _ (by omega)]
    · rw [fI_o (by omega), fI_s, if_neg (by decide), if_pos rfl]
      unfold upto; rw [fI_o (by omega), fI_o (by omega), fI_o (by omega), fI_o (by omega), fI_o (by omega), f0 _ _ (by omega)]
    · rw [fI_s, if_neg (by decide), if_neg (by decide), if_neg (by decide)]
      unfold upto; rw [fI_o (by omega), fI_o (by omega), fI_o (by omega), fI_o (by omega), fI_o (by omega), fI_o (by omega), f0 _ _ (by omega)]
  · rw [fI_o (by omega), fI_o (by omega), fI_o (by omega), fI_o (by omega), fI_o (by omega), fI_o (by omega), fI_o (by omega), f0 _ _ (by omega)]
theorem cl_r {v : Nat} {O : Nat → Nat → Int32} {j i : Nat} (hj : j = 1 ∨ j = 2 ∨ j = 3 ∨ j = 5 ∨ j = 7) (hi : i < 12) : clC v O j i = 0 := by
  unfold clC; rw [if_neg (by omega), if_neg (by omega), if_neg (by omega), upto_in hi]
theorem cl_4 {v : Nat} {O : Nat → Nat → Int32} {i : Nat} (hi : i < 12) : clC v O 4 i = -1 := by
  unfold clC; rw [if_neg (by omega), if_neg (by omega), if_pos rfl, upto_in hi]
theorem cl_6 {v : Nat} {O : Nat → Nat → Int32} {i : Nat} (hi : i < 144) : clC v O 6 i = 0 := by
  unfold clC; rw [if_neg (by omega), if_pos rfl, upto_in hi]
theorem RC_cl {v : Nat} {O : Nat → Nat → Int32} (h1 : 1 ≤ v) (h2 : v ≤ 12) : RC v (clC v O) := by
  refine ⟨⟨h1, h2⟩, rfl, ⟨0, by decide, rfl⟩, fun k hk => ?_, fun r hr => ⟨⟨0, by decide, by rw [cl_r (by omega) (by omega)]; rfl⟩, ⟨0, by decide, by rw [cl_r (by omega) (by omega)]; rfl⟩⟩, fun r hr k hk => ?_, fun r hr k hk => ⟨fun _ => cl_6 (by omega), by rw [cl_6 (by omega), cl_6 (by omega)], 0, by decide, by rw [cl_6 (by omega)]; rfl⟩, fun r hr => ?_⟩
  · rw [show clC v O 0 9 = 0 from rfl, b_0] at hk; cases hk
  · rw [cl_r (by omega) hr, b_0] at hk; cases hk
  · rw [cl_r (by omega) hr, isum_cong (g := fun _ => 0) (fun k hk => cl_6 (by omega))]; rfl
/-- the reference's slot, emptied -/
def EM (M : Mem) (b t : Nat) : Prop := M.1 (b + 19) t = 0 ∧ M.1 (b + 20) t = 0 ∧ (∀ i, i < 12 → M.1 (b + 21 + 1 + t) i = 0 ∧ M.1 (b + 27 + 1 + t) i = 0 ∧ M.1 (b + 33 + 1 + t) i = 0 ∧ M.1 (b + 45 + 1 + t) i = 0 ∧ M.1 (b + 51 + 1 + t) i = 0) ∧ ∀ i, i < 144 → M.1 (b + 39 + 1 + t) i = 0
theorem EM_gf {M M' : Mem} (h : GF M M' b) (hE : EM M b t) : EM M' b t := by
  obtain ⟨h1, h2, h3, h4⟩ := hE
  refine ⟨by rw [h.1 _ _ (by omega), h1], by rw [h.1 _ _ (by omega), h2], fun i hi => ?_, fun i hi => by rw [h.1 _ _ (by omega), h4 i hi]⟩
  rw [h.1 _ _ (by omega), h.1 _ _ (by omega), h.1 _ _ (by omega), h.1 _ _ (by omega), h.1 _ _ (by omega)]
  exact h3 i hi
def rdK (N b : Nat) (T : Int32) (M : Mem) : Option (Int32 × Mem) := gd T 5 (nm (sI M (b + 18) T.toNatClampNeg (M.1 b 32)) (fun M9 => fX7_read_74 N b T N M9))
def rdC (N q c : Nat) (M : Mem) : Option (Int32 × Mem) := bd (fX4_clear N M c (M.1 q 5)) (fun r7 => fX1_readStreet_40 N q c N r7 0)
def rdC1 (N q c : Nat) (M : Mem) : Option (Int32 × Mem) := bd (fX1_passNumber N M q (nI 1) (nI 12)) (fun r => if r.1 = 0 then some (0, r.2) else rdC N q c r.2)
def rdK1 (N b : Nat) (T : Int32) (M : Mem) : Option (Int32 × Mem) := bd (fX7_number N M b (nI 1) (nI 12)) (fun r => if r.1 = 0 then some (0, r.2) else rdK N b T r.2)
theorem rdCe (N : Nat) (M : Mem) (q c : Nat) : fX1_readStreet N M q c = nm (sI M q 4 0) (fun M1 => bd (fX1_advance N M1 q) (fun r2 => bd (fX1_passWord N r2 q 0) (fun r => if r.1 = 0 then some (0, r.2) else rdC1 N q c r.2))) := rfl
def rdT (N b : Nat) (T : Int32) (M : Mem) : Option (Int32 × Mem) := nm (sI M b 27 0) (fun M2 => bd (fX7_look N M2 b) (fun r3 => bd (fX7_word N r3 b 0) (fun r => if r.1 = 0 then some (0, r.2) else rdK1 N b T r.2)))
theorem read16 (N b k : Nat) (T w2 : Int32) (M : Mem) : fX7_read_16 N b T (k + 1) M w2 = if 12 ≤ w2 then rdT N b T M else bd (fX7_empty N M b T w2) (fun r10 => fX7_read_16 N b T k r10 (w2 + 1)) := rfl
/-- from the first token on -/
def OUX (q c b t z : Nat) (f : Nat → Nat) (Mc Mm : Mem) (X Y : Option (Int32 × Mem)) : Prop :=
  (∃ s Mc' Mm', X = some (0, Mc') ∧ Y = some (0, Mm') ∧ KF Mc Mc' q c ∧ HF Mm Mm' b t ∧ Mc'.1 q 3 = nI s ∧ Mm'.1 b 31 = nI s)
  ∨ (∃ n C' Mc' Mm', X = some (1, Mc') ∧ Y = some (1, Mm') ∧ KF Mc Mc' q c ∧ HF Mm Mm' b t ∧ ST c b t n C' Mc' Mm')
theorem OUT.x {X Y : Option (Int32 × Mem)} (h : OUT q c b t z f n p Mc Mm X Y) : OUX q c b t z f Mc Mm X Y := by
  rcases h with h | ⟨p', C', Mc', Mm', x1, x2, x3, x4, x5, x6, x7, x8, x9⟩
  · exact Or.inl h
  · exact Or.inr ⟨n, C', Mc', Mm', x1, x2, x3, x4, x9⟩
theorem OUX.tr {Mc1 Mm1 : Mem} {X Y : Option (Int32 × Mem)} (h1 : KF Mc Mc1 q c) (h2 : HF Mm Mm1 b t) (h : OUX q c b t z f Mc1 Mm1 X Y) : OUX q c b t z f Mc Mm X Y := by
  rcases h with ⟨s, Mc', Mm', a1, a2, a3, a4, a5, a6⟩ | ⟨n, C', Mc', Mm', a1, a2, a3, a4, a5⟩
  · exact Or.inl ⟨s, Mc', Mm', a1, a2, h1.tr a3, h2.tr a4, a5, a6⟩
  · exact Or.inr ⟨n, C', Mc', Mm', a1, a2, h1.tr a3, h2.tr a4, a5⟩
theorem oux_num (hq : q + 1 < c) (ht : t < 5) (hB : TBy z f) (hp : p ≤ z) (hSC : SC q z f p Mc) (hSM : SM b z f p Mm) (hE : EM Mm b t) (hN : 4097 < N) :
    OUX q c b t z f Mc Mm (rdC1 N q c Mc) (rdK1 N b (nI t) Mm) := by
  have hz := hB.1
  unfold rdC1 rdK1
  cases h : nOk z f p 1 12
  · rw [pn_n hSC hB hp (by decide) (by decide) hN h, num_n hSM (by decide) (by decide) h, bd_some, bd_some, if_pos (P0 Mc), if_pos (P0 _)]
    exact Or.inl ⟨tS z f p, Mc, _, rfl, rfl, (CF.rf Mc q).kf c, ((GF.rf Mm b).sI _ (by omega)).hf t, hSC.2.2.1, sI_s⟩
  · obtain ⟨Mc1, a1, a2, a3, a4⟩ := pn_y (N := N) hSC hB hp (by decide) (by decide) hN h
    obtain ⟨Mm1, b1, b2, b3, b4⟩ := num_y (N := N) hSM hB hp (by decide) (by decide) hN h
    obtain ⟨-, h1, h2⟩ := of_decide_eq_true h
    obtain ⟨v, hv⟩ : ∃ v, v = mv z f p := ⟨_, rfl⟩
    rw [← hv] at a4 b4 h1 h2
    have hp1 := tE_le (f := f) hp
    have hE1 := EM_gf b2 hE
    rw [a1, b1, bd_some, bd_some, if_neg (P1 Mc1), if_neg (P1 Mm1)]
    unfold rdC rdK
    rw [a4, b4, clear_c _ _ _ hN, bd_some, gd_nI ht (by decide), nm_eq, nI_clamp (by omega)]
    have hK : KS Mc1 (wC Mc1 c (clC v (fun j i => Mc1.1 (c + j) i))) c := ⟨fun x i h => wC_o (by omega) i, rfl⟩
    have hH : HS Mm1 (sI Mm1 (b + 18) t (nI v)) b t := ⟨fun x i h => sI_o (by unfold SX at h; omega), rfl⟩
    refine OUX.tr (a2.kf c) (b2.hf t) (OUX.tr hK.kf hH.hf (OUT.x (n := v) (p := tE z f p) ?_))
    refine out_loop hq ht hB hN (z - tE z f p) (tE z f p) 0 N N _ _ (clC v (fun j i => Mc1.1 (c + j) i)) (Nat.le_refl _) (by omega) (by omega) (Nat.zero_le _) hp1 (SC_ks hq hK a3) (SM_hs ht hH b3) ⟨RC_cl h1 h2, wC_CV _ _ _, ?_, ?_⟩
    · obtain ⟨e1, e2, e3, e4⟩ := hE1
      refine ⟨sI_s, by rw [sI_o (by omega), e1]; rfl, by rw [sI_o (by omega), e2]; rfl, fun r hr => ?_, fun r hr => ?_, fun k hk => ?_⟩
      · rw [sI_o (by omega), sI_o (by omega), cl_r (by omega) (by omega), cl_r (by omega) (by omega)]
        exact ⟨(e3 r (by omega)).1, (e3 r (by omega)).2.1⟩
      · rw [sI_o (by omega), cl_r (by omega) (by omega)]
        exact (e3 r (by omega)).2.2.1
      · rw [sI_o (by omega), cl_6 (by omega)]; exact e4 k hk
    · intro r hr
      refine Or.inl ⟨cl_4 (by omega), ?_⟩
      rw [sI_o (by omega)]
      exact (hE1.2.2.1 r (by omega)).2.2.2.1
theorem oux_word (hq : q + 1 < c) (ht : t < 5) (hB : TBy z f) (hp : p ≤ z) (hSC : SC q z f p Mc) (hSM : SM b z f p Mm) (hE : EM Mm b t) (hN : 4097 < N) :
    OUX q c b t z f Mc Mm (bd (fX1_passWord N Mc q 0) (fun r => if r.1 = 0 then some (0, r.2) else rdC1 N q c r.2)) (bd (fX7_word N Mm b 0) (fun r => if r.1 = 0 then some (0, r.2) else rdK1 N b (nI t) r.2)) := by
  unfold fX7_word
  cases h : isW z f p 0
  · rw [pw_n hSC hB hp (by decide) hN h, isWord_m hSM hB hp (by decide) hN, h, bd_some, bd_some, b1_if, if_pos (P0 Mc), if_neg (show ¬ (false = true) by decide)]
    unfold fX7_wrong
    rw [nm_eq, bd_some, gc_of (Or.inl rfl), bd_some, if_pos (P0 _), hSM.2.2.1]
    exact Or.inl ⟨tS z f p, Mc, _, rfl, rfl, (CF.rf Mc q).kf c, ((GF.rf Mm b).sI _ (by omega)).hf t, hSC.2.2.1, sI_s⟩
  · obtain ⟨Mc', a1, a2, a3⟩ := pw_y (N := N) hSC hB hp (w := 0) (by decide) hN h
    obtain ⟨Mm', b1, b2, b3⟩ := next_m (N := N) hSM hB hp hN
    rw [a1, isWord_m hSM hB hp (by decide) hN, h, bd_some, bd_some, b1_if, if_pos rfl, b1, bd_some, bd_some, if_neg (P1 Mc'), if_neg (P1 Mm')]
    exact OUX.tr (a2.cf.kf c) (b2.gf.hf t) (oux_num hq ht hB (tE_le hp) a3 b3 (EM_gf b2.gf hE) hN)
theorem empties {M : Mem} (ht : t < 5) (e1 : M.1 (b + 19) t = 0) (e2 : M.1 (b + 20) t = 0) (hN : 4097 < N) : ∃ M', fX7_read_16 N b (nI t) N M 0 = rdT N b (nI t) M' ∧ HS M M' b t ∧ EM M' b t := by
  obtain ⟨k, ⟨Mw, w⟩, ⟨ew, hH, h1, h2, h3, h4⟩, e⟩ := lpI (fun k (s : Mem × Int32) => fX7_read_16 N b (nI t) k s.1 s.2) (fun k s => s.2 = nI k ∧ HS M s.1 b t ∧ s.1.1 (b + 19) t = 0 ∧ s.1.1 (b + 20) t = 0 ∧ (∀ i, i < k → s.1.1 (b + 21 + 1 + t) i = 0 ∧ s.1.1 (b + 27 + 1 + t) i = 0 ∧ s.1.1 (b + 33 + 1 + t) i = 0 ∧ s.1.1 (b + 45 + 1 + t) i = 0 ∧ s.1.1 (b + 51 + 1 + t) i = 0) ∧ ∀ i, i < 144 → i / 12 < k → s.1.1 (b + 39 + 1 + t) i = 0) 12 (fun j k s hk hs => by
    obtain ⟨Mw, w⟩ := s
    obtain ⟨ew, hH, h1, h2, h3, h4⟩ := hs
    have ew : w = nI k := ew
    subst ew
    have h1 : Mw.1 (b + 19) t = 0 := h1
    have h2 : Mw.1 (b + 20) t = 0 := h2
    refine ⟨(emM Mw b t k, nI (k + 1)), ⟨rfl, hH.tr ⟨fun x i h => em_o (by unfold SX at h; omega), rfl⟩, ?_, ?_, fun i hi => ?_, fun i hi hi2 => ?_⟩, ?_⟩
    · show (emM Mw b t k).1 (b + 19) t = 0
      rw [em_o (by omega), h1]
    · show (emM Mw b t k).1 (b + 20) t = 0
      rw [em_o (by omega), h2]
    · show (emM Mw b t k).1 _ i = 0 ∧ (emM Mw b t k).1 _ i = 0 ∧ (emM Mw b t k).1 _ i = 0 ∧ (emM Mw b t k).1 _ i = 0 ∧ (emM Mw b t k).1 _ i = 0
      rw [em_a (by omega) ht, em_a (by omega) ht, em_a (by omega) ht, em_a (by omega) ht, em_a (by omega) ht]
      by_cases w : i = k
      · rw [if_pos w, if_pos w, if_pos w, if_pos w, if_pos w]; exact ⟨rfl, rfl, rfl, rfl, rfl⟩
      · rw [if_neg w, if_neg w, if_neg w, if_neg w, if_neg w]; exact h3 i (by omega)
    · show (emM Mw b t k).1 _ i = 0
      rw [em_6]; unfold emF
      by_cases w : (i / 12 = k ∧ i % 12 < 12) ∨ (i % 12 = k ∧ i / 12 < 12)
      · rw [if_pos w]
      · rw [if_neg w]; exact h4 i hi (by omega)
    · show fX7_read_16 N b (nI t) (j + 1) Mw (nI k) = fX7_read_16 N b (nI t) j (emM Mw b t k) (nI (k + 1))
      rw [read16, if_neg (show ¬ (12 : Int32) ≤ nI k from nI_ge (b := 12) hk (by decide)), empty_m Mw ht hk hN, bd_some, nI_1]) (N := N) (by omega) (s0 := (M, 0)) ⟨rfl, HS.rf M b t, e1, e2, fun i hi => absurd hi (Nat.not_lt_zero i), fun i _ hi => absurd hi (Nat.not_lt_zero _)⟩
  have ew : w = nI 12 := ew
  subst ew
  refine ⟨Mw, e.trans ?_, hH, h1, h2, h3, fun i hi => h4 i hi (by omega)⟩
  show fX7_read_16 N b (nI t) (k + 1) Mw (nI 12) = _
  rw [read16, if_pos (by decide)]
theorem oux_read (hq : q + 1 < c) (ht : t < 5) (hB : TBy z f) (hTC : TC q z f Mc) (hTM : TM b z f Mm) (hN : 4097 < N) :
    OUX q c b t z f Mc Mm (fX1_readStreet N Mc q c) (fX7_read N Mm b (nI t)) := by
  unfold fX7_read
  rw [rdCe, gd_nI ht (by decide), nm_eq, nm_eq, nm_eq, nI_clamp (by omega)]
  have hH0 : HS Mm (sI (sI Mm (b + 19) t 0) (b + 20) t 0) b t := ⟨fun x i h => by rw [sI_o (by unfold SX at h; omega), sI_o (by unfold SX at h; omega)], rfl⟩
  obtain ⟨M', a1, a2, a3⟩ := empties (N := N) (b := b) (t := t) (M := sI (sI Mm (b + 19) t 0) (b + 20) t 0) ht (by rw [sI_o (by omega), sI_s]) sI_s hN
  have hH := hH0.tr a2
  have hC1 : CF Mc (sI Mc q 4 0) q := (CF.rf Mc q).sI _ (by omega)
  have hG1 : GF M' (sI M' b 27 0) b := (GF.rf M' b).sI _ (by omega)
  have hTM1 : TM b z f (sI M' b 27 0) := TM_gf hG1 ⟨by rw [hH.1 _ _ (nSX ht (by omega))]; exact hTM.1, fun i hi => by rw [hH.1 _ _ (nSX ht (by omega))]; exact hTM.2 i hi⟩
  obtain ⟨Mc1, b1, b2, b3, b4, b5⟩ := adv_s (N := N) (p := 0) (TC_cf hC1 hTC) hB (Nat.zero_le _) sI_s hN
  obtain ⟨Mm1, c1, c2, c3, c4, c5, c6⟩ := look_s (N := N) (p := 0) hTM1 hB (Nat.zero_le _) sI_s hN
  rw [b1, bd_some, a1]
  unfold rdT
  rw [nm_eq, c1, bd_some]
  refine OUX.tr ((hC1.tr b2.cf).kf c) (hH.hf.tr ((hG1.tr c2.gf).hf t)) ?_
  exact oux_word hq ht hB (Nat.zero_le z) ⟨TC_fr b2 (TC_cf hC1 hTC), b4, b3, b5⟩ ⟨TM_fr c2 hTM1, c4, c3, c5, c6⟩ (EM_gf (hG1.tr c2.gf) a3) hN
/-! the call -/
def CH (a b k x i : Nat) : Prop := x = a + 2 ∨ x = a + 3 ∨ EX a b k x i ∨ (x = a + 4 ∧ i = 3) ∨ (x = b ∧ (i = 8 ∨ i = 10 ∨ 27 ≤ i)) ∨ x = b + 16 ∨ x = a + 102 ∨ x = b + 17
theorem TWr_k {M M' : Mem} {a b k : Nat} (hab : a = 0 ∧ b = 119) (hT : TWr M (a + 4) b) (hk : M.1 (a + 4) 3 = nI k) (hk4 : k < 4) (h : ∀ x i, ¬ CH a b k x i → M'.1 x i = M.1 x i) :
    (∀ t, t < k → STr M' (a + 4 + 1 + 11 + 8 * t) b t) ∧ (∀ d, d < 6 → M'.1 (a + 4 + 2) d = M'.1 (b + 57) d ∧ ∃ j, j ≤ 20 ∧ M'.1 (a + 4 + 2) d = nI j) ∧ M'.1 (a + 4) 4 = M'.1 b 21 ∧ HNr M' (a + 4 + 3) b := by
  obtain ⟨⟨k', hk', e1, e2, hs⟩, hd, e3, hh⟩ := hT
  have ek : k' = k := (nI_k (by omega) (by omega)).mp (e1.symm.trans hk)
  subst ek
  refine ⟨fun t ht => ?_, fun d hd2 => ?_, ?_, ?_⟩
  · obtain ⟨n, C, hC, hV, hM, hW⟩ := hs t ht
    exact ⟨n, C, hC, CV_fr (fun j hj i => h _ _ (by unfold CH EX; omega)) hV, MV_fr2 (fun x i hx => h _ _ (by unfold CH EX; omega)) hM, WV_fr2 (fun x i hx => h _ _ (by unfold CH EX; omega)) hW⟩
  · rw [h _ _ (by unfold CH EX; omega), h _ _ (by unfold CH EX; omega)]; exact hd d hd2
  · rw [h _ _ (by unfold CH EX; omega), h _ _ (by unfold CH EX; omega)]; exact e3
  · rcases hh with ⟨e1, e2⟩ | ⟨s, n, C, x, e1, hs, e2, e3, hC, hV, hM, hx, e4, e5, e6, e7⟩
    · exact Or.inl ⟨by rw [h _ _ (by unfold CH EX; omega), e1], by rw [h _ _ (by unfold CH EX; omega), e2]⟩
    · refine Or.inr ⟨s, n, C, x, by rw [h _ _ (by unfold CH EX; omega), e1], hs, by rw [h _ _ (by unfold CH EX; omega), e2], by rw [h _ _ (by unfold CH EX; omega), e3], hC, CV_fr (fun j hj i => h _ _ (by unfold CH EX; omega)) hV, MV_fr2 (fun x i hx => h _ _ (by unfold CH EX; omega)) hM, hx, ?_, ?_, ?_, ?_⟩
      · rw [h _ _ (by unfold CH EX; omega), e4]
      · rw [h _ _ (by unfold CH EX; omega), e5]
      · rw [h _ _ (by unfold CH EX; omega), h _ _ (by unfold CH EX; omega), e6]
      · rw [h _ _ (by unfold CH EX; omega), h _ _ (by unfold CH EX; omega), e7]
theorem Inv_k {kp : Int32} {M M' : Mem} {a b k : Nat} (hI : Inv kp a b M) (h : ∀ x i, ¬ CH a b k x i → M'.1 x i = M.1 x i) (hk4 : k < 4) (hJ : ∀ x i, JS a b x → M'.2 x i = M.2 x i) (hT : TPr M' (a + 2) b) (hR : RFr M' a b) (hW : TWr M' (a + 4) b) : Inv kp a b M' := by
  obtain ⟨⟨ha, hb⟩, hs, -, -, -, hkp⟩ := hI
  exact ⟨⟨ha, hb⟩, fun s hs2 => SHr_fr (fun i => h _ _ (by unfold CH EX; omega)) (fun i => hJ _ _ (by unfold JS; omega)) (fun j hj => h _ _ (by unfold CH EX; omega)) (fun i => hJ _ _ (by unfold JS; omega)) (hs s hs2), hT, hR, hW, KPr_fr (h _ _ (by unfold CH EX; omega)) (h _ _ (by unfold CH EX; omega)) (fun x i p q => h _ _ (by unfold CH EX; omega)) (fun x i p => h _ _ (by unfold CH EX; omega)) hkp⟩
