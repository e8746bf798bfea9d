theorem op_street {kp : Int32} {a b N : Nat} {M : Mem} (hI : Inv kp a b M) (hN : 4097 < N) : Op kp a b M (fX6_street N M a) (fun M1 => fX7_street N M1 b) := by
  have hab := hI.1
  obtain ⟨z, hz, t1, t2, t3⟩ := hI.2.2.1
  have hTW := hI.2.2.2.2.1
  obtain ⟨⟨k, hk, e1, e2, hst⟩, -⟩ := hI.2.2.2.2.1
  have hrf := hI.2.2.2.1
  obtain ⟨f, hf⟩ : ∃ f : Nat → Nat, f = fun i => (M.1 (b + 16) i).toNatClampNeg := ⟨_, rfl⟩
  have hfb : ∀ i, i < z → M.1 (b + 16) i = nI (f i) ∧ f i < 256 := fun i hi => by
    obtain ⟨-, y, hy, ey⟩ := t3 i hi
    rw [hf]
    show M.1 (b + 16) i = nI (M.1 (b + 16) i).toNatClampNeg ∧ (M.1 (b + 16) i).toNatClampNeg < 256
    rw [ey, nI_clamp (by omega)]; exact ⟨rfl, hy⟩
  have hB : TBy z f := ⟨hz, fun i hi => (hfb i hi).2⟩
  have hTC : TC (a + 2) z f M := ⟨t1, fun i hi => by rw [(t3 i hi).1]; exact (hfb i hi).1⟩
  by_cases k4 : k = 4
  · refine Op.ref hI (w := 6) (by decide) (by decide) (-6) ?_ ?_
    · unfold fX6_street fX5_placeForNext
      rw [e1, k4, if_neg (by decide), if_pos (by decide), bd_some, onO_none, rfC6]; rfl
    · show fX7_street N _ b = _
      unfold fX7_street
      rw [rC_o (by omega), e2, k4, if_pos (show nI 4 = (4 : Int32) from rfl), rfM6]; rfl
  have hk4 : k < 4 := by omega
  have H : ∀ Mm : Mem, (∀ x i, b ≤ x → Mm.1 x i = M.1 x i) → OUX (a + 2) (a + 4 + 1 + 11 + 8 * k) b k z f M Mm (fX1_readStreet N M (a + 2) (a + 4 + 1 + 11 + 8 * k)) (fX7_read N Mm b (nI k)) := fun Mm hm =>
    oux_read (by omega) (by omega) hB hTC ⟨by rw [hm _ _ (Nat.le_refl b)]; exact t2, fun i hi => by rw [hm _ _ (by omega)]; exact (hfb i hi).1⟩ hN
  have hpl : fX5_placeForNext N M (a + 4) = some (some (a + 4 + 1 + 11 + 8 * k)) := by
    unfold fX5_placeForNext
    rw [e1, if_neg (nI_pos (by omega)), if_neg (show ¬ (4 : Int32) ≤ nI k from nI_ge (b := 4) hk4 (by decide)), gd_nI (by omega) (by decide), nI_clamp (by omega)]
  have hkd := kd_street (t := k) hab.1 hk4
  have hn4 : ¬ nI k = (4 : Int32) := fun e => k4 ((nI_k (d := 4) (by omega) (by decide)).mp e)
  rcases H M (fun _ _ _ => rfl) with ⟨s, Mc', -, x1, -, x3, -, x5, -⟩ | ⟨n0, C0, Mc', -, x1, -, x3, -, -⟩
  · have f1 : ∀ x i, x ≠ a + 102 → (x ≠ a + 2 ∨ i < 1 ∨ 5 < i) → (x < a + 4 + 1 + 11 + 8 * k ∨ a + 4 + 1 + 11 + 8 * k + 7 < x) → (rC a (sI Mc' (a + 2) 1 0) 2).1 x i = M.1 x i := fun x i h1 h2 h3 => by
      rw [rC_o h1, sI_o (by omega), x3.1 _ _ (by omega) h3]
    have hu : Up b M (rC a (sI Mc' (a + 2) 1 0) 2) := fun x i h => ⟨f1 _ _ (by omega) (by omega) (by omega), by show Mc'.2 x i = _; rw [x3.2]⟩
    rcases H (rC a (sI Mc' (a + 2) 1 0) 2) (fun x i h => (hu x i h).1) with ⟨s', Mc2, Mm', y1, y2, -, y4, y5, y6⟩ | ⟨n1, C1, Mc2, Mm', y1, -⟩
    · have ec : Mc' = Mc2 := by
        rw [x1] at y1
        exact (Prod.mk.inj (Option.some.inj y1)).2
      subst ec
      have es : nI s' = nI s := y5.symm.trans x5
      have f2 : ∀ x i, x ≠ b + 17 → (x ≠ b ∨ (i ≠ 8 ∧ i < 27)) → ¬ SX b k x i → (rM b (sI Mm' b 8 0) 2).1 x i = (rC a (sI Mc' (a + 2) 1 0) 2).1 x i := fun x i h1 h2 h3 => by
        rw [rM_o h1, sI_o (by omega), y4.1 _ _ (by omega) h3]
      have nS : ∀ {x i : Nat}, x < b + 18 ∨ b + 56 < x → ¬ SX b k x i := nSX (by omega)
      refine ⟨-20 - nI s, _, rM b (sI Mm' b 8 0) 2, ?_, hu, ?_, ?_⟩
      · unfold fX6_street
        rw [hpl, bd_some, onO_some, gc_of hkd, x1, bd_some, nm_eq]
        unfold fX1_empty
        rw [nm_eq, bd_some, if_pos (P0 Mc'), rfC2, bd_some]
        show some ((-20 : Int32) - Mc'.1 (a + 2) 3, _) = _
        rw [x5]
      · show fX7_street N _ b = _
        unfold fX7_street
        rw [(hu b 10 (Nat.le_refl b)).1, e2, if_neg hn4, y2, bd_some, nm_eq, if_pos (P0 Mm'), rfM2, bd_some]
        show some ((-20 : Int32) - (rM b (sI Mm' b 8 0) 2).1 b 31, _) = _
        rw [rM_o (by omega), sI_o (by omega), y6, es]
      · have ff : ∀ x i, ¬ CH a b k x i → (rM b (sI Mm' b 8 0) 2).1 x i = M.1 x i := fun x i h => by
          unfold CH EX at h
          rw [f2 _ _ (by omega) (by omega) (by unfold SX; omega), f1 _ _ (by omega) (by omega) (by omega)]
        obtain ⟨g1, g2, g3, g4⟩ := TWr_k hab hTW e1 hk4 ff
        refine Inv_k hI ff hk4 (fun x i h => ?_) ⟨0, by decide, ?_, ?_, fun i h => absurd h (Nat.not_lt_zero i)⟩ (fun i hi => ?_) ⟨⟨k, hk, ?_, ?_, g1⟩, g2, g3, g4⟩
        · show Mm'.2 x i = _
          rw [y4.2 _ _ (by unfold JS at h; omega)]
          show Mc'.2 x i = _
          rw [x3.2]
        · rw [f2 _ _ (by omega) (by omega) (nS (by omega)), rC_o (by omega), sI_s]; rfl
        · rw [rM_o (by omega), sI_s]; rfl
        · rw [f2 _ _ (by omega) (by omega) (nS (by omega))]
          by_cases q : i = 0
          · subst q
            show (sI (sI Mc' (a + 2) 1 0) (a + 102) 0 ((sI Mc' (a + 2) 1 0).1 (a + 102) 0 + 1)).1 (a + 102) 0 = (sI (sI Mm' b 8 0) (b + 17) 2 ((sI Mm' b 8 0).1 (b + 17) 2 + 1)).1 (b + 17) 2
            rw [sI_s, sI_s, sI_o (by omega), sI_o (by omega), x3.1 _ _ (by omega) (by omega), y4.1 _ _ (by omega) (nS (by omega)), (hu (b + 17) 2 (by omega)).1]
            have := hrf 0 (by omega)
            rw [this]
          · show (sI (sI Mc' (a + 2) 1 0) (a + 102) 0 _).1 (a + 102) i = (sI (sI Mm' b 8 0) (b + 17) 2 _).1 (b + 17) (i + 2)
            rw [sI_o (by omega), sI_o (by omega), sI_o (by omega), sI_o (by omega), x3.1 _ _ (by omega) (by omega), y4.1 _ _ (by omega) (nS (by omega)), (hu (b + 17) (i + 2) (by omega)).1]
            exact hrf i hi
        · rw [f2 _ _ (by omega) (by omega) (nS (by omega)), f1 _ _ (by omega) (by omega) (by omega), e1]
        · rw [f2 _ _ (by omega) (by omega) (nS (by omega)), f1 _ _ (by omega) (by omega) (by omega), e2]
    · rw [x1] at y1
      exact absurd (Prod.mk.inj (Option.some.inj y1)).1 (by decide)
  · obtain ⟨M1, hM1⟩ : ∃ M1, M1 = sI (sI Mc' (a + 2) 1 0) (a + 4) 3 (nI (k + 1)) := ⟨_, rfl⟩
    have f1 : ∀ x i, (x ≠ a + 4 ∨ i ≠ 3) → (x ≠ a + 2 ∨ i < 1 ∨ 5 < i) → (x < a + 4 + 1 + 11 + 8 * k ∨ a + 4 + 1 + 11 + 8 * k + 7 < x) → M1.1 x i = M.1 x i := fun x i h1 h2 h3 => by
      rw [hM1, sI_o (by omega), sI_o (by omega), x3.1 _ _ (by omega) h3]
    have hu : Up b M M1 := fun x i h => ⟨f1 _ _ (by omega) (by omega) (by omega), by rw [hM1]; show Mc'.2 x i = _; rw [x3.2]⟩
    rcases H M1 (fun x i h => (hu x i h).1) with ⟨s', Mc2, Mm', y1, -⟩ | ⟨n1, C1, Mc2, Mm', y1, y2, -, y4, hC, hV, hM, hW⟩
    · rw [x1] at y1
      exact absurd (Prod.mk.inj (Option.some.inj y1)).1 (by decide)
    · have ec : Mc' = Mc2 := by
        rw [x1] at y1
        exact (Prod.mk.inj (Option.some.inj y1)).2
      subst ec
      have nS : ∀ {x i : Nat}, x < b + 18 ∨ b + 56 < x → ¬ SX b k x i := nSX (by omega)
      have f2 : ∀ x i, (x ≠ b ∨ (i ≠ 8 ∧ i ≠ 10 ∧ i < 27)) → ¬ SX b k x i → (sI (sI Mm' b 8 0) b 10 (nI (k + 1))).1 x i = M1.1 x i := fun x i h2 h3 => by
        rw [sI_o (by omega), sI_o (by omega), y4.1 _ _ (by omega) h3]
      have eb : (sI Mm' b 8 0).1 b 10 = nI k := by
        rw [sI_o (by omega), y4.1 _ _ (by omega) (nS (by omega)), (hu b 10 (Nat.le_refl b)).1, e2]
      refine ⟨nI k, M1, sI (sI Mm' b 8 0) b 10 (nI (k + 1)), ?_, hu, ?_, ?_⟩
      · unfold fX6_street
        rw [hpl, bd_some, onO_some, gc_of hkd, x1, bd_some, nm_eq]
        unfold fX1_empty
        rw [nm_eq, bd_some, if_neg (P1 Mc'), nm_eq]
        have e4 : (sI Mc' (a + 2) 1 0).1 (a + 4) 3 = nI k := by rw [sI_o (by omega), x3.1 _ _ (by omega) (by omega), e1]
        show some ((sI (sI Mc' (a + 2) 1 0) (a + 4) 3 ((sI Mc' (a + 2) 1 0).1 (a + 4) 3 + 1)).1 (a + 4) 3 - 1, sI (sI Mc' (a + 2) 1 0) (a + 4) 3 ((sI Mc' (a + 2) 1 0).1 (a + 4) 3 + 1)) = _
        rw [sI_s, e4, nI_1, nI_pred, hM1]
      · show fX7_street N _ b = _
        unfold fX7_street
        rw [(hu b 10 (Nat.le_refl b)).1, e2, if_neg hn4, y2, bd_some, nm_eq, if_neg (P1 Mm'), nm_eq]
        show some ((sI Mm' b 8 0).1 b 10, sI (sI Mm' b 8 0) b 10 ((sI Mm' b 8 0).1 b 10 + 1)) = _
        rw [eb, nI_1]
      · have ff : ∀ x i, ¬ CH a b k x i → (sI (sI Mm' b 8 0) b 10 (nI (k + 1))).1 x i = M.1 x i := fun x i h => by
          unfold CH EX at h
          rw [f2 _ _ (by omega) (by unfold SX; omega), f1 _ _ (by omega) (by omega) (by omega)]
        obtain ⟨g1, g2, g3, g4⟩ := TWr_k hab hTW e1 hk4 ff
        refine Inv_k hI ff hk4 (fun x i h => ?_) ⟨0, by decide, ?_, ?_, fun i h => absurd h (Nat.not_lt_zero i)⟩ (fun i hi => ?_) ⟨⟨k + 1, by omega, ?_, sI_s, fun t ht => ?_⟩, g2, g3, g4⟩
        · show Mm'.2 x i = _
          rw [y4.2 _ _ (by unfold JS at h; omega), hM1]
          show Mc'.2 x i = _
          rw [x3.2]
        · rw [f2 _ _ (by omega) (nS (by omega)), hM1, sI_o (by omega), sI_s]; rfl
        · rw [sI_o (by omega), sI_s]; rfl
        · rw [f2 _ _ (by omega) (nS (by omega)), f1 _ _ (by omega) (by omega) (by omega), f2 _ _ (by omega) (nS (by omega)), (hu (b + 17) (i + 2) (by omega)).1]
          exact hrf i hi
        · rw [f2 _ _ (by omega) (nS (by omega)), hM1, sI_s]
        · by_cases q : t < k
          · exact g1 t q
          · have ek : t = k := by omega
            subst ek
            refine ⟨n1, C1, hC, CV_fr (fun j hj i => ?_) hV, MV_fr (by omega) (fun x i p q => ?_) hM, WV_fr (by omega) (fun x i p q => ?_) hW⟩
            · rw [f2 _ _ (by omega) (nS (by omega)), hM1, sI_o (by omega), sI_o (by omega)]
            · rw [sI_o (by omega), sI_o (by omega)]
            · rw [sI_o (by omega), sI_o (by omega)]
