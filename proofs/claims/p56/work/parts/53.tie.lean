/-! one, tie -/
variable {N q c b t z n p : Nat} {f : Nat → Nat} {Mc Mm : Mem}
theorem st_numv (hB : TBy z f) (hp : p ≤ z) (hSC : SC q z f p Mc) (hSM : SM b z f p Mm) (hN : 4097 < N) {lo hi : Nat} (hlo : lo ≤ 99) (hhi : hi ≤ 99) (K K' : Mem → Option (Int32 × Mem))
    (hK : ∀ Mc' Mm', tO z f p = 2 → mv z f p ≤ hi → CF Mc Mc' q → GF Mm Mm' b → SC q z f (tE z f p) Mc' → SM b z f (tE z f p) Mm' → Mc'.1 q 5 = nI (mv z f p) → Mm'.1 b 32 = nI (mv z f p) → OUT q c b t z f n (tE z f p) Mc' Mm' (K Mc') (K' Mm')) :
    OUT q c b t z f n p Mc Mm (bd (fX1_passNumber N Mc q (nI lo) (nI hi)) (fun r => if r.1 = 0 then some (0, r.2) else K r.2)) (bd (fX7_number N Mm b (nI lo) (nI hi)) (fun r => if r.1 = 0 then some (0, r.2) else K' r.2)) := by
  cases h : nOk z f p lo hi
  · rw [pn_n hSC hB hp hlo hhi hN h, num_n hSM hlo hhi h, bd_some, bd_some, if_pos rfl, if_pos rfl]
    exact Or.inl ⟨tS z f p, Mc, _, rfl, rfl, (CF.rf Mc q).kf c, ((GF.rf Mm b).sI _ (by omega)).hf t, hSC.2.2.1, sI_s⟩
  · obtain ⟨Mc', a1, a2, a3, a4⟩ := pn_y (N := N) hSC hB hp hlo hhi hN h
    obtain ⟨Mm', b1, b2, b3, b4⟩ := num_y (N := N) hSM hB hp hlo hhi hN h
    obtain ⟨h0, -, h2⟩ := of_decide_eq_true h
    rw [a1, b1, bd_some, bd_some, if_neg (show ¬ (1 : Int32) = 0 by decide), if_neg (show ¬ (1 : Int32) = 0 by decide)]
    exact OUT.tr (a2.kf c) (b2.hf t) (pE z f p) (hK Mc' Mm' h0 h2 a2 b2 a3 b3 a4 b4)
/-! one -/
def onC4 (N q c : Nat) (x3 x8 : Int32) (M : Mem) : Option (Int32 × Mem) := bd (fX4_value N M c x3 x8 (M.1 q 5)) (fun r13 => some (1, r13))
def onC3 (N q c : Nat) (x3 x8 : Int32) (M : Mem) : Option (Int32 × Mem) := bd (fX1_passNumber N M q (nI 0) (nI 99)) (fun r => if r.1 = 0 then some (0, r.2) else onC4 N q c x3 x8 r.2)
def onC2 (N q c : Nat) (x3 : Int32) (M : Mem) : Option (Int32 × Mem) := nm (M.1 q 5) (fun x8 => bd (fX1_passWord N M q 2) (fun r => if r.1 = 0 then some (0, r.2) else onC3 N q c x3 x8 r.2))
def onC1 (N q c : Nat) (x3 : Int32) (M : Mem) : Option (Int32 × Mem) := bd (fX1_passNumber N M q (nI 0) (nI 99)) (fun r => if r.1 = 0 then some (0, r.2) else onC2 N q c x3 r.2)
def onC0 (N q c : Nat) (M : Mem) : Option (Int32 × Mem) := nm (M.1 q 5) (fun x3 => bd (fX1_passWord N M q 1) (fun r => if r.1 = 0 then some (0, r.2) else onC1 N q c x3 r.2))
theorem onC (N : Nat) (M : Mem) (q c : Nat) : fX1_readOne N M q c = bd (fX1_passNumber N M q (nI 0) (M.1 c 7 - 1)) (fun r => if r.1 = 0 then some (0, r.2) else onC0 N q c r.2) := rfl
def onM4 (b : Nat) (T x3 : Int32) (M : Mem) : Option (Int32 × Mem) := nm (sI M (b + 27 + 1 + T.toNatClampNeg) x3.toNatClampNeg (M.1 b 32)) (fun M57 => some (1, M57))
def onM3 (N b : Nat) (T x3 : Int32) (M : Mem) : Option (Int32 × Mem) := bd (fX7_number N M b (nI 0) (nI 99)) (fun r => if r.1 = 0 then some (0, r.2) else onM4 b T x3 r.2)
def onM2 (N b : Nat) (T x3 : Int32) (M : Mem) : Option (Int32 × Mem) := gd x3 12 (nm (sI M (b + 21 + 1 + T.toNatClampNeg) x3.toNatClampNeg (M.1 b 32)) (fun M52 => bd (fX7_word N M52 b 2) (fun r => if r.1 = 0 then some (0, r.2) else onM3 N b T x3 r.2)))
def onM1 (N b : Nat) (T x3 : Int32) (M : Mem) : Option (Int32 × Mem) := bd (fX7_number N M b (nI 0) (nI 99)) (fun r => if r.1 = 0 then some (0, r.2) else onM2 N b T x3 r.2)
def onM0 (N b : Nat) (T : Int32) (M : Mem) : Option (Int32 × Mem) := nm (M.1 b 32) (fun x3 => bd (fX7_word N M b 1) (fun r => if r.1 = 0 then some (0, r.2) else onM1 N b T x3 r.2))
def onM (N b : Nat) (T x2 : Int32) (M : Mem) : Option (Int32 × Mem) := bd (fX7_number N M b (nI 0) (x2 - 1)) (fun r => if r.1 = 0 then some (0, r.2) else onM0 N b T r.2)
theorem nI_pd {n : Nat} (h : 1 ≤ n) : nI n - 1 = nI (n - 1) := by
  have := nI_pred (n - 1)
  rwa [Nat.sub_add_cancel h] at this
theorem out_one (hq : q + 1 < c) (ht : t < 5) (hB : TBy z f) (hp : p ≤ z) (hSC : SC q z f p Mc) (hSM : SM b z f p Mm) {C : Nat → Nat → Int32} (hS : ST c b t n C Mc Mm) (hN : 4097 < N) :
    OUT q c b t z f n p Mc Mm (fX1_readOne N Mc q c) (onM N b (nI t) (nI n) Mm) := by
  have hn1 := hS.1.1.1
  have hn2 := hS.1.1.2
  rw [onC, CV0 hS.2.1, hS.1.2.1, nI_pd hn1]
  unfold onM
  rw [nI_pd hn1]
  refine st_num hB hp hSC hSM hN (lo := 0) (hi := n - 1) (by decide) (by omega) (onC0 N q c) (onM0 N b (nI t)) (fun Mc1 Mm1 v _ hv hF1 hG1 hSC1 hSM1 e5 e32 => ?_)
  have hS1 := ST_fr hq ht hF1 hG1 hS
  have hp1 := tE_le (f := f) hp
  unfold onC0 onM0
  rw [e5, e32, nm_eq, nm_eq]
  refine st_word hB hp1 hSC1 hSM1 hN (w := 1) (by decide) (onC1 N q c (nI v)) (onM1 N b (nI t) (nI v)) (fun Mc2 Mm2 hF2 hG2 hSC2 hSM2 => ?_)
  have hS2 := ST_fr hq ht hF2 hG2 hS1
  have hp2 := tE_le (f := f) hp1
  unfold onC1 onM1
  refine st_num hB hp2 hSC2 hSM2 hN (lo := 0) (hi := 99) (by decide) (by omega) (onC2 N q c (nI v)) (onM2 N b (nI t) (nI v)) (fun Mc3 Mm3 v1 _ hv1 hF3 hG3 hSC3 hSM3 e5 e32 => ?_)
  have hS3 := ST_fr hq ht hF3 hG3 hS2
  have hp3 := tE_le (f := f) hp2
  unfold onC2 onM2
  rw [e5, e32, nm_eq, gd_nI (by omega) (by decide), nm_eq, nI_clamp (by omega), nI_clamp (by omega)]
  have hHS : HS Mm3 (sI Mm3 (b + 21 + 1 + t) v (nI v1)) b t := ⟨fun x i h => sI_o (by unfold SX at h; omega), rfl⟩
  have hSM3' := SM_hs ht hHS hSM3
  refine OUT.tr ((CF.rf Mc3 q).kf c) hHS.hf (Nat.le_refl _) ?_
  refine st_word hB hp3 hSC3 hSM3' hN (w := 2) (by decide) (onC3 N q c (nI v) (nI v1)) (onM3 N b (nI t) (nI v)) (fun Mc4 Mm4 hF4 hG4 hSC4 hSM4 => ?_)
  have hp4 := tE_le (f := f) hp3
  unfold onC3 onM3
  refine st_num hB hp4 hSC4 hSM4 hN (lo := 0) (hi := 99) (by decide) (by omega) (onC4 N q c (nI v) (nI v1)) (onM4 b (nI t) (nI v)) (fun Mc5 Mm5 v2 _ hv2 hF5 hG5 hSC5 hSM5 e5 e32 => ?_)
  have hp5 := tE_le (f := f) hp4
  obtain ⟨hC, hV, hM, hW⟩ := hS3
  have hV5 := CV_cf hq hF5 (CV_cf hq hF4 hV)
  have g : ∀ x i, x ≠ b → Mm5.1 x i = (sI Mm3 (b + 21 + 1 + t) v (nI v1)).1 x i := fun x i h => by rw [hG5.1 _ _ (Or.inl h), hG4.1 _ _ (Or.inl h)]
  unfold onC4 onM4
  refine OUT.eq (X := some (1, sI (sI Mc5 (c + 1) v (nI v1)) (c + 2) v (nI v2))) (Y := some (1, sI Mm5 (b + 27 + 1 + t) v (nI v2))) ?_ (by rw [nm_eq, e32, nI_clamp (by omega), nI_clamp (by omega)]) ?_
  · unfold fX4_value
    rw [hasP_y N hV5 hC (by omega), bd_some, if_neg (by decide), gd_nI (by omega) (by decide), nm_eq, nm_eq, nI_clamp (by omega), e5, bd_some]
  refine out_y hq ht hp5 hSC5 hSM5 (C' := vs (vs C 1 v (nI v1)) 2 v (nI v2)) ⟨fun x i h => by rw [sI_o (by omega), sI_o (by omega)], rfl⟩ ⟨fun x i h => sI_o (by unfold SX at h; omega), rfl⟩ ⟨?_, CV_vs (j := 2) (CV_vs (j := 1) hV5 v (nI v1)) v (nI v2), ?_, ?_⟩
  · refine RC_row (j0 := 2) (by omega) (RC_row (j0 := 1) (by omega) hC (C' := vs C 1 v (nI v1)) (fun j i h => vs_o (by omega)) (fun i hi => ?_)) (fun j i h => vs_o (by omega)) (fun i hi => ?_)
    · by_cases w : i = v
      · subst w; exact ⟨v1, hv1, vs_s⟩
      · rw [vs_o (by omega)]; exact (hC.2.2.2.2.1 i hi).1
    · by_cases w : i = v
      · subst w; exact ⟨v2, hv2, vs_s⟩
      · rw [vs_o (by omega), vs_o (by omega)]; exact (hC.2.2.2.2.1 i hi).2
  · obtain ⟨m1, m2, m3, m4, m5, m6⟩ := hM
    refine ⟨by rw [sI_o (by omega), g _ _ (by omega), sI_o (by omega)]; exact m1, by rw [sI_o (by omega), g _ _ (by omega), sI_o (by omega), vs_o (by omega), vs_o (by omega)]; exact m2, by rw [sI_o (by omega), g _ _ (by omega), sI_o (by omega), vs_o (by omega), vs_o (by omega)]; exact m3, fun r hr => ⟨?_, ?_⟩, fun r hr => by rw [sI_o (by omega), g _ _ (by omega), sI_o (by omega), vs_o (by omega), vs_o (by omega)]; exact m5 r hr, fun r hr => by rw [sI_o (by omega), g _ _ (by omega), sI_o (by omega), vs_o (by omega), vs_o (by omega)]; exact m6 r hr⟩
    · rw [sI_o (by omega), g _ _ (by omega), vs_o (by omega)]
      by_cases w : r = v
      · subst w; rw [sI_s, vs_s]
      · rw [sI_o (by omega), vs_o (by omega)]; exact (m4 r hr).1
    · by_cases w : r = v
      · subst w; rw [sI_s, vs_s]
      · rw [sI_o (by omega), g _ _ (by omega), sI_o (by omega), vs_o (by omega), vs_o (by omega)]; exact (m4 r hr).2
  · intro r hr
    rw [sI_o (by omega), sI_o (by omega), g _ _ (by omega), g _ _ (by omega), sI_o (by omega), sI_o (by omega), vs_o (by omega), vs_o (by omega), vs_o (by omega), vs_o (by omega)]
    exact hW r hr
/-! tie -/
theorem out_join (hq : q + 1 < c) (ht : t < 5) (hp : p ≤ z) (hSC : SC q z f p Mc) (hSM : SM b z f p Mm) {C : Nat → Nat → Int32} (hS : ST c b t n C Mc Mm) {u v w : Nat} (hu : u < n) (hv : v < n) (huv : u ≠ v) (hw : w ≤ 9) :
    OUT q c b t z f n p Mc Mm (bd (fX4_join N Mc c (nI u) (nI v) (nI w)) (fun r => some (1, r))) (bd (fX7_tieThem N Mm b (nI t) (nI u) (nI v) (nI w)) (fun r => some (1, r))) := by
  obtain ⟨hC, hV, hM, hW⟩ := hS
  have hn := hC.1.2
  rw [join_c hV hC hu hv huv, tieThem_m hM ht (by omega) (by omega) huv, bd_some, bd_some]
  exact out_y hq ht hp hSC hSM (C' := jnC C u v (nI w)) ⟨fun x i h => wC_o (by omega) i, rfl⟩ ⟨fun x i h => tgM_o (by unfold SX at h; omega) (by unfold SX at h; omega), rfl⟩ ⟨RC_jn hC hu hv huv ⟨w, hw, rfl⟩, wC_CV _ _ _, MV_tg hM ht, WV_tg hW ht⟩
def tiC2 (N q c : Nat) (x3 x19 : Int32) (M : Mem) : Option (Int32 × Mem) := nm (M.1 q 5) (fun x25 => bd (fX4_join N M c x3 x19 x25) (fun r26 => some (1, r26)))
def tiC1 (N q c : Nat) (x3 : Int32) (M : Mem) : Option (Int32 × Mem) := nm (M.1 q 5) (fun x19 => bd (fX1_passWord N M q 6) (fun r20 => if r20.1 = 0 then bd (fX4_join N r20.2 c x3 x19 0) (fun r22 => some (1, r22)) else bd (fX1_passNumber N r20.2 q (nI 0) (nI 9)) (fun r => if r.1 = 0 then some (0, r.2) else tiC2 N q c x3 x19 r.2)))
def tiCt (N q c : Nat) (x3 : Int32) (M : Mem) : Option (Int32 × Mem) := bd (fX1_passNumber N M q (nI 0) (M.1 c 7 - 1)) (fun r => if r.1 = 0 then some (0, r.2) else tiC1 N q c x3 r.2)
def tiC0 (N q c : Nat) (M : Mem) : Option (Int32 × Mem) := nm (M.1 q 5) (fun x3 => if M.1 q 2 = 2 then bd (fX1_numberAtHand N M q) (fun r15 => if r15 = x3 then some (0, M) else tiCt N q c x3 M) else tiCt N q c x3 M)
theorem tiC (N : Nat) (M : Mem) (q c : Nat) : fX1_readTie N M q c = bd (fX1_passNumber N M q (nI 0) (M.1 c 7 - 1)) (fun r => if r.1 = 0 then some (0, r.2) else tiC0 N q c r.2) := rfl
def tiM2 (N b : Nat) (T x4 x20 : Int32) (M : Mem) : Option (Int32 × Mem) := nm (M.1 b 32) (fun x27 => bd (fX7_tieThem N M b T x4 x20 x27) (fun r28 => some (1, r28)))
def tiM1 (N b : Nat) (T x4 : Int32) (M : Mem) : Option (Int32 × Mem) := nm (M.1 b 32) (fun x20 => bd (fX7_isWord N M b 6) (fun r21 => if r21 = 0 then bd (fX7_tieThem N M b T x4 x20 0) (fun r23 => some (1, r23)) else bd (fX7_look N M b) (fun r24 => bd (fX7_number N r24 b (nI 0) (nI 9)) (fun r => if r.1 = 0 then some (0, r.2) else tiM2 N b T x4 x20 r.2))))
def tiMt (N b : Nat) (T x2 x4 : Int32) (M : Mem) : Option (Int32 × Mem) := bd (fX7_number N M b (nI 0) (x2 - 1)) (fun r => if r.1 = 0 then some (0, r.2) else tiM1 N b T x4 r.2)
def tiM0 (N b : Nat) (T x2 : Int32) (M : Mem) : Option (Int32 × Mem) := nm (M.1 b 32) (fun x4 => if M.1 b 28 = 2 then if (lg_cmp (M.2 b 30) ((x4 : Int32).toInt64)) = 0 then bd (fX7_wrong N M b) (fun r29 => gc (r29.1 = 0 ∨ r29.1 = 1) (some (r29.1, r29.2))) else tiMt N b T x2 x4 M else tiMt N b T x2 x4 M)
def tiMA (N b : Nat) (T x2 : Int32) (M : Mem) : Option (Int32 × Mem) := bd (fX7_number N M b (nI 0) (x2 - 1)) (fun r => if r.1 = 0 then some (0, r.2) else tiM0 N b T x2 r.2)
theorem tiMe (N : Nat) (M : Mem) (b : Nat) (T x2 : Int32) : fX7_tieTold N M b T x2 = bd (fX7_look N M b) (fun r1 => tiMA N b T x2 r1) := rfl
theorem out_tail (hq : q + 1 < c) (ht : t < 5) (hB : TBy z f) (hp : p ≤ z) (hSC : SC q z f p Mc) (hSM : SM b z f p Mm) {C : Nat → Nat → Int32} (hS : ST c b t n C Mc Mm) (hN : 4097 < N) {u : Nat} (hu : u < n) (hne : tO z f p = 2 → mv z f p ≠ u) :
    OUT q c b t z f n p Mc Mm (tiCt N q c (nI u) Mc) (tiMt N b (nI t) (nI n) (nI u) Mm) := by
  have hn1 := hS.1.1.1
  have hn2 := hS.1.1.2
  unfold tiCt tiMt
  rw [CV0 hS.2.1, hS.1.2.1, nI_pd hn1]
  refine st_numv hB hp hSC hSM hN (lo := 0) (hi := n - 1) (by decide) (by omega) (tiC1 N q c (nI u)) (tiM1 N b (nI t) (nI u)) (fun Mc1 Mm1 h2 hv hF1 hG1 hSC1 hSM1 e5 e32 => ?_)
  have hS1 := ST_fr hq ht hF1 hG1 hS
  have hp1 := tE_le (f := f) hp
  have hvu := hne h2
  obtain ⟨v, ev⟩ : ∃ v, v = mv z f p := ⟨_, rfl⟩
  rw [← ev] at e5 e32 hv hvu
  unfold tiC1 tiM1
  rw [e5, e32, nm_eq, nm_eq]
  cases h : isW z f (tE z f p) 6
  · rw [pw_n hSC1 hB hp1 (by decide) hN h, isWord_m hSM1 hB hp1 (by decide) hN, h, bd_some, bd_some, b1_if, if_pos (show ((0 : Int32), Mc1).1 = 0 from rfl), if_neg (show ¬ (false = true) by decide)]
    exact out_join hq ht hp1 hSC1 hSM1 hS1 (w := 0) hu (by omega) (Ne.symm hvu) (by decide)
  · obtain ⟨Mc2, a1, a2, a3⟩ := pw_y (N := N) hSC1 hB hp1 (w := 6) (by decide) hN h
    obtain ⟨Mm2, b1, b2, b3⟩ := next_m (N := N) hSM1 hB hp1 hN
    rw [a1, isWord_m hSM1 hB hp1 (by decide) hN, h, bd_some, bd_some, b1_if, if_pos rfl, b1, bd_some, if_neg (show ¬ (1 : Int32) = 0 by decide)]
    have hS2 := ST_fr hq ht a2.cf b2.gf hS1
    have hp2 := tE_le (f := f) hp1
    refine OUT.tr (a2.cf.kf c) (b2.gf.hf t) (pE z f _) ?_
    refine st_num hB hp2 a3 b3 hN (lo := 0) (hi := 9) (by decide) (by decide) (tiC2 N q c (nI u) (nI v)) (tiM2 N b (nI t) (nI u) (nI v)) (fun Mc3 Mm3 v2 _ hv2 hF3 hG3 hSC3 hSM3 e5 e32 => ?_)
    have hS3 := ST_fr hq ht hF3 hG3 hS2
    have hp3 := tE_le (f := f) hp2
    unfold tiC2 tiM2
    rw [e5, e32, nm_eq, nm_eq]
    exact out_join hq ht hp3 hSC3 hSM3 hS3 hu (by omega) (Ne.symm hvu) hv2
theorem wide_k {x u : Nat} (hx : x < 2 ^ 31) (hu : u < 2 ^ 31) : (nI x).toInt64 = (nI u).toInt64 ↔ x = u := ⟨fun e => by
  have a := congrArg Int64.toInt32 e
  rw [Int32.toInt32_toInt64, Int32.toInt32_toInt64] at a
  exact (nI_k hx hu).mp a, fun e => by rw [e]⟩
theorem out_tie (hq : q + 1 < c) (ht : t < 5) (hB : TBy z f) (hp : p ≤ z) (hSC : SC q z f p Mc) (hSM : SM b z f p Mm) {C : Nat → Nat → Int32} (hS : ST c b t n C Mc Mm) (hN : 4097 < N) :
    OUT q c b t z f n p Mc Mm (fX1_readTie N Mc q c) (tiMA N b (nI t) (nI n) Mm) := by
  have hn1 := hS.1.1.1
  have hn2 := hS.1.1.2
  rw [tiC, CV0 hS.2.1, hS.1.2.1, nI_pd hn1]
  unfold tiMA
  rw [nI_pd hn1]
  refine st_num hB hp hSC hSM hN (lo := 0) (hi := n - 1) (by decide) (by omega) (tiC0 N q c) (tiM0 N b (nI t) (nI n)) (fun Mc1 Mm1 u _ hu hF1 hG1 hSC1 hSM1 e5 e32 => ?_)
  have hS1 := ST_fr hq ht hF1 hG1 hS
  have hp1 := tE_le (f := f) hp
  have ho : tO z f (tE z f p) ≤ 4 := by
    unfold tO; split
    · exact (bz_le _).2
    · omega
  unfold tiC0 tiM0
  rw [e5, e32, nm_eq, nm_eq, hSC1.2.1, hSM1.2.1]
  by_cases w : tO z f (tE z f p) = 2
  · have e2 : nI (tO z f (tE z f p)) = 2 := by rw [w]; rfl
    have hm := mv_form w
    rw [if_pos e2, if_pos e2, nah_c hSC1 hB hp1 w hN, bd_some, hSM1.2.2.2.2 w]
    by_cases wu : mv z f (tE z f p) = u
    · rw [if_neg (show ¬ mv z f (tE z f p) = 100000 by omega), if_pos (show nI (mv z f (tE z f p)) = nI u by rw [wu]), if_pos (show lg_cmp (nI (mv z f (tE z f p))).toInt64 (nI u).toInt64 = 0 by rw [lg_cmp_eq, wu])]
      unfold fX7_wrong
      rw [nm_eq, bd_some, gc_of (Or.inl rfl), hSM1.2.2.1]
      exact Or.inl ⟨tS z f (tE z f p), Mc1, _, rfl, rfl, (CF.rf Mc1 q).kf c, ((GF.rf Mm1 b).sI _ (by omega)).hf t, hSC1.2.2.1, sI_s⟩
    · rw [if_neg (fun e => by
        have a := (nI_k (by split <;> omega) (by omega)).mp e
        split at a <;> omega), if_neg (show ¬ lg_cmp (nI (mv z f (tE z f p))).toInt64 (nI u).toInt64 = 0 from fun e => wu ((wide_k (by omega) (by omega)).mp (by rwa [lg_cmp_eq] at e)))]
      exact out_tail hq ht hB hp1 hSC1 hSM1 hS1 hN (by omega) (fun _ => wu)
  · have e2 : ¬ nI (tO z f (tE z f p)) = (2 : Int32) := fun e => w ((nI_k (d := 2) (by omega) (by decide)).mp e)
    rw [if_neg e2, if_neg e2]
    exact out_tail hq ht hB hp1 hSC1 hSM1 hS1 hN (by omega) (fun h => absurd h w)
