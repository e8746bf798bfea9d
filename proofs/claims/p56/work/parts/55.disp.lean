/-! a statement, and one behind the other -/
variable {N q c b t z n p : Nat} {f : Nat → Nat} {Mc Mm : Mem}
theorem OUT.g {X Y : Option (Int32 × Mem)} (h : OUT q c b t z f n p Mc Mm X Y) : OUT q c b t z f n p Mc Mm (gw X) Y := by rw [h.gx.1]; exact h
theorem OUT.gg {X Y : Option (Int32 × Mem)} (h : OUT q c b t z f n p Mc Mm X Y) : OUT q c b t z f n p Mc Mm (gw X) (gw Y) := by rw [h.gx.1, h.gx.2]; exact h
theorem P0 (M : Mem) : ((0 : Int32), M).1 = 0 := rfl
theorem P1 (M : Mem) : ¬ ((1 : Int32), M).1 = 0 := by show ¬ (1 : Int32) = 0; decide
theorem out_fail (hSC : SC q z f p Mc) (hSM : SM b z f p Mm) : OUT q c b t z f n p Mc Mm (some (0, Mc)) (gw (fX7_wrong N Mm b)) := by
  unfold fX7_wrong gw
  rw [nm_eq, bd_some, gc_of (Or.inl rfl), hSM.2.2.1]
  exact Or.inl ⟨tS z f p, Mc, _, rfl, rfl, (CF.rf Mc q).kf c, ((GF.rf Mm b).sI _ (by omega)).hf t, hSC.2.2.1, sI_s⟩
def alC (N q c : Nat) (M : Mem) : Option (Int32 × Mem) := bd (fX1_passWord N M q 9) (fun r14 => if r14.1 = 0 then some (0, r14.2) else bd (fX4_joinAll N r14.2 c) (fun r16 => some (1, r16)))
def alM (N b : Nat) (T x2 : Int32) (M : Mem) : Option (Int32 × Mem) := bd (fX7_isWord N M b 9) (fun r25 => if r25 = 0 then gw (fX7_wrong N M b) else bd (fX7_look N M b) (fun r29 => fX7_statement_345 N b T x2 N r29 0))
theorem out_al (hq : q + 1 < c) (ht : t < 5) (hB : TBy z f) (hp : p ≤ z) (hSC : SC q z f p Mc) (hSM : SM b z f p Mm) {C : Nat → Nat → Int32} (hS : ST c b t n C Mc Mm) (hN : 4097 < N) :
    OUT q c b t z f n p Mc Mm (alC N q c Mc) (alM N b (nI t) (nI n) Mm) := by
  unfold alC alM
  cases h : isW z f p 9
  · rw [pw_n hSC hB hp (by decide) hN h, isWord_m hSM hB hp (by decide) hN, h, bd_some, bd_some, b1_if, if_pos (P0 Mc), if_neg (show ¬ (false = true) by decide)]
    exact out_fail hSC hSM
  · obtain ⟨Mc2, a1, a2, a3⟩ := pw_y (N := N) hSC hB hp (w := 9) (by decide) hN h
    obtain ⟨Mm2, b1, b2, b3⟩ := next_m (N := N) hSM hB hp hN
    rw [a1, isWord_m hSM hB hp (by decide) hN, h, bd_some, bd_some, b1_if, if_neg (P1 Mc2), if_pos rfl, b1, bd_some]
    exact OUT.tr (a2.cf.kf c) (b2.gf.hf t) (pE z f p) (out_alls hq ht (tE_le hp) a3 b3 (ST_fr hq ht a2.cf b2.gf hS) hN)
def stC8 (N q c : Nat) (M : Mem) : Option (Int32 × Mem) := if (M.1 c 7) < 3 then alC N q c M else bd (fX1_passWord N M q 8) (fun r17 => if r17.1 = 0 then alC N q c r17.2 else bd (fX4_joinNeighbours N r17.2 c) (fun r22 => some (1, r22)))
def stM8 (N b : Nat) (T x2 : Int32) (M : Mem) : Option (Int32 × Mem) := bd (fX7_isWord N M b 8) (fun r23 => if r23 = 0 then alM N b T x2 M else if x2 < 3 then alM N b T x2 M else bd (fX7_look N M b) (fun r36 => fX7_statement_306 N b T x2 N r36 0))
theorem out_8 (hq : q + 1 < c) (ht : t < 5) (hB : TBy z f) (hp : p ≤ z) (hSC : SC q z f p Mc) (hSM : SM b z f p Mm) {C : Nat → Nat → Int32} (hS : ST c b t n C Mc Mm) (hN : 4097 < N) :
    OUT q c b t z f n p Mc Mm (stC8 N q c Mc) (stM8 N b (nI t) (nI n) Mm) := by
  have hn := hS.1.1.2
  unfold stC8 stM8
  rw [CV0 hS.2.1, hS.1.2.1, isWord_m hSM hB hp (by decide) hN, bd_some, b1_if]
  by_cases w : n < 3
  · rw [if_pos (show nI n < (3 : Int32) from nI_lt (b := 3) w (by decide))]
    rw [if_pos (show nI n < (3 : Int32) from nI_lt (b := 3) w (by decide))]
    cases isW z f p 8
    · exact out_al hq ht hB hp hSC hSM hS hN
    · exact out_al hq ht hB hp hSC hSM hS hN
  · rw [if_neg (show ¬ nI n < (3 : Int32) from nI_nlt (b := 3) (by omega) (by omega))]
    rw [if_neg (show ¬ nI n < (3 : Int32) from nI_nlt (b := 3) (by omega) (by omega))]
    cases h : isW z f p 8
    · rw [pw_n hSC hB hp (by decide) hN h, bd_some, if_pos (P0 Mc), if_neg (show ¬ (false = true) by decide)]
      exact out_al hq ht hB hp hSC hSM hS hN
    · obtain ⟨Mc2, a1, a2, a3⟩ := pw_y (N := N) hSC hB hp (w := 8) (by decide) hN h
      obtain ⟨Mm2, b1, b2, b3⟩ := next_m (N := N) hSM hB hp hN
      rw [a1, bd_some, if_neg (P1 Mc2), if_pos rfl, b1, bd_some]
      exact OUT.tr (a2.cf.kf c) (b2.gf.hf t) (pE z f p) (out_ring hq ht (tE_le hp) a3 b3 (ST_fr hq ht a2.cf b2.gf hS) (by omega) hN)
def nuM (N b : Nat) (hi : Int32) (K : Mem → Option (Int32 × Mem)) (M : Mem) : Option (Int32 × Mem) := bd (fX7_number N M b 0 hi) (fun r => if r.1 = 0 then some (0, r.2) else K r.2)
def k5 (N q c : Nat) (M : Mem) : Option (Int32 × Mem) := bd (fX1_passWord N M q 7) (fun r => if r.1 = 0 then stC8 N q c r.2 else gw (fX1_readMust N r.2 q c))
def k4 (N q c : Nat) (M : Mem) : Option (Int32 × Mem) := bd (fX1_passWord N M q 5) (fun r => if r.1 = 0 then k5 N q c r.2 else gw (fX1_readTie N r.2 q c))
def k3 (N q c : Nat) (M : Mem) : Option (Int32 × Mem) := bd (fX1_passWord N M q 4) (fun r => if r.1 = 0 then k4 N q c r.2 else gw (fX1_readOne N r.2 q c))
def k2 (N q c : Nat) (M : Mem) : Option (Int32 × Mem) := bd (fX1_passWord N M q 3) (fun r => if r.1 = 0 then k3 N q c r.2 else gw (fX1_readMore N r.2 q c))
def k1 (N q c : Nat) (M : Mem) : Option (Int32 × Mem) := bd (fX1_passWord N M q 2) (fun r => if r.1 = 0 then k2 N q c r.2 else gw (fX1_readForAll N r.2 q (c + 2)))
theorem stC (N : Nat) (M : Mem) (q c : Nat) : fX1_readStatement N M q c = bd (fX1_passWord N M q 1) (fun r => if r.1 = 0 then k1 N q c r.2 else gw (fX1_readForAll N r.2 q (c + 1))) := rfl
def roM (N b : Nat) (T x2 : Int32) (M : Mem) : Option (Int32 × Mem) := bd (fX7_isWord N M b 1) (fun r62 => if r62 = 0 then bd (fX7_look N M b) (fun r64 => nuM N b 99 (fun M2 => fX7_statement_69 N b ((b + 27) + 1 + T.toNatClampNeg) x2 N M2 0) r64) else bd (fX7_look N M b) (fun r67 => nuM N b 99 (fun M2 => fX7_statement_69 N b ((b + 21) + 1 + T.toNatClampNeg) x2 N M2 0) r67))
theorem stM (N : Nat) (M : Mem) (b : Nat) (T : Int32) : fX7_statement N M b T = gd T 5 (nm (M.1 (b + 18) T.toNatClampNeg) (fun x2 => bd (fX7_isWord N M b 1) (fun r3 => if r3 = 0 then bd (fX7_isWord N M b 2) (fun r13 => if r13 = 0 then bd (fX7_isWord N M b 3) (fun r15 => if r15 = 0 then bd (fX7_isWord N M b 4) (fun r17 => if r17 = 0 then bd (fX7_isWord N M b 5) (fun r19 => if r19 = 0 then bd (fX7_isWord N M b 7) (fun r21 => if r21 = 0 then stM8 N b T x2 M else bd (fX7_look N M b) (fun r37 => nuM N b (x2 - 1) (fun M2 => nm (sI M2 (b + 20) T.toNatClampNeg ((M2.1 (b + 20) T.toNatClampNeg) ||| (1 <<< ((M2.1 b 32) &&& 31)))) (fun M40 => some (1, M40))) r37)) else gw (fX7_tieTold N M b T x2)) else bd (fX7_look N M b) (fun r43 => onM N b T x2 r43)) else bd (fX7_look N M b) (fun r58 => nuM N b 9 (fun M2 => nm (sI M2 (b + 19) T.toNatClampNeg (M2.1 b 32)) (fun M61 => some (1, M61))) r58)) else roM N b T x2 M) else roM N b T x2 M))) := rfl
theorem out_st (hq : q + 1 < c) (ht : t < 5) (hB : TBy z f) (hp : p ≤ z) (hSC : SC q z f p Mc) (hSM : SM b z f p Mm) {C : Nat → Nat → Int32} (hS : ST c b t n C Mc Mm) (hN : 4097 < N) :
    OUT q c b t z f n p Mc Mm (fX1_readStatement N Mc q c) (fX7_statement N Mm b (nI t)) := by
  have en : Mm.1 (b + 18) (nI t).toNatClampNeg = nI n := by rw [nI_clamp (by omega)]; exact hS.2.2.1.1
  have wm : ∀ w, w < 10 → fX7_isWord N Mm b w = some (b1 (isW z f p w)) := fun w hw => isWord_m hSM hB hp hw hN
  have wc : ∀ w, w < 10 → isW z f p w = false → fX1_passWord N Mc q w = some (0, Mc) := fun w hw h => pw_n hSC hB hp hw hN h
  obtain ⟨Mm2, m1, m2, m3⟩ := next_m (N := N) hSM hB hp hN
  have ff : ¬ (false = true) := by decide
  rw [stC, stM, gd_nI ht (by decide), en, nm_eq, wm 1 (by decide), bd_some, b1_if]
  have go : ∀ {w : Nat} {X : Mem → Option (Int32 × Mem)} {Y : Mem → Option (Int32 × Mem)} (K : Mem → Option (Int32 × Mem)), w < 10 → isW z f p w = true →
      (∀ Mc2, CF Mc Mc2 q → SC q z f (tE z f p) Mc2 → ST c b t n C Mc2 Mm2 → OUT q c b t z f n (tE z f p) Mc2 Mm2 (X Mc2) (Y Mm2)) →
      OUT q c b t z f n p Mc Mm (bd (fX1_passWord N Mc q w) (fun r => if r.1 = 0 then K r.2 else X r.2)) (bd (fX7_look N Mm b) Y) := fun {w X Y} K hw h hX => by
    obtain ⟨Mc2, a1, a2, a3⟩ := pw_y (N := N) hSC hB hp hw hN h
    rw [a1, bd_some, if_neg (P1 Mc2), m1, bd_some]
    exact OUT.tr (a2.cf.kf c) (m2.gf.hf t) (pE z f p) (hX Mc2 a2.cf a3 (ST_fr hq ht a2.cf m2.gf hS))
  have hp1 := tE_le (f := f) hp
  cases h1 : isW z f p 1
  · rw [if_neg ff, wc 1 (by decide) h1, bd_some, if_pos (P0 Mc), wm 2 (by decide), bd_some, b1_if]
    show OUT q c b t z f n p Mc Mm (k1 N q c Mc) _
    unfold k1
    cases h2 : isW z f p 2
    · rw [if_neg ff, wc 2 (by decide) h2, bd_some, if_pos (P0 Mc), wm 3 (by decide), bd_some, b1_if]
      show OUT q c b t z f n p Mc Mm (k2 N q c Mc) _
      unfold k2
      cases h3 : isW z f p 3
      · rw [if_neg ff, wc 3 (by decide) h3, bd_some, if_pos (P0 Mc), wm 4 (by decide), bd_some, b1_if]
        show OUT q c b t z f n p Mc Mm (k3 N q c Mc) _
        unfold k3
        cases h4 : isW z f p 4
        · rw [if_neg ff, wc 4 (by decide) h4, bd_some, if_pos (P0 Mc), wm 5 (by decide), bd_some, b1_if]
          show OUT q c b t z f n p Mc Mm (k4 N q c Mc) _
          unfold k4
          cases h5 : isW z f p 5
          · rw [if_neg ff, wc 5 (by decide) h5, bd_some, if_pos (P0 Mc), wm 7 (by decide), bd_some, b1_if]
            show OUT q c b t z f n p Mc Mm (k5 N q c Mc) _
            unfold k5
            cases h7 : isW z f p 7
            · rw [if_neg ff, wc 7 (by decide) h7, bd_some, if_pos (P0 Mc)]
              exact out_8 hq ht hB hp hSC hSM hS hN
            · rw [if_pos rfl]
              exact go (X := fun M => gw (fX1_readMust N M q c)) (Y := nuM N b (nI n - 1) (fun M2 => nm (sI M2 (b + 20) (nI t).toNatClampNeg ((M2.1 (b + 20) (nI t).toNatClampNeg) ||| (1 <<< ((M2.1 b 32) &&& 31)))) (fun M40 => some (1, M40)))) (stC8 N q c) (by decide) h7 (fun Mc2 hF hSC2 hS2 => (out_must hq ht hB hp1 hSC2 m3 hS2 hN).g)
          · rw [if_pos rfl, tiMe]
            have e := go (w := 5) (X := fun M => gw (fX1_readTie N M q c)) (Y := fun M => tiMA N b (nI t) (nI n) M) (k5 N q c) (by decide) h5 (fun Mc2 hF hSC2 hS2 => (out_tie hq ht hB hp1 hSC2 m3 hS2 hN).g)
            have e2 := e.gx.2
            rw [e2]; exact e
        · rw [if_pos rfl]
          exact go (X := fun M => gw (fX1_readOne N M q c)) (Y := fun M => onM N b (nI t) (nI n) M) (k4 N q c) (by decide) h4 (fun Mc2 hF hSC2 hS2 => (out_one hq ht hB hp1 hSC2 m3 hS2 hN).g)
      · rw [if_pos rfl]
        exact go (X := fun M => gw (fX1_readMore N M q c)) (Y := nuM N b 9 (fun M2 => nm (sI M2 (b + 19) (nI t).toNatClampNeg (M2.1 b 32)) (fun M61 => some (1, M61)))) (k3 N q c) (by decide) h3 (fun Mc2 hF hSC2 hS2 => (out_more hq ht hB hp1 hSC2 m3 hS2 hN).g)
    · rw [if_pos rfl]
      unfold roM
      rw [wm 1 (by decide), h1, bd_some, b1_if, if_neg ff]
      exact go (X := fun M => gw (fX1_readForAll N M q (c + 2))) (Y := nuM N b 99 (fun M2 => fX7_statement_69 N b ((b + 27) + 1 + (nI t).toNatClampNeg) (nI n) N M2 0)) (k2 N q c) (by decide) h2 (fun Mc2 hF hSC2 hS2 => (out_all (j := 2) (g := (b + 27) + 1 + (nI t).toNatClampNeg) hq ht hB hp1 hSC2 m3 hS2 (Or.inr ⟨rfl, by rw [nI_clamp (by omega)]⟩) hN).g)
  · rw [if_pos rfl]
    unfold roM
    rw [wm 1 (by decide), h1, bd_some, b1_if, if_pos rfl]
    exact go (X := fun M => gw (fX1_readForAll N M q (c + 1))) (Y := nuM N b 99 (fun M2 => fX7_statement_69 N b ((b + 21) + 1 + (nI t).toNatClampNeg) (nI n) N M2 0)) (k1 N q c) (by decide) h1 (fun Mc2 hF hSC2 hS2 => (out_all (j := 1) (g := (b + 21) + 1 + (nI t).toNatClampNeg) hq ht hB hp1 hSC2 m3 hS2 (Or.inl ⟨rfl, by rw [nI_clamp (by omega)]⟩) hN).g)
theorem out_loop (hq : q + 1 < c) (ht : t < 5) (hB : TBy z f) (hN : 4097 < N) : ∀ d p i k1 k2 Mc Mm C, z - p ≤ d → d < k1 → d < k2 → i ≤ p → p ≤ z → SC q z f p Mc → SM b z f p Mm → ST c b t n C Mc Mm →
    OUT q c b t z f n p Mc Mm (fX1_readStreet_40 N q c k1 Mc (nI i)) (fX7_read_74 N b (nI t) k2 Mm) := by
  have hz := hB.1
  intro d
  induction d with
  | zero =>
    intro p i k1 k2 Mc Mm C hd hk1 hk2 hi hp hSC hSM hS
    obtain ⟨k1, rfl⟩ : ∃ k, k1 = k + 1 := ⟨k1 - 1, by omega⟩
    obtain ⟨k2, rfl⟩ : ∃ k, k2 = k + 1 := ⟨k2 - 1, by omega⟩
    have h0 : tO z f p = 0 := by
      unfold tO
      have := tS_ge (z := z) (f := f) (p := p)
      rw [if_neg (by omega)]
    have e2 : Mc.1 q 2 = 0 := by rw [hSC.2.1, h0]; rfl
    have e28 : Mm.1 b 28 = 0 := by rw [hSM.2.1, h0]; rfl
    rw [fX1_readStreet_40, fX7_read_74, e2, e28, if_pos rfl, if_pos rfl, if_neg (show ¬ (0 : Int32) = 3 by decide)]
    have o := out_y hq ht hp hSC hSM (KS.rf Mc c) (HS.rf Mm b t) hS
    by_cases w : (160 : Int32) ≤ nI i
    · rw [if_pos w]; exact o
    · rw [if_neg w]; exact o
  | succ d ih =>
    intro p i k1 k2 Mc Mm C hd hk1 hk2 hi hp hSC hSM hS
    obtain ⟨k1, rfl⟩ : ∃ k, k1 = k + 1 := ⟨k1 - 1, by omega⟩
    obtain ⟨k2, rfl⟩ : ∃ k, k2 = k + 1 := ⟨k2 - 1, by omega⟩
    rw [fX1_readStreet_40, fX7_read_74]
    by_cases h0 : tO z f p = 0
    · have e2 : Mc.1 q 2 = 0 := by rw [hSC.2.1, h0]; rfl
      have e28 : Mm.1 b 28 = 0 := by rw [hSM.2.1, h0]; rfl
      rw [e2, e28, if_pos rfl, if_pos rfl, if_neg (show ¬ (0 : Int32) = 3 by decide)]
      have o := out_y hq ht hp hSC hSM (KS.rf Mc c) (HS.rf Mm b t) hS
      by_cases w : (160 : Int32) ≤ nI i
      · rw [if_pos w]; exact o
      · rw [if_neg w]; exact o
    · have hs := tO_z h0
      have hg := tE_gt h0
      have hs2 := tS_ge (z := z) (f := f) (p := p)
      have ho : tO z f p ≤ 4 := by
        unfold tO; split
        · exact (bz_le _).2
        · omega
      rw [hSC.2.1, hSM.2.1, if_neg (show ¬ (160 : Int32) ≤ nI i from nI_ge (b := 160) (by omega) (by decide)), if_neg (show ¬ nI (tO z f p) = 0 from nI_ne0 (by omega) (by omega)), if_neg (show ¬ nI (tO z f p) = 0 from nI_ne0 (by omega) (by omega))]
      by_cases h3 : tO z f p = 3
      · have e3 : nI (tO z f p) = 3 := by rw [h3]; rfl
        rw [if_pos e3, if_pos e3]
        obtain ⟨Mc1, a1, a2, a3⟩ := next_c (N := N) hSC hB hp hN
        obtain ⟨Mm1, b1, b2, b3⟩ := next_m (N := N) hSM hB hp hN
        have hp1 := tE_le (f := f) hp
        rw [a1, b1, bd_some, bd_some]
        refine OUT.tr (a2.cf.kf c) (b2.gf.hf t) (pE z f p) ?_
        rcases out_st (N := N) hq ht hB hp1 a3 b3 (ST_fr hq ht a2.cf b2.gf hS) hN with ⟨s, Mc', Mm', x1, x2, x3, x4, x5, x6⟩ | ⟨p', C', Mc', Mm', x1, x2, x3, x4, x5, x6, x7, x8, x9⟩
        · rw [x1, x2, bd_some, bd_some, if_pos (P0 Mc'), if_pos (P0 Mm')]
          exact Or.inl ⟨s, Mc', Mm', rfl, rfl, x3, x4, x5, x6⟩
        · rw [x1, x2, bd_some, bd_some, if_neg (P1 Mc'), if_neg (P1 Mm'), nI_1]
          exact OUT.tr x3 x4 x5 (ih p' (i + 1) k1 k2 Mc' Mm' C' (by omega) (by omega) (by omega) (by omega) x6 x7 x8 x9)
      · have e3 : ¬ nI (tO z f p) = (3 : Int32) := fun e => h3 ((nI_k (d := 3) (by omega) (by decide)).mp e)
        rw [if_neg e3, if_neg e3]
        exact out_fail hSC hSM
