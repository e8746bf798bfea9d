/-! ===== the tape's tokens, as both read them ===== -/
def bz (c : Nat) : Nat := if 97 ≤ c ∧ c ≤ 122 then 1 else if 48 ≤ c ∧ c ≤ 57 then 2 else if c = 59 then 3 else 4
def tS (z : Nat) (f : Nat → Nat) (p : Nat) : Nat := p + fa_first (fun i => decide (f (p + i) ≠ 32)) (z - p)
def tO (z : Nat) (f : Nat → Nat) (p : Nat) : Nat := if tS z f p < z then bz (f (tS z f p)) else 0
/-- how far bytes of one kind go on from s -/
def tR (z : Nat) (f : Nat → Nat) (s : Nat) : Nat := fa_first (fun i => decide (bz (f (s + 1 + i)) ≠ bz (f s))) (z - (s + 1))
def tE (z : Nat) (f : Nat → Nat) (p : Nat) : Nat := if tS z f p < z then (if 3 ≤ bz (f (tS z f p)) then tS z f p + 1 else tS z f p + 1 + tR z f (tS z f p)) else tS z f p
def hv (f : Nat → Nat) (s : Nat) : Nat → Nat
  | 0 => 0
  | k + 1 => 10 * hv f s k + (f (s + k) - 48)
def TC (q z : Nat) (f : Nat → Nat) (M : Mem) : Prop := M.1 q 1 = nI z ∧ ∀ i, i < z → M.1 (q + 1) i = nI (f i)
def TM (b z : Nat) (f : Nat → Nat) (M : Mem) : Prop := M.1 b 8 = nI z ∧ ∀ i, i < z → M.1 (b + 16) i = nI (f i)
def TBy (z : Nat) (f : Nat → Nat) : Prop := z ≤ 160 ∧ ∀ i, i < z → f i < 256
theorem tS_le {z : Nat} {f : Nat → Nat} {p : Nat} (hp : p ≤ z) : tS z f p ≤ z := by
  have := fa_first_le (fun i => decide (f (p + i) ≠ 32)) (z - p)
  unfold tS; omega
theorem tS_ge {z : Nat} {f : Nat → Nat} {p : Nat} : p ≤ tS z f p := Nat.le_add_right _ _
theorem tE_le {z : Nat} {f : Nat → Nat} {p : Nat} (hp : p ≤ z) : tE z f p ≤ z := by
  have h1 := tS_le (f := f) hp
  have h2 := fa_first_le (fun i => decide (bz (f (tS z f p + 1 + i)) ≠ bz (f (tS z f p)))) (z - (tS z f p + 1))
  unfold tE tR
  split
  · split <;> omega
  · omega
theorem tE_ge {z : Nat} {f : Nat → Nat} {p : Nat} : tS z f p ≤ tE z f p := by
  unfold tE
  split
  · split <;> omega
  · omega
theorem bz_le (c : Nat) : 1 ≤ bz c ∧ bz c ≤ 4 := by
  unfold bz
  split
  · omega
  · split
    · omega
    · split <;> omega
theorem tE_gt {z : Nat} {f : Nat → Nat} {p : Nat} (h : tO z f p ≠ 0) : tS z f p < tE z f p := by
  unfold tO at h
  unfold tE
  split at h
  · rw [if_pos (by assumption)]
    split <;> omega
  · exact absurd rfl h
theorem bzC (N : Nat) (M : Mem) {c : Nat} (h : c < 256) : fX1_sortOf N M (nI c) = some (nI (bz c)) := by
  unfold fX1_sortOf
  revert h; revert c
  decide +kernel
theorem bzL (N : Nat) (M : Mem) {c : Nat} (h : c < 256) : fX7_isLetter N M (nI c) = some (b1 (decide (bz c = 1))) := by
  unfold fX7_isLetter
  revert h; revert c
  decide +kernel
theorem bzD (N : Nat) (M : Mem) {c : Nat} (h : c < 256) : fX7_isDigit N M (nI c) = some (b1 (decide (bz c = 2))) := by
  unfold fX7_isDigit
  revert h; revert c
  decide +kernel
theorem nI_32 {c : Nat} (h : c < 256) : nI c = 32 ↔ c = 32 := (by decide +kernel : ∀ c, c < 256 → (nI c = 32 ↔ c = 32)) c h
theorem nI_59 {c : Nat} (h : c < 256) : nI c = 59 ↔ bz c = 3 := (by decide +kernel : ∀ c, c < 256 → (nI c = 59 ↔ bz c = 3)) c h
theorem nI_k {c d : Nat} (h : c < 2 ^ 31) (h2 : d < 2 ^ 31) : nI c = nI d ↔ c = d := ⟨fun e => by
  have a := congrArg Int32.toNatClampNeg e
  rw [nI_clamp h, nI_clamp h2] at a
  exact a, fun e => by rw [e]⟩
/-! the class -/
def AF (M M' : Mem) (q : Nat) : Prop := (∀ x i, (x ≠ q ∨ i < 2 ∨ 4 < i) → M'.1 x i = M.1 x i) ∧ M'.2 = M.2
theorem AF.sI {M M' : Mem} {q : Nat} (h : AF M M' q) {i : Nat} (v : Int32) (hi : 2 ≤ i ∧ i ≤ 4) : AF M (sI M' q i v) q := ⟨fun y j w => by rw [sI_o (by omega)]; exact h.1 y j w, h.2⟩
theorem AF.rf (M : Mem) (q : Nat) : AF M M q := ⟨fun _ _ _ => rfl, rfl⟩
theorem TC_fr {q z : Nat} {f : Nat → Nat} {M M' : Mem} (hA : AF M M' q) (h : TC q z f M) : TC q z f M' := ⟨by rw [hA.1 _ _ (by omega)]; exact h.1, fun i hi => by rw [hA.1 _ _ (by omega)]; exact h.2 i hi⟩
theorem adv134 {N : Nat} {M : Mem} {q z s : Nat} {f : Nat → Nat} (hT : TC q z f M) (hB : TBy z f) (hs : s < z) (e2 : M.1 q 2 = nI (bz (f s))) (e4 : M.1 q 4 = nI (s + 1)) (hN : 4097 < N) :
    fX1_advance_134 N q N M = some (sI M q 4 (nI (s + 1 + tR z f s))) := by
  obtain ⟨hz, hf⟩ := hB
  have hle := fa_first_le (fun i => decide (bz (f (s + 1 + i)) ≠ bz (f s))) (z - (s + 1))
  obtain ⟨r, hr⟩ : ∃ r, r = tR z f s := ⟨_, rfl⟩
  rw [← hr]
  have hr' : r = fa_first (fun i => decide (bz (f (s + 1 + i)) ≠ bz (f s))) (z - (s + 1)) := hr
  have hrz : s + 1 + r ≤ z := by rw [hr']; omega
  have hT' : ∀ v, TC q z f (sI M q 4 v) := fun v => TC_fr ((AF.rf M q).sI v (by omega)) hT
  obtain ⟨k, hk⟩ := lp (fun k (w : Mem) => fX1_advance_134 N q k w) (fun j => sI M q 4 (nI (s + 1 + j))) r (fun k p hp => by
    show fX1_advance_134 N q (k + 1) (sI M q 4 (nI (s + 1 + p))) = fX1_advance_134 N q k (sI M q 4 (nI (s + 1 + (p + 1))))
    have hno := fa_first_no (fun i => decide (bz (f (s + 1 + i)) ≠ bz (f s))) (z - (s + 1)) p (by omega)
    have he : bz (f (s + 1 + p)) = bz (f s) := Decidable.not_not.mp (of_decide_eq_false hno)
    rw [fX1_advance_134, (hT' _).1, sI_s, if_neg (nI_ge (by omega) (by omega)), if_neg (show ¬ (160 : Int32) ≤ nI (s + 1 + p) from nI_ge (b := 160) (by omega) (by decide)), gd_nI (by omega) (by decide), nI_clamp (by omega), (hT' _).2 _ (by omega), bzC N _ (hf _ (by omega)), bd_some, sI_o (a := q) (x := q) (i := 4) (j := 2) (by omega), e2, if_pos (by rw [he]), nm_eq, nI_1]
    congr 1
    exact mem_ext (fun x i => by
      by_cases w : x = q ∧ i = 4
      · obtain ⟨rfl, rfl⟩ := w; rw [sI_s, sI_s]; rfl
      · rw [sI_o (by omega), sI_o (by omega), sI_o (by omega)]) (fun _ _ => rfl)) (N := N) (by omega)
  have e0 : M = sI M q 4 (nI (s + 1 + 0)) := mem_ext (fun x i => by
    by_cases w : x = q ∧ i = 4
    · obtain ⟨rfl, rfl⟩ := w; rw [sI_s, e4]
    · rw [sI_o (by omega)]) (fun _ _ => rfl)
  refine Eq.trans (congrArg (fun w => fX1_advance_134 N q N w) e0) (hk.trans ?_)
  show fX1_advance_134 N q (k + 1) (sI M q 4 (nI (s + 1 + r))) = _
  rw [fX1_advance_134, (hT' _).1, sI_s]
  by_cases w : s + 1 + r = z
  · rw [if_pos (nI_le (by omega) (by omega))]
  · have hyes := fa_first_yes (fun i => decide (bz (f (s + 1 + i)) ≠ bz (f s))) (z - (s + 1)) (by omega)
    rw [← hr'] at hyes
    have he : bz (f (s + 1 + r)) ≠ bz (f s) := of_decide_eq_true hyes
    have b1 := bz_le (f (s + 1 + r))
    have b2 := bz_le (f s)
    rw [if_neg (nI_ge (by omega) (by omega)), if_neg (show ¬ (160 : Int32) ≤ nI (s + 1 + r) from nI_ge (b := 160) (by omega) (by decide)), gd_nI (by omega) (by decide), nI_clamp (by omega), (hT' _).2 _ (by omega), bzC N _ (hf _ (by omega)), bd_some, sI_o (a := q) (x := q) (i := 4) (j := 2) (by omega), e2, if_neg (fun e => he ((nI_k (by omega) (by omega)).mp e))]
def advT (N : Nat) (a : Nat) (Mw : Mem) : Option Mem := nm (sI Mw a 4 (Mw.1 a 3)) (fun M27 => if (M27.1 a 1) ≤ (M27.1 a 3) then nm (sI M27 a 2 0) (fun M29 => some M29) else if (M27.1 a 3) < 160 then gd (M27.1 a 3) 160 (bd (fX1_sortOf N M27 (M27.1 (a + 1) ((M27.1 a 3) : Int32).toNatClampNeg)) (fun r32 => nm (sI M27 a 2 r32) (fun M33 => nm (sI M33 a 4 ((M33.1 a 4) + 1)) (fun M34 => if (M34.1 a 2) = 3 then some M34 else if (M34.1 a 2) = 4 then some M34 else fX1_advance_134 N a N M34 )))) else nm (sI M27 a 2 0) (fun M37 => some M37))
theorem adv_8 (N a n : Nat) (Mw : Mem) : fX1_advance_8 N a (n + 1) Mw = if (Mw.1 a 1) ≤ (Mw.1 a 3) then advT N a Mw else if 160 ≤ (Mw.1 a 3) then advT N a Mw else gd (Mw.1 a 3) 160 (if (Mw.1 (a + 1) ((Mw.1 a 3) : Int32).toNatClampNeg) = 32 then nm (sI Mw a 3 ((Mw.1 a 3) + 1)) (fun M38 => fX1_advance_8 N a n M38) else advT N a Mw) := rfl
theorem advT_c {N : Nat} {M : Mem} {q z s : Nat} {f : Nat → Nat} (hT : TC q z f M) (hB : TBy z f) (hs : s ≤ z) (e3 : M.1 q 3 = nI s) (hN : 4097 < N) :
    ∃ M', advT N q M = some M' ∧ AF M M' q ∧ M'.1 q 3 = nI s ∧ M'.1 q 2 = nI (if s < z then bz (f s) else 0) ∧ M'.1 q 4 = nI (if s < z then (if 3 ≤ bz (f s) then s + 1 else s + 1 + tR z f s) else s) := by
  obtain ⟨hz, hf⟩ := hB
  have hA1 : AF M (sI M q 4 (nI s)) q := (AF.rf M q).sI _ (by omega)
  have f3 : (sI M q 4 (nI s)).1 q 3 = nI s := by rw [sI_o (by omega), e3]
  unfold advT
  rw [e3, nm_eq, f3, (TC_fr hA1 hT).1]
  by_cases w : s < z
  · have b2 := bz_le (f s)
    rw [if_neg (nI_ge w (by omega)), if_pos (show nI s < (160 : Int32) from nI_lt (b := 160) (by omega) (by decide)), gd_nI (by omega) (by decide), nI_clamp (by omega), (TC_fr hA1 hT).2 _ w, bzC N _ (hf _ w), bd_some, nm_eq, nm_eq, sI_o (a := q) (x := q) (i := 2) (j := 4) (by omega), sI_s, nI_1, sI_o (a := q) (x := q) (i := 4) (j := 2) (by omega), sI_s, if_pos w, if_pos w]
    have hA2 : AF M (sI (sI (sI M q 4 (nI s)) q 2 (nI (bz (f s)))) q 4 (nI (s + 1))) q := (hA1.sI _ (by omega)).sI _ (by omega)
    by_cases w3 : bz (f s) = 3
    · rw [if_pos (show nI (bz (f s)) = 3 by rw [w3]; rfl)]
      refine ⟨_, rfl, hA2, ?_, ?_, ?_⟩
      · rw [sI_o (by omega), sI_o (by omega), f3]
      · rw [sI_o (by omega), sI_s]
      · rw [sI_s, if_pos (by omega)]
    · rw [if_neg (show ¬ nI (bz (f s)) = (3 : Int32) from fun e => w3 ((nI_k (d := 3) (by omega) (by decide)).mp e))]
      by_cases w4 : bz (f s) = 4
      · rw [if_pos (show nI (bz (f s)) = 4 by rw [w4]; rfl)]
        refine ⟨_, rfl, hA2, ?_, ?_, ?_⟩
        · rw [sI_o (by omega), sI_o (by omega), f3]
        · rw [sI_o (by omega), sI_s]
        · rw [sI_s, if_pos (by omega)]
      · rw [if_neg (show ¬ nI (bz (f s)) = (4 : Int32) from fun e => w4 ((nI_k (d := 4) (by omega) (by decide)).mp e)), adv134 (TC_fr hA2 hT) ⟨hz, hf⟩ w (by rw [sI_o (by omega), sI_s]) sI_s hN]
        refine ⟨_, rfl, hA2.sI _ (by omega), ?_, ?_, ?_⟩
        · rw [sI_o (by omega), sI_o (by omega), sI_o (by omega), f3]
        · rw [sI_o (by omega), sI_o (by omega), sI_s]
        · rw [sI_s, if_neg (by omega)]
  · rw [if_pos (nI_le (by omega) (by omega)), nm_eq, if_neg w, if_neg w]
    refine ⟨_, rfl, hA1.sI _ (by omega), ?_, ?_, ?_⟩
    · rw [sI_o (by omega), f3]
    · rw [sI_s]; rfl
    · rw [sI_o (by omega), sI_s]
theorem adv_s {N : Nat} {M : Mem} {q z p : Nat} {f : Nat → Nat} (hT : TC q z f M) (hB : TBy z f) (hp : p ≤ z) (e4 : M.1 q 4 = nI p) (hN : 4097 < N) :
    ∃ M', fX1_advance N M q = some M' ∧ AF M M' q ∧ M'.1 q 3 = nI (tS z f p) ∧ M'.1 q 2 = nI (tO z f p) ∧ M'.1 q 4 = nI (tE z f p) := by
  have hB' := hB
  obtain ⟨hz, hf⟩ := hB
  unfold fX1_advance
  rw [e4, nm_eq]
  obtain ⟨r, hr⟩ : ∃ r, r = fa_first (fun i => decide (f (p + i) ≠ 32)) (z - p) := ⟨_, rfl⟩
  have hle := fa_first_le (fun i => decide (f (p + i) ≠ 32)) (z - p)
  rw [← hr] at hle
  have hs : tS z f p = p + r := by unfold tS; rw [← hr]
  obtain ⟨k, Mw, ⟨hA, h3⟩, e⟩ := lpI (fun k (w : Mem) => fX1_advance_8 N q k w) (fun j w => AF M w q ∧ w.1 q 3 = nI (p + j)) r (fun k i w hi hw => by
    obtain ⟨hA, h3⟩ := hw
    have hno := fa_first_no (fun i => decide (f (p + i) ≠ 32)) (z - p) i (by omega)
    have he : f (p + i) = 32 := Decidable.not_not.mp (of_decide_eq_false hno)
    refine ⟨sI w q 3 (nI (p + i) + 1), ⟨hA.sI _ (by omega), by rw [sI_s, nI_1]; rfl⟩, ?_⟩
    show fX1_advance_8 N q (k + 1) w = fX1_advance_8 N q k _
    rw [adv_8, h3, (TC_fr hA hT).1, if_neg (nI_ge (by omega) (by omega)), if_neg (show ¬ (160 : Int32) ≤ nI (p + i) from nI_ge (b := 160) (by omega) (by decide)), gd_nI (by omega) (by decide), nI_clamp (by omega), (TC_fr hA hT).2 _ (by omega), if_pos ((nI_32 (hf _ (by omega))).mpr he), nm_eq]) (N := N) (by omega) (s0 := sI M q 3 (nI p)) ⟨(AF.rf M q).sI _ (by omega), sI_s⟩
  have hTw := TC_fr hA hT
  obtain ⟨M', a1, a2, a3, a4, a5⟩ := advT_c (N := N) hTw hB' (show p + r ≤ z by omega) h3 hN
  refine ⟨M', ?_, ⟨fun x i h => by rw [a2.1 x i h, hA.1 x i h], by rw [a2.2, hA.2]⟩, by rw [hs]; exact a3, ?_, ?_⟩
  · refine e.trans ?_
    show fX1_advance_8 N q (k + 1) Mw = _
    rw [adv_8, h3, hTw.1]
    by_cases w : p + r < z
    · have hyes := fa_first_yes (fun i => decide (f (p + i) ≠ 32)) (z - p) (by omega)
      rw [← hr] at hyes
      have he : f (p + r) ≠ 32 := of_decide_eq_true hyes
      rw [if_neg (nI_ge w (by omega)), if_neg (show ¬ (160 : Int32) ≤ nI (p + r) from nI_ge (b := 160) (by omega) (by decide)), gd_nI (by omega) (by decide), nI_clamp (by omega), hTw.2 _ w, if_neg (fun e => he ((nI_32 (hf _ w)).mp e)), a1]
    · rw [if_pos (nI_le (by omega) (by omega)), a1]
  · unfold tO; rw [hs]; exact a4
  · unfold tE; rw [hs]; exact a5
