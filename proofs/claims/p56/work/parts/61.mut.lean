/-! ===== the law's changes: the class's call, and the reference's beside it, that is nowhere ===== -/
/-- between two acts: the tape is empty -/
def LI (M : Mem) : Prop := (∃ kp, Inv kp 0 119 M) ∧ M.1 119 8 = 0
/-- while a street is told: there are k of them -/
def LFd (k : Nat) (M : Mem) : Prop := (∃ kp, Inv kp 0 119 M) ∧ M.1 119 10 = nI k
def DnE (M1 M2 : Mem) : Prop := ∀ x, x < 119 → M2.1 x = M1.1 x ∧ M2.2 x = M1.2 x
theorem Fr_dn {k : Nat} {M1 M2 : Mem} (h : Fr k M1 M2) : DnE M1 M2 := fun x hx => ⟨funext fun i => h.1 x i (Or.inl hx), funext fun i => h.2 x i hx⟩
theorem LI_k {M : Mem} (h : LI M) : ∃ k, k ≤ 4 ∧ M.1 (0 + 4) 3 = nI k ∧ LFd k M := by
  obtain ⟨⟨kp, hI⟩, -⟩ := h
  obtain ⟨k, hk, e1, e2, -⟩ := hI.2.2.2.2.1.1
  exact ⟨k, hk, e1, ⟨kp, hI⟩, e2⟩
theorem LI_tape {M : Mem} (h : LI M) : M.1 (0 + 2) 1 = 0 := by
  obtain ⟨⟨kp, hI⟩, e⟩ := h
  obtain ⟨z, hz, t1, t2, -⟩ := hI.2.2.1
  rw [t1, ← t2]
  exact e
theorem lm {k : Nat} {v : Int32} {M : Mem} {X : Option (Int32 × Mem)} {Y : Mem → Option (Int32 × Mem)} {kp : Int32} (hO : Op kp 0 119 M X Y) (hF : ∀ M1, FG k Prod.snd M1 (Y M1)) (e : M.1 119 k = v) : ∃ r M1 M2, X = some (r, M1) ∧ DnE M1 M2 ∧ Inv kp 0 119 M2 ∧ M2.1 119 k = v := by
  obtain ⟨r, M1, M2, h1, h2, h3, h4⟩ := hO
  have f : Fr k M1 M2 := hF M1 _ h3
  exact ⟨r, M1, M2, h1, Fr_dn f, h4, by rw [f.1 119 k (Or.inr ⟨rfl, rfl⟩), (h2 119 k (Nat.le_refl _)).1, e]⟩
theorem hN0 : 4097 < 4098 := Nat.lt_succ_self _
theorem lm_alter {M : Mem} (h : LI M) (v1 v2 v3 v4 : Int32) : ∃ r M1 M2, fX6_alter 4098 M 0 v1 v2 v3 v4 = some (r, M1) ∧ DnE M1 M2 ∧ LI M2 := by
  obtain ⟨⟨kp, hI⟩, ht⟩ := h
  obtain ⟨r, M1, M2, h1, h2, h3, h4⟩ := lm (k := 8) (op_alter hI v1 v2 v3 v4) (fun M1 => fr_X7_alter (Nat.le_refl 119) (Fr_rf 8 M1)) ht
  exact ⟨r, M1, M2, h1, h2, ⟨kp, h3⟩, h4⟩
theorem lm_tie {M : Mem} (h : LI M) (v1 v2 v3 v4 : Int32) : ∃ r M1 M2, fX6_tie 4098 M 0 v1 v2 v3 v4 = some (r, M1) ∧ DnE M1 M2 ∧ LI M2 := by
  obtain ⟨⟨kp, hI⟩, ht⟩ := h
  obtain ⟨r, M1, M2, h1, h2, h3, h4⟩ := lm (k := 8) (op_tie hI v1 v2 v3 v4) (fun M1 => fr_X7_tie (Nat.le_refl 119) (Fr_rf 8 M1)) ht
  exact ⟨r, M1, M2, h1, h2, ⟨kp, h3⟩, h4⟩
theorem lm_must {M : Mem} (h : LI M) (v1 v2 v3 : Int32) : ∃ r M1 M2, fX6_must 4098 M 0 v1 v2 v3 = some (r, M1) ∧ DnE M1 M2 ∧ LI M2 := by
  obtain ⟨⟨kp, hI⟩, ht⟩ := h
  obtain ⟨r, M1, M2, h1, h2, h3, h4⟩ := lm (k := 8) (op_must hI v1 v2 v3) (fun M1 => fr_X7_must (Nat.le_refl 119) (Fr_rf 8 M1)) ht
  exact ⟨r, M1, M2, h1, h2, ⟨kp, h3⟩, h4⟩
theorem lm_row {M : Mem} (h : LI M) (v1 v2 v3 : Int32) : ∃ r M1 M2, fX6_row 4098 M 0 v1 v2 v3 = some (r, M1) ∧ DnE M1 M2 ∧ LI M2 := by
  obtain ⟨⟨kp, hI⟩, ht⟩ := h
  obtain ⟨r, M1, M2, h1, h2, h3, h4⟩ := lm (k := 8) (op_row hI hN0 v1 v2 v3) (fun M1 => fr_X7_row (Nat.le_refl 119) (Fr_rf 8 M1)) ht
  exact ⟨r, M1, M2, h1, h2, ⟨kp, h3⟩, h4⟩
theorem lm_set {M : Mem} (h : LI M) (v1 v2 : Int32) (v3 : Int64) : ∃ r M1 M2, fX6_set 4098 M 0 v1 v2 v3 = some (r, M1) ∧ DnE M1 M2 ∧ LI M2 := by
  obtain ⟨⟨kp, hI⟩, ht⟩ := h
  obtain ⟨r, M1, M2, h1, h2, h3, h4⟩ := lm (k := 8) (op_set_ hI v1 v2 v3) (fun M1 => fr_X7_set (Nat.le_refl 119) (Fr_rf 8 M1)) ht
  exact ⟨r, M1, M2, h1, h2, ⟨kp, h3⟩, h4⟩
theorem lm_way {M : Mem} (h : LI M) (v1 v2 v3 : Int32) : ∃ r M1 M2, fX6_way 4098 M 0 v1 v2 v3 = some (r, M1) ∧ DnE M1 M2 ∧ LI M2 := by
  obtain ⟨⟨kp, hI⟩, ht⟩ := h
  obtain ⟨r, M1, M2, h1, h2, h3, h4⟩ := lm (k := 8) (op_way hI hN0 v1 v2 v3) (fun M1 => fr_X7_way (Nat.le_refl 119) (Fr_rf 8 M1)) ht
  exact ⟨r, M1, M2, h1, h2, ⟨kp, h3⟩, h4⟩
theorem lm_take {M : Mem} (h : LI M) (v1 v2 v3 : Int32) : ∃ r M1 M2, fX6_take 4098 M 0 v1 v2 v3 = some (r, M1) ∧ DnE M1 M2 ∧ LI M2 := by
  obtain ⟨⟨kp, hI⟩, ht⟩ := h
  obtain ⟨r, M1, M2, h1, h2, h3, h4⟩ := lm (k := 8) (op_take hI v1 v2 v3) (fun M1 => fr_X7_take (Nat.le_refl 119) (Fr_rf 8 M1)) ht
  exact ⟨r, M1, M2, h1, h2, ⟨kp, h3⟩, h4⟩
theorem lm_come {M : Mem} (h : LI M) (v1 v2 v3 v4 : Int32) : ∃ r M1 M2, fX6_come 4098 M 0 v1 v2 v3 v4 = some (r, M1) ∧ DnE M1 M2 ∧ LI M2 := by
  obtain ⟨⟨kp, hI⟩, ht⟩ := h
  obtain ⟨r, M1, M2, h1, h2, h3, h4⟩ := lm (k := 8) (op_come hI hN0 v1 v2 v3 v4) (fun M1 => fr_X7_come (Nat.le_refl 119) (Fr_rf 8 M1)) ht
  exact ⟨r, M1, M2, h1, h2, ⟨kp, h3⟩, h4⟩
theorem lm_begin {M : Mem} (h : LI M) (v1 : Int32) : ∃ r M1 M2, fX6_begin 4098 M 0 v1 = some (r, M1) ∧ DnE M1 M2 ∧ LI M2 := by
  obtain ⟨⟨kp, hI⟩, ht⟩ := h
  obtain ⟨r, M1, M2, h1, h2, h3, h4⟩ := lm (k := 8) (op_begin hI hN0 v1) (fun M1 => fr_X7_begin (Nat.le_refl 119) (by decide) (Fr_rf 8 M1)) ht
  exact ⟨r, M1, M2, h1, h2, ⟨kp, h3⟩, h4⟩
theorem lm_step {M : Mem} (h : LI M) (v1 : Int32) : ∃ r M1 M2, fX6_step 4098 M 0 v1 = some (r, M1) ∧ DnE M1 M2 ∧ LI M2 := by
  obtain ⟨⟨kp, hI⟩, ht⟩ := h
  obtain ⟨r, M1, M2, h1, h2, h3, h4⟩ := lm (k := 8) (op_step hI hN0 v1) (fun M1 => fr_X7_step (Nat.le_refl 119) (by decide) (Fr_rf 8 M1)) ht
  exact ⟨r, M1, M2, h1, h2, ⟨kp, h3⟩, h4⟩
theorem lm_doers {M : Mem} (h : LI M) (v1 v2 : Int32) : ∃ r M1 M2, fX6_doers 4098 M 0 v1 v2 = some (r, M1) ∧ DnE M1 M2 ∧ LI M2 := by
  obtain ⟨⟨kp, hI⟩, ht⟩ := h
  obtain ⟨r, M1, M2, h1, h2, h3, h4⟩ := lm (k := 8) (op_doers hI hN0 v1 v2) (fun M1 => fr_X7_doers (Nat.le_refl 119) (by decide) (Fr_rf 8 M1)) ht
  exact ⟨r, M1, M2, h1, h2, ⟨kp, h3⟩, h4⟩
theorem lm_know {M : Mem} (h : LI M) (v1 v2 : Int32) : ∃ r M1 M2, fX6_know 4098 M 0 v1 v2 = some (r, M1) ∧ DnE M1 M2 ∧ LI M2 := by
  obtain ⟨⟨kp, hI⟩, ht⟩ := h
  obtain ⟨r, M1, M2, h1, h2, h3, h4⟩ := lm (k := 8) (op_know hI v1 v2) (fun M1 => fr_X7_know (Nat.le_refl 119) (Fr_rf 8 M1)) ht
  exact ⟨r, M1, M2, h1, h2, ⟨kp, h3⟩, h4⟩
theorem lm_back {M : Mem} (h : LI M) : ∃ r M1 M2, fX6_back 4098 M 0  = some (r, M1) ∧ DnE M1 M2 ∧ LI M2 := by
  obtain ⟨⟨kp, hI⟩, ht⟩ := h
  obtain ⟨r, M1, M2, h1, h2, h3, h4⟩ := lm (k := 8) (op_back hI hN0 ) (fun M1 => fr_X7_back (Nat.le_refl 119) (by decide) (Fr_rf 8 M1)) ht
  exact ⟨r, M1, M2, h1, h2, ⟨kp, h3⟩, h4⟩
theorem lm_streetOf {M : Mem} (h : LI M) (v1 v2 : Int32) : ∃ r M1 M2, fX6_streetOf 4098 M 0 v1 v2 = some (r, M1) ∧ DnE M1 M2 ∧ LI M2 := by
  obtain ⟨⟨kp, hI⟩, ht⟩ := h
  obtain ⟨r, M1, M2, h1, h2, h3, h4⟩ := lm (k := 8) (op_streetOf hI hN0 v1 v2) (fun M1 => fr_X7_streetOf (Nat.le_refl 119) (Fr_rf 8 M1)) ht
  exact ⟨r, M1, M2, h1, h2, ⟨kp, h3⟩, h4⟩
theorem lm_feed {M : Mem} {k : Nat} (h : LFd k M) (v1 v2 : Int32) : ∃ r M1 M2, fX6_feed 4098 M 0 v1 v2 = some (r, M1) ∧ DnE M1 M2 ∧ LFd k M2 := by
  obtain ⟨⟨kp, hI⟩, ht⟩ := h
  obtain ⟨r, M1, M2, h1, h2, h3, h4⟩ := lm (k := 10) (op_feed hI hN0 v1 v2) (fun M1 => fr_X7_feed (Nat.le_refl 119) (by decide) (Fr_rf 10 M1)) ht
  exact ⟨r, M1, M2, h1, h2, ⟨kp, h3⟩, h4⟩
theorem street_8 {N : Nat} {M M2 : Mem} {r : Int32} {k : Nat} (hk : k < 4) (e : M.1 119 10 = nI k) (h : fX7_street N M 119 = some (r, M2)) : M2.1 119 8 = 0 := by
  unfold fX7_street at h
  have hn4 : ¬ M.1 119 10 = (4 : Int32) := fun q => by
    rw [e] at q
    have := (nI_eq (b := 4) (by omega) (by decide)).mp q
    omega
  rw [if_neg hn4] at h
  obtain ⟨r2, -, h⟩ := bd_y h
  rw [nm_eq] at h
  by_cases q : r2.1 = 0
  · rw [if_pos q, rfM2, bd_some] at h
    have e2 := (Prod.mk.inj (Option.some.inj h)).2
    rw [← e2, rM_o (by decide), sI_s]
  · rw [if_neg q, nm_eq] at h
    have e2 := (Prod.mk.inj (Option.some.inj h)).2
    rw [← e2, sI_o (by decide), sI_s]
theorem lm_street {M : Mem} {k : Nat} (h : LFd k M) (hk : k < 4) : ∃ r M1 M2, fX6_street 4098 M 0 = some (r, M1) ∧ DnE M1 M2 ∧ LI M2 := by
  obtain ⟨⟨kp, hI⟩, ht⟩ := h
  obtain ⟨r, M1, M2, h1, h2, h3, h4⟩ := op_street hI hN0
  have f : Fr 999 M1 M2 := fr_X7_street (Nat.le_refl 119) (by decide) (Fr_rf 999 M1) _ h3
  exact ⟨r, M1, M2, h1, Fr_dn f, ⟨kp, h4⟩, street_8 hk (by rw [(h2 119 10 (Nat.le_refl _)).1, ht]) h3⟩
theorem lm_image {M : Mem} (h : LI M) : ∃ r M1 M2, fX6_image 4098 M 0 = some (r, M1) ∧ DnE M1 M2 ∧ LI M2 := by
  obtain ⟨⟨kp, hI⟩, ht⟩ := h
  obtain ⟨k4, hk4, e1, hc, hu⟩ := image_c (N := 4098) hI hN0
  obtain ⟨Mi, hMi⟩ : ∃ Mi, Mi = sI (cpR M (0 + 48) (0 + 4) (TB k4)) 0 7 1 := ⟨_, rfl⟩
  rw [← hMi] at hc hu
  have hi2 : ∀ x i, Mi.2 x i = M.2 x i := fun x i => by rw [hMi]; rfl
  obtain ⟨M3, h3, hI3⟩ := image_m (N := 4098) (M2 := sI Mi 119 26 1) hI hk4 e1 (fun x i h1 h2 => by rw [sI_o (by omega), hMi]) (fun x i _ => hi2 x i) sI_s hN0
  have f : Fr 8 Mi M3 := fr_X7_takeFrom (k := 8) (a := 119 + 59) (by decide) (by decide) (Fr_sI (Fr_rf 8 Mi) (by decide)) _ h3
  exact ⟨1, Mi, M3, hc, Fr_dn f, ⟨1, hI3⟩, by rw [f.1 119 8 (Or.inr ⟨rfl, rfl⟩), (hu 119 8 (Nat.le_refl _)).1, ht]⟩
/-- the two calls that are refused -/
theorem lm_ref {M : Mem} (h : LI M) : LI (rM 119 (rC 0 M 2) 2) ∧ DnE (rC 0 M 2) (rM 119 (rC 0 M 2) 2) := by
  obtain ⟨⟨kp, hI⟩, ht⟩ := h
  refine ⟨⟨⟨kp, Inv_ref hI (by decide) (by decide)⟩, ?_⟩, fun x hx => ⟨funext fun i => rM_o (by omega), rfl⟩⟩
  rw [rM_o (by decide), rC_o (by decide)]
  exact ht
