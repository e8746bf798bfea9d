/-! ===== what the reference leaves as it was: the cells below 119, and one field of its own ===== -/
def Fr (k : Nat) (M M' : Mem) : Prop := (∀ x i, (x < 119 ∨ (x = 119 ∧ i = k)) → M'.1 x i = M.1 x i) ∧ ∀ x i, x < 119 → M'.2 x i = M.2 x i
def FG {α : Type} (k : Nat) (g : α → Mem) (M0 : Mem) (X : Option α) : Prop := ∀ o, X = some o → Fr k M0 (g o)
theorem Fr_rf (k : Nat) (M : Mem) : Fr k M M := ⟨fun _ _ _ => rfl, fun _ _ _ => rfl⟩
theorem Fr_sI {k : Nat} {M0 M : Mem} {a i : Nat} {v : Int32} (h : Fr k M0 M) (ha : 119 ≤ a ∧ (a = 119 → i ≠ k)) : Fr k M0 (sI M a i v) := ⟨fun x j q => by rw [sI_o (by omega)]; exact h.1 x j q, h.2⟩
theorem Fr_sJ {k : Nat} {M0 M : Mem} {a i : Nat} {v : Int64} (h : Fr k M0 M) (ha : 119 ≤ a) : Fr k M0 (sJ M a i v) := ⟨h.1, fun x j q => by rw [sJ_o (by omega)]; exact h.2 x j q⟩
section FGS
variable {α β : Type} {k : Nat} {g : α → Mem} {M0 : Mem}
theorem FG_none : FG k g M0 none := fun o h => by cases h
theorem FG_some {o : α} (h : Fr k M0 (g o)) : FG k g M0 (some o) := fun q e => by cases e; exact h
theorem FG_ite {c : Prop} [Decidable c] {A B : Option α} (h1 : FG k g M0 A) (h2 : FG k g M0 B) : FG k g M0 (if c then A else B) := by
  by_cases q : c
  · rw [if_pos q]; exact h1
  · rw [if_neg q]; exact h2
theorem FG_gd {i : Int32} {n : Nat} {A : Option α} (h : FG k g M0 A) : FG k g M0 (gd i n A) := fun o e => h o (gd_y e).2
theorem FG_gc {c : Prop} [Decidable c] {A : Option α} (h : FG k g M0 A) : FG k g M0 (gc c A) := fun o e => h o (gc_y e).2
theorem FG_nm {x : β} {K : β → Option α} (h : ∀ y, FG k g M0 (K y)) : FG k g M0 (nm x K) := h x
theorem FG_nmM {x : Mem} {K : Mem → Option α} (h : Fr k M0 x) (h2 : ∀ y, Fr k M0 y → FG k g M0 (K y)) : FG k g M0 (nm x K) := h2 x h
theorem FG_bd {X : Option β} {K : β → Option α} (h : ∀ r, FG k g M0 (K r)) : FG k g M0 (bd X K) := fun o e => by
  obtain ⟨r, -, e2⟩ := bd_y e
  exact h r o e2
theorem FG_bdG {f : β → Mem} {X : Option β} {K : β → Option α} (h : FG k f M0 X) (h2 : ∀ r, Fr k M0 (f r) → FG k g M0 (K r)) : FG k g M0 (bd X K) := fun o e => by
  obtain ⟨r, e1, e2⟩ := bd_y e
  exact h2 r (h r e1) o e2
end FGS
theorem fr_X7_refuse {k : Nat} {M0 M : Mem} {N : Nat} {a : Nat} {v1 : Int32} (ha : 119 ≤ a) (hM : Fr k M0 M) : FG k Prod.snd M0 (fX7_refuse N M a v1) := by
  unfold fX7_refuse
  refine FG_gd ?_
  refine FG_nmM (Fr_sI hM (by omega)) (fun M2 h_M2 => ?_)
  exact FG_some h_M2
theorem fr_X7_row_67 {k : Nat} {M0 : Mem} {N : Nat} {a : Nat} {u1 : Int32} (ha : 119 ≤ a) : ∀ (n : Nat) (Mw : Mem) (w4 : Int32), Fr k M0 Mw → FG k Prod.snd M0 (fX7_row_67 N a u1 n Mw w4) := by
  intro n
  induction n with
  | zero => intro Mw w4 h_Mw o h; cases h
  | succ n ih =>
    intro Mw w4 h_Mw
    rw [fX7_row_67]
    refine FG_ite ?_ ?_
    · skip
      exact FG_some h_Mw
    · skip
      refine FG_gd ?_
      refine FG_gd ?_
      refine FG_nmM (Fr_sJ h_Mw (by omega)) (fun M4 h_M4 => ?_)
      exact ih _ _ h_M4
theorem fr_X7_row {k : Nat} {M0 M : Mem} {N : Nat} {a : Nat} {v1 : Int32} {v2 : Int32} {v3 : Int32} (ha : 119 ≤ a) (hM : Fr k M0 M) : FG k Prod.snd M0 (fX7_row N M a v1 v2 v3) := by
  unfold fX7_row
  refine FG_bd (fun r1 => ?_)
  refine FG_ite ?_ ?_
  · skip
    refine FG_bdG (fr_X7_refuse (by omega) hM) (fun r3 h_r3 => ?_)
    exact FG_some h_r3
  · skip
    refine FG_bd (fun r4 => ?_)
    refine FG_ite ?_ ?_
    · skip
      refine FG_bdG (fr_X7_refuse (by omega) hM) (fun r6 h_r6 => ?_)
      exact FG_some h_r6
    · skip
      refine FG_bd (fun r7 => ?_)
      refine FG_ite ?_ ?_
      · skip
        refine FG_bdG (fr_X7_refuse (by omega) hM) (fun r13 h_r13 => ?_)
        exact FG_some h_r13
      · skip
        refine FG_gd ?_
        refine FG_nmM (Fr_sI hM (by omega)) (fun M10 h_M10 => ?_)
        refine FG_nmM (Fr_sI h_M10 (by omega)) (fun M11 h_M11 => ?_)
        refine FG_nmM (Fr_sI h_M11 (by omega)) (fun M12 h_M12 => ?_)
        exact fr_X7_row_67 (by omega) _ _ _ h_M12
theorem fr_X7_set {k : Nat} {M0 M : Mem} {N : Nat} {a : Nat} {v1 : Int32} {v2 : Int32} {v3 : Int64} (ha : 119 ≤ a) (hM : Fr k M0 M) : FG k Prod.snd M0 (fX7_set N M a v1 v2 v3) := by
  unfold fX7_set
  refine FG_bd (fun r1 => ?_)
  refine FG_ite ?_ ?_
  · skip
    refine FG_bdG (fr_X7_refuse (by omega) hM) (fun r14 h_r14 => ?_)
    exact FG_some h_r14
  · skip
    refine FG_gd ?_
    refine FG_ite ?_ ?_
    · skip
      refine FG_bdG (fr_X7_refuse (by omega) hM) (fun r13 h_r13 => ?_)
      exact FG_some h_r13
    · skip
      refine FG_ite ?_ ?_
      · skip
        refine FG_bdG (fr_X7_refuse (by omega) hM) (fun r12 h_r12 => ?_)
        exact FG_some h_r12
      · skip
        refine FG_bd (fun r6 => ?_)
        refine FG_ite ?_ ?_
        · skip
          refine FG_bdG (fr_X7_refuse (by omega) hM) (fun r11 h_r11 => ?_)
          exact FG_some h_r11
        · skip
          refine FG_bd (fun r8 => ?_)
          refine FG_gd ?_
          refine FG_nmM (Fr_sJ hM (by omega)) (fun M10 h_M10 => ?_)
          exact FG_some h_M10
theorem fr_X7_way_86 {k : Nat} {M0 M : Mem} {N : Nat} {a : Nat} {u1 : Int32} {u2 : Int32} {u3 : Int32} (ha : 119 ≤ a) (hM : Fr k M0 M) : ∀ (n : Nat) (w4 : Int32) (w5 : Int32), FG k Prod.snd M0 (fX7_way_86 N M a u1 u2 u3 n w4 w5) := by
  intro n
  induction n with
  | zero => intro w4 w5 o h; cases h
  | succ n ih =>
    intro w4 w5
    rw [fX7_way_86]
    refine FG_gd ?_
    refine FG_ite ?_ ?_
    · skip
      refine FG_gd ?_
      refine FG_nmM (Fr_sI hM (by omega)) (fun M4 h_M4 => ?_)
      refine FG_nmM (Fr_sI h_M4 (by omega)) (fun M5 h_M5 => ?_)
      refine FG_nmM (Fr_sI h_M5 (by omega)) (fun M6 h_M6 => ?_)
      exact FG_some h_M6
    · skip
      refine FG_ite ?_ ?_
      · skip
        refine FG_gd ?_
        refine FG_nmM (Fr_sI hM (by omega)) (fun M9 h_M9 => ?_)
        refine FG_nmM (Fr_sI h_M9 (by omega)) (fun M10 h_M10 => ?_)
        refine FG_nmM (Fr_sI h_M10 (by omega)) (fun M11 h_M11 => ?_)
        exact FG_some h_M11
      · skip
        refine FG_gd ?_
        refine FG_ite ?_ ?_
        · skip
          refine FG_nm (fun x14 => ?_)
          exact ih _ _
        · skip
          refine FG_nm (fun x15 => ?_)
          exact ih _ _
theorem fr_X7_way {k : Nat} {M0 M : Mem} {N : Nat} {a : Nat} {v1 : Int32} {v2 : Int32} {v3 : Int32} (ha : 119 ≤ a) (hM : Fr k M0 M) : FG k Prod.snd M0 (fX7_way N M a v1 v2 v3) := by
  unfold fX7_way
  refine FG_bd (fun r1 => ?_)
  refine FG_ite ?_ ?_
  · skip
    refine FG_bdG (fr_X7_refuse (by omega) hM) (fun r3 h_r3 => ?_)
    exact FG_some h_r3
  · skip
    refine FG_bd (fun r4 => ?_)
    refine FG_ite ?_ ?_
    · skip
      refine FG_bdG (fr_X7_refuse (by omega) hM) (fun r6 h_r6 => ?_)
      exact FG_some h_r6
    · skip
      refine FG_bd (fun r7 => ?_)
      refine FG_ite ?_ ?_
      · skip
        refine FG_bdG (fr_X7_refuse (by omega) hM) (fun r19 h_r19 => ?_)
        exact FG_some h_r19
      · skip
        refine FG_ite ?_ ?_
        · skip
          refine FG_gd ?_
          refine FG_ite ?_ ?_
          · skip
            refine FG_bdG (fr_X7_refuse (by omega) hM) (fun r18 h_r18 => ?_)
            exact FG_some h_r18
          · skip
            refine FG_ite ?_ ?_
            · skip
              refine FG_bdG (fr_X7_refuse (by omega) hM) (fun r17 h_r17 => ?_)
              exact FG_some h_r17
            · skip
              exact fr_X7_way_86 (by omega) hM _ _ _
        · skip
          refine FG_gd ?_
          refine FG_nmM (Fr_sI hM (by omega)) (fun M11 h_M11 => ?_)
          refine FG_nmM (Fr_sI h_M11 (by omega)) (fun M12 h_M12 => ?_)
          refine FG_nmM (Fr_sI h_M12 (by omega)) (fun M13 h_M13 => ?_)
          exact FG_some h_M13
theorem fr_X7_feed_42 {k : Nat} {M0 : Mem} {N : Nat} {a : Nat} {u1 : Int32} (ha : 119 ≤ a) (hk : k ≠ 8) : ∀ (n : Nat) (Mw : Mem) (w3 : Int32), Fr k M0 Mw → FG k Prod.snd M0 (fX7_feed_42 N a u1 n Mw w3) := by
  intro n
  induction n with
  | zero => intro Mw w3 h_Mw o h; cases h
  | succ n ih =>
    intro Mw w3 h_Mw
    rw [fX7_feed_42]
    refine FG_ite ?_ ?_
    · skip
      exact FG_some h_Mw
    · skip
      refine FG_nmM (Fr_sI h_Mw (by omega)) (fun M2 h_M2 => ?_)
      refine FG_gd ?_
      refine FG_nmM (Fr_sI h_M2 (by omega)) (fun M4 h_M4 => ?_)
      exact ih _ _ h_M4
theorem fr_X7_feed {k : Nat} {M0 M : Mem} {N : Nat} {a : Nat} {v1 : Int32} {v2 : Int32} (ha : 119 ≤ a) (hk : k ≠ 8) (hM : Fr k M0 M) : FG k Prod.snd M0 (fX7_feed N M a v1 v2) := by
  unfold fX7_feed
  refine FG_bd (fun r1 => ?_)
  refine FG_ite ?_ ?_
  · skip
    refine FG_bdG (fr_X7_refuse (by omega) hM) (fun r6 h_r6 => ?_)
    exact FG_some h_r6
  · skip
    refine FG_ite ?_ ?_
    · skip
      refine FG_nm (fun x4 => ?_)
      exact fr_X7_feed_42 (by omega) (by omega) _ _ _ hM
    · skip
      refine FG_bdG (fr_X7_refuse (by omega) hM) (fun r5 h_r5 => ?_)
      exact FG_some h_r5
theorem fr_X7_look_149 {k : Nat} {M0 : Mem} {N : Nat} {a : Nat} (ha : 119 ≤ a) (hk : k ≠ 27) : ∀ (n : Nat) (Mw : Mem), Fr k M0 Mw → FG k id M0 (fX7_look_149 N a n Mw) := by
  intro n
  induction n with
  | zero => intro Mw h_Mw o h; cases h
  | succ n ih =>
    intro Mw h_Mw
    rw [fX7_look_149]
    refine FG_ite ?_ ?_
    · skip
      exact FG_some h_Mw
    · skip
      refine FG_gd ?_
      refine FG_bd (fun r3 => ?_)
      refine FG_ite ?_ ?_
      · skip
        exact FG_some h_Mw
      · skip
        refine FG_ite ?_ ?_
        · skip
          refine FG_nmM (Fr_sJ h_Mw (by omega)) (fun M6 h_M6 => ?_)
          refine FG_nmM (Fr_sI h_M6 (by omega)) (fun M7 h_M7 => ?_)
          exact ih _ h_M7
        · skip
          refine FG_nmM (Fr_sJ h_Mw (by omega)) (fun M8 h_M8 => ?_)
          refine FG_nmM (Fr_sI h_M8 (by omega)) (fun M9 h_M9 => ?_)
          exact ih _ h_M9
theorem fr_X7_look_90 {k : Nat} {M0 : Mem} {N : Nat} {a : Nat} (ha : 119 ≤ a) (hk : k ≠ 27) : ∀ (n : Nat) (Mw : Mem), Fr k M0 Mw → FG k id M0 (fX7_look_90 N a n Mw) := by
  intro n
  induction n with
  | zero => intro Mw h_Mw o h; cases h
  | succ n ih =>
    intro Mw h_Mw
    rw [fX7_look_90]
    refine FG_ite ?_ ?_
    · skip
      exact FG_some h_Mw
    · skip
      refine FG_gd ?_
      refine FG_bd (fun r3 => ?_)
      refine FG_ite ?_ ?_
      · skip
        exact FG_some h_Mw
      · skip
        refine FG_nmM (Fr_sI h_Mw (by omega)) (fun M5 h_M5 => ?_)
        exact ih _ h_M5
theorem fr_X7_look_0 {k : Nat} {M0 : Mem} {N : Nat} {a : Nat} (ha : 119 ≤ a) (hk : k ≠ 27 ∧ k ≠ 28 ∧ k ≠ 29) : ∀ (n : Nat) (Mw : Mem), Fr k M0 Mw → FG k id M0 (fX7_look_0 N a n Mw) := by
  intro n
  induction n with
  | zero => intro Mw h_Mw o h; cases h
  | succ n ih =>
    intro Mw h_Mw
    rw [fX7_look_0]
    refine FG_ite ?_ ?_
    · skip
      refine FG_nmM (Fr_sI h_Mw (by omega)) (fun M2 h_M2 => ?_)
      refine FG_nmM (Fr_sJ h_M2 (by omega)) (fun M3 h_M3 => ?_)
      refine FG_ite ?_ ?_
      · skip
        refine FG_nmM (Fr_sI h_M3 (by omega)) (fun M17 h_M17 => ?_)
        exact FG_some h_M17
      · skip
        refine FG_gd ?_
        refine FG_bd (fun r6 => ?_)
        refine FG_ite ?_ ?_
        · skip
          refine FG_bd (fun r8 => ?_)
          refine FG_ite ?_ ?_
          · skip
            refine FG_ite ?_ ?_
            · skip
              refine FG_nmM (Fr_sI h_M3 (by omega)) (fun M13 h_M13 => ?_)
              refine FG_nmM (Fr_sI h_M13 (by omega)) (fun M14 h_M14 => ?_)
              exact FG_some h_M14
            · skip
              refine FG_nmM (Fr_sI h_M3 (by omega)) (fun M11 h_M11 => ?_)
              refine FG_nmM (Fr_sI h_M11 (by omega)) (fun M12 h_M12 => ?_)
              exact FG_some h_M12
          · skip
            refine FG_nmM (Fr_sI h_M3 (by omega)) (fun M15 h_M15 => ?_)
            exact fr_X7_look_149 (by omega) (by omega) _ _ h_M15
        · skip
          refine FG_nmM (Fr_sI h_M3 (by omega)) (fun M16 h_M16 => ?_)
          exact fr_X7_look_90 (by omega) (by omega) _ _ h_M16
    · skip
      refine FG_gd ?_
      refine FG_ite ?_ ?_
      · skip
        refine FG_nmM (Fr_sI h_Mw (by omega)) (fun M36 h_M36 => ?_)
        exact ih _ h_M36
      · skip
        refine FG_nmM (Fr_sI h_Mw (by omega)) (fun M20 h_M20 => ?_)
        refine FG_nmM (Fr_sJ h_M20 (by omega)) (fun M21 h_M21 => ?_)
        refine FG_ite ?_ ?_
        · skip
          refine FG_nmM (Fr_sI h_M21 (by omega)) (fun M35 h_M35 => ?_)
          exact FG_some h_M35
        · skip
          refine FG_gd ?_
          refine FG_bd (fun r24 => ?_)
          refine FG_ite ?_ ?_
          · skip
            refine FG_bd (fun r26 => ?_)
            refine FG_ite ?_ ?_
            · skip
              refine FG_ite ?_ ?_
              · skip
                refine FG_nmM (Fr_sI h_M21 (by omega)) (fun M31 h_M31 => ?_)
                refine FG_nmM (Fr_sI h_M31 (by omega)) (fun M32 h_M32 => ?_)
                exact FG_some h_M32
              · skip
                refine FG_nmM (Fr_sI h_M21 (by omega)) (fun M29 h_M29 => ?_)
                refine FG_nmM (Fr_sI h_M29 (by omega)) (fun M30 h_M30 => ?_)
                exact FG_some h_M30
            · skip
              refine FG_nmM (Fr_sI h_M21 (by omega)) (fun M33 h_M33 => ?_)
              exact fr_X7_look_149 (by omega) (by omega) _ _ h_M33
          · skip
            refine FG_nmM (Fr_sI h_M21 (by omega)) (fun M34 h_M34 => ?_)
            exact fr_X7_look_90 (by omega) (by omega) _ _ h_M34
theorem fr_X7_look {k : Nat} {M0 M : Mem} {N : Nat} {a : Nat} (ha : 119 ≤ a) (hk : k ≠ 27 ∧ k ≠ 28 ∧ k ≠ 29) (hM : Fr k M0 M) : FG k id M0 (fX7_look N M a) := by
  unfold fX7_look
  exact fr_X7_look_0 (by omega) (by omega) _ _ hM
theorem fr_X7_wrong {k : Nat} {M0 M : Mem} {N : Nat} {a : Nat} (ha : 119 ≤ a) (hk : k ≠ 31) (hM : Fr k M0 M) : FG k Prod.snd M0 (fX7_wrong N M a) := by
  unfold fX7_wrong
  refine FG_nmM (Fr_sI hM (by omega)) (fun M1 h_M1 => ?_)
  exact FG_some h_M1
theorem fr_X7_word {k : Nat} {M0 M : Mem} {N : Nat} {a : Nat} {b1 : Nat} (ha : 119 ≤ a) (hk : k ≠ 27 ∧ k ≠ 28 ∧ k ≠ 29 ∧ k ≠ 31) (hM : Fr k M0 M) : FG k Prod.snd M0 (fX7_word N M a b1) := by
  unfold fX7_word
  refine FG_bd (fun r1 => ?_)
  refine FG_ite ?_ ?_
  · skip
    refine FG_bdG (fr_X7_wrong (by omega) (by omega) hM) (fun r4 h_r4 => ?_)
    refine FG_gc ?_
    exact FG_some h_r4
  · skip
    refine FG_bdG (fr_X7_look (by omega) (by omega) hM) (fun r3 h_r3 => ?_)
    exact FG_some h_r3
theorem fr_X7_number {k : Nat} {M0 M : Mem} {N : Nat} {a : Nat} {v1 : Int32} {v2 : Int32} (ha : 119 ≤ a) (hk : k ≠ 27 ∧ k ≠ 28 ∧ k ≠ 29 ∧ k ≠ 31 ∧ k ≠ 32) (hM : Fr k M0 M) : FG k Prod.snd M0 (fX7_number N M a v1 v2) := by
  unfold fX7_number
  refine FG_ite ?_ ?_
  · skip
    refine FG_bd (fun r4 => ?_)
    refine FG_ite ?_ ?_
    · skip
      refine FG_bdG (fr_X7_wrong (by omega) (by omega) hM) (fun r8 h_r8 => ?_)
      refine FG_gc ?_
      exact FG_some h_r8
    · skip
      refine FG_nmM (Fr_sI hM (by omega)) (fun M6 h_M6 => ?_)
      refine FG_bdG (fr_X7_look (by omega) (by omega) h_M6) (fun r7 h_r7 => ?_)
      exact FG_some h_r7
  · skip
    refine FG_bdG (fr_X7_wrong (by omega) (by omega) hM) (fun r2 h_r2 => ?_)
    refine FG_gc ?_
    exact FG_some h_r2
theorem fr_X7_tieThem {k : Nat} {M0 M : Mem} {N : Nat} {a : Nat} {v1 : Int32} {v2 : Int32} {v3 : Int32} {v4 : Int32} (ha : 119 ≤ a) (hM : Fr k M0 M) : FG k id M0 (fX7_tieThem N M a v1 v2 v3 v4) := by
  unfold fX7_tieThem
  refine FG_gd ?_
  refine FG_gd ?_
  refine FG_nmM (Fr_sI hM (by omega)) (fun M3 h_M3 => ?_)
  refine FG_gd ?_
  refine FG_nmM (Fr_sI h_M3 (by omega)) (fun M5 h_M5 => ?_)
  refine FG_gd ?_
  refine FG_nmM (Fr_sI h_M5 (by omega)) (fun M7 h_M7 => ?_)
  refine FG_gd ?_
  refine FG_nmM (Fr_sI h_M7 (by omega)) (fun M9 h_M9 => ?_)
  exact FG_some h_M9
theorem fr_X7_tieNew {k : Nat} {M0 M : Mem} {N : Nat} {a : Nat} {v1 : Int32} {v2 : Int32} {v3 : Int32} (ha : 119 ≤ a) (hM : Fr k M0 M) : FG k id M0 (fX7_tieNew N M a v1 v2 v3) := by
  unfold fX7_tieNew
  refine FG_ite ?_ ?_
  · skip
    exact FG_some hM
  · skip
    refine FG_gd ?_
    refine FG_gd ?_
    refine FG_ite ?_ ?_
    · skip
      refine FG_bdG (fr_X7_tieThem (by omega) hM) (fun r5 h_r5 => ?_)
      exact FG_some h_r5
    · skip
      exact FG_some hM
theorem fr_X7_tieTold {k : Nat} {M0 M : Mem} {N : Nat} {a : Nat} {v1 : Int32} {v2 : Int32} (ha : 119 ≤ a) (hk : k ≠ 27 ∧ k ≠ 28 ∧ k ≠ 29 ∧ k ≠ 31 ∧ k ≠ 32) (hM : Fr k M0 M) : FG k Prod.snd M0 (fX7_tieTold N M a v1 v2) := by
  unfold fX7_tieTold
  refine FG_bdG (fr_X7_look (by omega) (by omega) hM) (fun r1 h_r1 => ?_)
  refine FG_bdG (fr_X7_number (by omega) (by omega) h_r1) (fun r2 h_r2 => ?_)
  refine FG_ite ?_ ?_
  · skip
    exact FG_some h_r2
  · skip
    refine FG_nm (fun x4 => ?_)
    refine FG_ite ?_ ?_
    · skip
      refine FG_ite ?_ ?_
      · skip
        refine FG_bdG (fr_X7_wrong (by omega) (by omega) h_r2) (fun r29 h_r29 => ?_)
        refine FG_gc ?_
        exact FG_some h_r29
      · skip
        refine FG_bdG (fr_X7_number (by omega) (by omega) h_r2) (fun r18 h_r18 => ?_)
        refine FG_ite ?_ ?_
        · skip
          exact FG_some h_r18
        · skip
          refine FG_nm (fun x20 => ?_)
          refine FG_bd (fun r21 => ?_)
          refine FG_ite ?_ ?_
          · skip
            refine FG_bdG (fr_X7_tieThem (by omega) h_r18) (fun r23 h_r23 => ?_)
            exact FG_some h_r23
          · skip
            refine FG_bdG (fr_X7_look (by omega) (by omega) h_r18) (fun r24 h_r24 => ?_)
            refine FG_bdG (fr_X7_number (by omega) (by omega) h_r24) (fun r25 h_r25 => ?_)
            refine FG_ite ?_ ?_
            · skip
              exact FG_some h_r25
            · skip
              refine FG_nm (fun x27 => ?_)
              refine FG_bdG (fr_X7_tieThem (by omega) h_r25) (fun r28 h_r28 => ?_)
              exact FG_some h_r28
    · skip
      refine FG_bdG (fr_X7_number (by omega) (by omega) h_r2) (fun r6 h_r6 => ?_)
      refine FG_ite ?_ ?_
      · skip
        exact FG_some h_r6
      · skip
        refine FG_nm (fun x8 => ?_)
        refine FG_bd (fun r9 => ?_)
        refine FG_ite ?_ ?_
        · skip
          refine FG_bdG (fr_X7_tieThem (by omega) h_r6) (fun r11 h_r11 => ?_)
          exact FG_some h_r11
        · skip
          refine FG_bdG (fr_X7_look (by omega) (by omega) h_r6) (fun r12 h_r12 => ?_)
          refine FG_bdG (fr_X7_number (by omega) (by omega) h_r12) (fun r13 h_r13 => ?_)
          refine FG_ite ?_ ?_
          · skip
            exact FG_some h_r13
          · skip
            refine FG_nm (fun x15 => ?_)
            refine FG_bdG (fr_X7_tieThem (by omega) h_r13) (fun r16 h_r16 => ?_)
            exact FG_some h_r16
theorem fr_X7_statement_69 {k : Nat} {M0 : Mem} {N : Nat} {a : Nat} {g3 : Nat} {u2 : Int32} (ha : 119 ≤ a) (hg3 : 120 ≤ g3) : ∀ (n : Nat) (Mw : Mem) (w4 : Int32), Fr k M0 Mw → FG k Prod.snd M0 (fX7_statement_69 N a g3 u2 n Mw w4) := by
  intro n
  induction n with
  | zero => intro Mw w4 h_Mw o h; cases h
  | succ n ih =>
    intro Mw w4 h_Mw
    rw [fX7_statement_69]
    refine FG_ite ?_ ?_
    · skip
      exact FG_some h_Mw
    · skip
      refine FG_gd ?_
      refine FG_nmM (Fr_sI h_Mw (by omega)) (fun M3 h_M3 => ?_)
      exact ih _ _ h_M3
theorem fr_X7_statement_353 {k : Nat} {M0 : Mem} {N : Nat} {a : Nat} {u1 : Int32} {u2 : Int32} {u3 : Int32} {K373 : Mem → Option (Int32 × Mem)} (ha : 119 ≤ a) (hK373 : ∀ (y0 : Mem), Fr k M0 y0 → FG k Prod.snd M0 (K373 y0)) : ∀ (n : Nat) (Mw : Mem) (w4 : Int32), Fr k M0 Mw → FG k Prod.snd M0 (fX7_statement_353 N a u1 u2 u3 K373 n Mw w4) := by
  intro n
  induction n with
  | zero => intro Mw w4 h_Mw o h; cases h
  | succ n ih =>
    intro Mw w4 h_Mw
    rw [fX7_statement_353]
    refine FG_ite ?_ ?_
    · skip
      exact hK373 _ h_Mw
    · skip
      refine FG_bdG (fr_X7_tieNew (by omega) h_Mw) (fun r2 h_r2 => ?_)
      exact ih _ _ h_r2
theorem fr_X7_statement_345 {k : Nat} {M0 : Mem} {N : Nat} {a : Nat} {u1 : Int32} {u2 : Int32} (ha : 119 ≤ a) : ∀ (n : Nat) (Mw : Mem) (w3 : Int32), Fr k M0 Mw → FG k Prod.snd M0 (fX7_statement_345 N a u1 u2 n Mw w3) := by
  intro n
  induction n with
  | zero => intro Mw w3 h_Mw o h; cases h
  | succ n ih =>
    intro Mw w3 h_Mw
    rw [fX7_statement_345]
    refine FG_ite ?_ ?_
    · skip
      exact FG_some h_Mw
    · skip
      refine fr_X7_statement_353 (by omega) ?_ _ _ _ h_Mw
      · intro My353 h_My353
        exact ih _ _ h_My353
theorem fr_X7_statement_306 {k : Nat} {M0 : Mem} {N : Nat} {a : Nat} {u1 : Int32} {u2 : Int32} (ha : 119 ≤ a) : ∀ (n : Nat) (Mw : Mem) (w3 : Int32), Fr k M0 Mw → FG k Prod.snd M0 (fX7_statement_306 N a u1 u2 n Mw w3) := by
  intro n
  induction n with
  | zero => intro Mw w3 h_Mw o h; cases h
  | succ n ih =>
    intro Mw w3 h_Mw
    rw [fX7_statement_306]
    refine FG_ite ?_ ?_
    · skip
      exact FG_some h_Mw
    · skip
      refine FG_gc ?_
      refine FG_bdG (fr_X7_tieNew (by omega) h_Mw) (fun r3 h_r3 => ?_)
      exact ih _ _ h_r3
theorem fr_X7_statement {k : Nat} {M0 M : Mem} {N : Nat} {a : Nat} {v1 : Int32} (ha : 119 ≤ a) (hk : k ≠ 27 ∧ k ≠ 28 ∧ k ≠ 29 ∧ k ≠ 31 ∧ k ≠ 32) (hM : Fr k M0 M) : FG k Prod.snd M0 (fX7_statement N M a v1) := by
  unfold fX7_statement
  refine FG_gd ?_
  refine FG_nm (fun x2 => ?_)
  refine FG_bd (fun r3 => ?_)
  refine FG_ite ?_ ?_
  · skip
    refine FG_bd (fun r13 => ?_)
    refine FG_ite ?_ ?_
    · skip
      refine FG_bd (fun r15 => ?_)
      refine FG_ite ?_ ?_
      · skip
        refine FG_bd (fun r17 => ?_)
        refine FG_ite ?_ ?_
        · skip
          refine FG_bd (fun r19 => ?_)
          refine FG_ite ?_ ?_
          · skip
            refine FG_bd (fun r21 => ?_)
            refine FG_ite ?_ ?_
            · skip
              refine FG_bd (fun r23 => ?_)
              refine FG_ite ?_ ?_
              · skip
                refine FG_bd (fun r25 => ?_)
                refine FG_ite ?_ ?_
                · skip
                  refine FG_bdG (fr_X7_wrong (by omega) (by omega) hM) (fun r27 h_r27 => ?_)
                  refine FG_gc ?_
                  exact FG_some h_r27
                · skip
                  refine FG_bdG (fr_X7_look (by omega) (by omega) hM) (fun r29 h_r29 => ?_)
                  exact fr_X7_statement_345 (by omega) _ _ _ h_r29
              · skip
                refine FG_ite ?_ ?_
                · skip
                  refine FG_bd (fun r31 => ?_)
                  refine FG_ite ?_ ?_
                  · skip
                    refine FG_bdG (fr_X7_wrong (by omega) (by omega) hM) (fun r33 h_r33 => ?_)
                    refine FG_gc ?_
                    exact FG_some h_r33
                  · skip
                    refine FG_bdG (fr_X7_look (by omega) (by omega) hM) (fun r35 h_r35 => ?_)
                    exact fr_X7_statement_345 (by omega) _ _ _ h_r35
                · skip
                  refine FG_bdG (fr_X7_look (by omega) (by omega) hM) (fun r36 h_r36 => ?_)
                  exact fr_X7_statement_306 (by omega) _ _ _ h_r36
            · skip
              refine FG_bdG (fr_X7_look (by omega) (by omega) hM) (fun r37 h_r37 => ?_)
              refine FG_bdG (fr_X7_number (by omega) (by omega) h_r37) (fun r38 h_r38 => ?_)
              refine FG_ite ?_ ?_
              · skip
                exact FG_some h_r38
              · skip
                refine FG_nmM (Fr_sI h_r38 (by omega)) (fun M40 h_M40 => ?_)
                exact FG_some h_M40
          · skip
            refine FG_bdG (fr_X7_tieTold (by omega) (by omega) hM) (fun r41 h_r41 => ?_)
            refine FG_gc ?_
            exact FG_some h_r41
        · skip
          refine FG_bdG (fr_X7_look (by omega) (by omega) hM) (fun r43 h_r43 => ?_)
          refine FG_bdG (fr_X7_number (by omega) (by omega) h_r43) (fun r44 h_r44 => ?_)
          refine FG_ite ?_ ?_
          · skip
            exact FG_some h_r44
          · skip
            refine FG_nm (fun x46 => ?_)
            refine FG_bdG (fr_X7_word (by omega) (by omega) h_r44) (fun r47 h_r47 => ?_)
            refine FG_ite ?_ ?_
            · skip
              exact FG_some h_r47
            · skip
              refine FG_bdG (fr_X7_number (by omega) (by omega) h_r47) (fun r49 h_r49 => ?_)
              refine FG_ite ?_ ?_
              · skip
                exact FG_some h_r49
              · skip
                refine FG_gd ?_
                refine FG_nmM (Fr_sI h_r49 (by omega)) (fun M52 h_M52 => ?_)
                refine FG_bdG (fr_X7_word (by omega) (by omega) h_M52) (fun r53 h_r53 => ?_)
                refine FG_ite ?_ ?_
                · skip
                  exact FG_some h_r53
                · skip
                  refine FG_bdG (fr_X7_number (by omega) (by omega) h_r53) (fun r55 h_r55 => ?_)
                  refine FG_ite ?_ ?_
                  · skip
                    exact FG_some h_r55
                  · skip
                    refine FG_nmM (Fr_sI h_r55 (by omega)) (fun M57 h_M57 => ?_)
                    exact FG_some h_M57
      · skip
        refine FG_bdG (fr_X7_look (by omega) (by omega) hM) (fun r58 h_r58 => ?_)
        refine FG_bdG (fr_X7_number (by omega) (by omega) h_r58) (fun r59 h_r59 => ?_)
        refine FG_ite ?_ ?_
        · skip
          exact FG_some h_r59
        · skip
          refine FG_nmM (Fr_sI h_r59 (by omega)) (fun M61 h_M61 => ?_)
          exact FG_some h_M61
    · skip
      refine FG_bd (fun r62 => ?_)
      refine FG_ite ?_ ?_
      · skip
        refine FG_bdG (fr_X7_look (by omega) (by omega) hM) (fun r64 h_r64 => ?_)
        refine FG_bdG (fr_X7_number (by omega) (by omega) h_r64) (fun r65 h_r65 => ?_)
        refine FG_ite ?_ ?_
        · skip
          exact FG_some h_r65
        · skip
          exact fr_X7_statement_69 (by omega) (by omega) _ _ _ h_r65
      · skip
        refine FG_bdG (fr_X7_look (by omega) (by omega) hM) (fun r67 h_r67 => ?_)
        refine FG_bdG (fr_X7_number (by omega) (by omega) h_r67) (fun r68 h_r68 => ?_)
        refine FG_ite ?_ ?_
        · skip
          exact FG_some h_r68
        · skip
          exact fr_X7_statement_69 (by omega) (by omega) _ _ _ h_r68
  · skip
    refine FG_bd (fun r5 => ?_)
    refine FG_ite ?_ ?_
    · skip
      refine FG_bdG (fr_X7_look (by omega) (by omega) hM) (fun r7 h_r7 => ?_)
      refine FG_bdG (fr_X7_number (by omega) (by omega) h_r7) (fun r8 h_r8 => ?_)
      refine FG_ite ?_ ?_
      · skip
        exact FG_some h_r8
      · skip
        exact fr_X7_statement_69 (by omega) (by omega) _ _ _ h_r8
    · skip
      refine FG_bdG (fr_X7_look (by omega) (by omega) hM) (fun r10 h_r10 => ?_)
      refine FG_bdG (fr_X7_number (by omega) (by omega) h_r10) (fun r11 h_r11 => ?_)
      refine FG_ite ?_ ?_
      · skip
        exact FG_some h_r11
      · skip
        exact fr_X7_statement_69 (by omega) (by omega) _ _ _ h_r11
theorem fr_X7_empty_47 {k : Nat} {M0 : Mem} {N : Nat} {a : Nat} {u1 : Int32} {u2 : Int32} (ha : 119 ≤ a) : ∀ (n : Nat) (Mw : Mem) (w3 : Int32), Fr k M0 Mw → FG k id M0 (fX7_empty_47 N a u1 u2 n Mw w3) := by
  intro n
  induction n with
  | zero => intro Mw w3 h_Mw o h; cases h
  | succ n ih =>
    intro Mw w3 h_Mw
    rw [fX7_empty_47]
    refine FG_ite ?_ ?_
    · skip
      exact FG_some h_Mw
    · skip
      refine FG_gd ?_
      refine FG_gd ?_
      refine FG_nmM (Fr_sI h_Mw (by omega)) (fun M4 h_M4 => ?_)
      refine FG_gd ?_
      refine FG_nmM (Fr_sI h_M4 (by omega)) (fun M6 h_M6 => ?_)
      exact ih _ _ h_M6
theorem fr_X7_empty {k : Nat} {M0 M : Mem} {N : Nat} {a : Nat} {v1 : Int32} {v2 : Int32} (ha : 119 ≤ a) (hM : Fr k M0 M) : FG k id M0 (fX7_empty N M a v1 v2) := by
  unfold fX7_empty
  refine FG_gd ?_
  refine FG_gd ?_
  refine FG_nmM (Fr_sI hM (by omega)) (fun M3 h_M3 => ?_)
  refine FG_nmM (Fr_sI h_M3 (by omega)) (fun M4 h_M4 => ?_)
  refine FG_nmM (Fr_sI h_M4 (by omega)) (fun M5 h_M5 => ?_)
  refine FG_nmM (Fr_sI h_M5 (by omega)) (fun M6 h_M6 => ?_)
  refine FG_nmM (Fr_sI h_M6 (by omega)) (fun M7 h_M7 => ?_)
  exact fr_X7_empty_47 (by omega) _ _ _ h_M7
theorem fr_X7_read_74 {k : Nat} {M0 : Mem} {N : Nat} {a : Nat} {u1 : Int32} (ha : 119 ≤ a) (hk : k ≠ 27 ∧ k ≠ 28 ∧ k ≠ 29 ∧ k ≠ 31 ∧ k ≠ 32) : ∀ (n : Nat) (Mw : Mem), Fr k M0 Mw → FG k Prod.snd M0 (fX7_read_74 N a u1 n Mw) := by
  intro n
  induction n with
  | zero => intro Mw h_Mw o h; cases h
  | succ n ih =>
    intro Mw h_Mw
    rw [fX7_read_74]
    refine FG_ite ?_ ?_
    · skip
      exact FG_some h_Mw
    · skip
      refine FG_ite ?_ ?_
      · skip
        refine FG_bdG (fr_X7_look (by omega) (by omega) h_Mw) (fun r3 h_r3 => ?_)
        refine FG_bdG (fr_X7_statement (by omega) (by omega) h_r3) (fun r4 h_r4 => ?_)
        refine FG_ite ?_ ?_
        · skip
          exact FG_some h_r4
        · skip
          exact ih _ h_r4
      · skip
        refine FG_bdG (fr_X7_wrong (by omega) (by omega) h_Mw) (fun r6 h_r6 => ?_)
        refine FG_gc ?_
        exact FG_some h_r6
theorem fr_X7_read_16 {k : Nat} {M0 : Mem} {N : Nat} {a : Nat} {u1 : Int32} (ha : 119 ≤ a) (hk : k ≠ 27 ∧ k ≠ 28 ∧ k ≠ 29 ∧ k ≠ 31 ∧ k ≠ 32) : ∀ (n : Nat) (Mw : Mem) (w2 : Int32), Fr k M0 Mw → FG k Prod.snd M0 (fX7_read_16 N a u1 n Mw w2) := by
  intro n
  induction n with
  | zero => intro Mw w2 h_Mw o h; cases h
  | succ n ih =>
    intro Mw w2 h_Mw
    rw [fX7_read_16]
    refine FG_ite ?_ ?_
    · skip
      refine FG_nmM (Fr_sI h_Mw (by omega)) (fun M2 h_M2 => ?_)
      refine FG_bdG (fr_X7_look (by omega) (by omega) h_M2) (fun r3 h_r3 => ?_)
      refine FG_bdG (fr_X7_word (by omega) (by omega) h_r3) (fun r4 h_r4 => ?_)
      refine FG_ite ?_ ?_
      · skip
        exact FG_some h_r4
      · skip
        refine FG_bdG (fr_X7_number (by omega) (by omega) h_r4) (fun r6 h_r6 => ?_)
        refine FG_ite ?_ ?_
        · skip
          exact FG_some h_r6
        · skip
          refine FG_gd ?_
          refine FG_nmM (Fr_sI h_r6 (by omega)) (fun M9 h_M9 => ?_)
          exact fr_X7_read_74 (by omega) (by omega) _ _ h_M9
    · skip
      refine FG_bdG (fr_X7_empty (by omega) h_Mw) (fun r10 h_r10 => ?_)
      exact ih _ _ h_r10
theorem fr_X7_read {k : Nat} {M0 M : Mem} {N : Nat} {a : Nat} {v1 : Int32} (ha : 119 ≤ a) (hk : k ≠ 27 ∧ k ≠ 28 ∧ k ≠ 29 ∧ k ≠ 31 ∧ k ≠ 32) (hM : Fr k M0 M) : FG k Prod.snd M0 (fX7_read N M a v1) := by
  unfold fX7_read
  refine FG_gd ?_
  refine FG_nmM (Fr_sI hM (by omega)) (fun M2 h_M2 => ?_)
  refine FG_nmM (Fr_sI h_M2 (by omega)) (fun M3 h_M3 => ?_)
  exact fr_X7_read_16 (by omega) (by omega) _ _ _ h_M3
theorem fr_X7_street {k : Nat} {M0 M : Mem} {N : Nat} {a : Nat} (ha : 119 ≤ a) (hk : k ≠ 8 ∧ k ≠ 10 ∧ k ≠ 27 ∧ k ≠ 28 ∧ k ≠ 29 ∧ k ≠ 31 ∧ k ≠ 32) (hM : Fr k M0 M) : FG k Prod.snd M0 (fX7_street N M a) := by
  unfold fX7_street
  refine FG_ite ?_ ?_
  · skip
    refine FG_bdG (fr_X7_refuse (by omega) hM) (fun r7 h_r7 => ?_)
    exact FG_some h_r7
  · skip
    refine FG_bdG (fr_X7_read (by omega) (by omega) hM) (fun r2 h_r2 => ?_)
    refine FG_nmM (Fr_sI h_r2 (by omega)) (fun M3 h_M3 => ?_)
    refine FG_ite ?_ ?_
    · skip
      refine FG_bdG (fr_X7_refuse (by omega) h_M3) (fun r6 h_r6 => ?_)
      exact FG_some h_r6
    · skip
      refine FG_nmM (Fr_sI h_M3 (by omega)) (fun M5 h_M5 => ?_)
      exact FG_some h_M5
theorem fr_X7_streetOf_35 {k : Nat} {M0 M : Mem} {N : Nat} {a : Nat} {u1 : Int32} {u2 : Int32} (ha : 119 ≤ a) (hM : Fr k M0 M) : ∀ (n : Nat) (w3 : Int32) (w4 : Int32) (w5 : Int32), FG k Prod.snd M0 (fX7_streetOf_35 N M a u1 u2 n w3 w4 w5) := by
  intro n
  induction n with
  | zero => intro w3 w4 w5 o h; cases h
  | succ n ih =>
    intro w3 w4 w5
    rw [fX7_streetOf_35]
    refine FG_gd ?_
    refine FG_ite ?_ ?_
    · skip
      refine FG_ite ?_ ?_
      · skip
        exact FG_some hM
      · skip
        refine FG_ite ?_ ?_
        · skip
          exact FG_some hM
        · skip
          refine FG_ite ?_ ?_
          · skip
            exact FG_some hM
          · skip
            refine FG_ite ?_ ?_
            · skip
              exact FG_some hM
            · skip
              exact FG_some hM
    · skip
      refine FG_gd ?_
      refine FG_bd (fun r8 => ?_)
      refine FG_nm (fun x9 => ?_)
      refine FG_bd (fun r10 => ?_)
      refine FG_nm (fun x11 => ?_)
      exact ih _ _ _
theorem fr_X7_streetOf {k : Nat} {M0 M : Mem} {N : Nat} {a : Nat} {v1 : Int32} {v2 : Int32} (ha : 119 ≤ a) (hM : Fr k M0 M) : FG k Prod.snd M0 (fX7_streetOf N M a v1 v2) := by
  unfold fX7_streetOf
  refine FG_bd (fun r1 => ?_)
  refine FG_ite ?_ ?_
  · skip
    refine FG_bdG (fr_X7_refuse (by omega) hM) (fun r3 h_r3 => ?_)
    exact FG_some h_r3
  · skip
    refine FG_bd (fun r4 => ?_)
    refine FG_ite ?_ ?_
    · skip
      refine FG_bdG (fr_X7_refuse (by omega) hM) (fun r12 h_r12 => ?_)
      exact FG_some h_r12
    · skip
      exact fr_X7_streetOf_35 (by omega) hM _ _ _ _
theorem fr_X7_alter {k : Nat} {M0 M : Mem} {N : Nat} {a : Nat} {v1 : Int32} {v2 : Int32} {v3 : Int32} {v4 : Int32} (ha : 119 ≤ a) (hM : Fr k M0 M) : FG k Prod.snd M0 (fX7_alter N M a v1 v2 v3 v4) := by
  unfold fX7_alter
  refine FG_bd (fun r1 => ?_)
  refine FG_ite ?_ ?_
  · skip
    refine FG_bdG (fr_X7_refuse (by omega) hM) (fun r3 h_r3 => ?_)
    exact FG_some h_r3
  · skip
    refine FG_bd (fun r4 => ?_)
    refine FG_ite ?_ ?_
    · skip
      refine FG_bdG (fr_X7_refuse (by omega) hM) (fun r6 h_r6 => ?_)
      exact FG_some h_r6
    · skip
      refine FG_bd (fun r7 => ?_)
      refine FG_ite ?_ ?_
      · skip
        refine FG_bdG (fr_X7_refuse (by omega) hM) (fun r18 h_r18 => ?_)
        exact FG_some h_r18
      · skip
        refine FG_ite ?_ ?_
        · skip
          refine FG_gd ?_
          refine FG_gd ?_
          refine FG_nm (fun x16 => ?_)
          refine FG_nmM (Fr_sI hM (by omega)) (fun M17 h_M17 => ?_)
          exact FG_some h_M17
        · skip
          refine FG_gd ?_
          refine FG_gd ?_
          refine FG_nm (fun x12 => ?_)
          refine FG_nmM (Fr_sI hM (by omega)) (fun M13 h_M13 => ?_)
          exact FG_some h_M13
theorem fr_X7_tie {k : Nat} {M0 M : Mem} {N : Nat} {a : Nat} {v1 : Int32} {v2 : Int32} {v3 : Int32} {v4 : Int32} (ha : 119 ≤ a) (hM : Fr k M0 M) : FG k Prod.snd M0 (fX7_tie N M a v1 v2 v3 v4) := by
  unfold fX7_tie
  refine FG_bd (fun r1 => ?_)
  refine FG_ite ?_ ?_
  · skip
    refine FG_bdG (fr_X7_refuse (by omega) hM) (fun r3 h_r3 => ?_)
    exact FG_some h_r3
  · skip
    refine FG_bd (fun r4 => ?_)
    refine FG_ite ?_ ?_
    · skip
      refine FG_bdG (fr_X7_refuse (by omega) hM) (fun r6 h_r6 => ?_)
      exact FG_some h_r6
    · skip
      refine FG_ite ?_ ?_
      · skip
        refine FG_bdG (fr_X7_refuse (by omega) hM) (fun r8 h_r8 => ?_)
        exact FG_some h_r8
      · skip
        refine FG_bd (fun r9 => ?_)
        refine FG_ite ?_ ?_
        · skip
          refine FG_bdG (fr_X7_refuse (by omega) hM) (fun r38 h_r38 => ?_)
          exact FG_some h_r38
        · skip
          refine FG_gd ?_
          refine FG_gd ?_
          refine FG_ite ?_ ?_
          · skip
            refine FG_ite ?_ ?_
            · skip
              refine FG_bdG (fr_X7_tieThem (by omega) hM) (fun r20 h_r20 => ?_)
              refine FG_ite ?_ ?_
              · skip
                refine FG_nmM (Fr_sI h_r20 (by omega)) (fun M22 h_M22 => ?_)
                refine FG_gd ?_
                refine FG_nmM (Fr_sI h_M22 (by omega)) (fun M24 h_M24 => ?_)
                exact FG_some h_M24
              · skip
                exact FG_some h_r20
            · skip
              refine FG_bdG (fr_X7_tieThem (by omega) hM) (fun r15 h_r15 => ?_)
              refine FG_ite ?_ ?_
              · skip
                refine FG_nmM (Fr_sI h_r15 (by omega)) (fun M17 h_M17 => ?_)
                refine FG_gd ?_
                refine FG_nmM (Fr_sI h_M17 (by omega)) (fun M19 h_M19 => ?_)
                exact FG_some h_M19
              · skip
                exact FG_some h_r15
          · skip
            refine FG_gd ?_
            refine FG_nm (fun x26 => ?_)
            refine FG_ite ?_ ?_
            · skip
              refine FG_bdG (fr_X7_tieThem (by omega) hM) (fun r33 h_r33 => ?_)
              refine FG_ite ?_ ?_
              · skip
                refine FG_nmM (Fr_sI h_r33 (by omega)) (fun M35 h_M35 => ?_)
                refine FG_gd ?_
                refine FG_nmM (Fr_sI h_M35 (by omega)) (fun M37 h_M37 => ?_)
                exact FG_some h_M37
              · skip
                exact FG_some h_r33
            · skip
              refine FG_bdG (fr_X7_tieThem (by omega) hM) (fun r28 h_r28 => ?_)
              refine FG_ite ?_ ?_
              · skip
                refine FG_nmM (Fr_sI h_r28 (by omega)) (fun M30 h_M30 => ?_)
                refine FG_gd ?_
                refine FG_nmM (Fr_sI h_M30 (by omega)) (fun M32 h_M32 => ?_)
                exact FG_some h_M32
              · skip
                exact FG_some h_r28
theorem fr_X7_must {k : Nat} {M0 M : Mem} {N : Nat} {a : Nat} {v1 : Int32} {v2 : Int32} {v3 : Int32} (ha : 119 ≤ a) (hM : Fr k M0 M) : FG k Prod.snd M0 (fX7_must N M a v1 v2 v3) := by
  unfold fX7_must
  refine FG_bd (fun r1 => ?_)
  refine FG_ite ?_ ?_
  · skip
    refine FG_bdG (fr_X7_refuse (by omega) hM) (fun r8 h_r8 => ?_)
    exact FG_some h_r8
  · skip
    refine FG_gd ?_
    refine FG_nm (fun x4 => ?_)
    refine FG_ite ?_ ?_
    · skip
      refine FG_nmM (Fr_sI hM (by omega)) (fun M6 h_M6 => ?_)
      exact FG_some h_M6
    · skip
      refine FG_nmM (Fr_sI hM (by omega)) (fun M7 h_M7 => ?_)
      exact FG_some h_M7
theorem fr_X7_take {k : Nat} {M0 M : Mem} {N : Nat} {a : Nat} {v1 : Int32} {v2 : Int32} {v3 : Int32} (ha : 119 ≤ a) (hM : Fr k M0 M) : FG k Prod.snd M0 (fX7_take N M a v1 v2 v3) := by
  unfold fX7_take
  refine FG_bd (fun r1 => ?_)
  refine FG_ite ?_ ?_
  · skip
    refine FG_bdG (fr_X7_refuse (by omega) hM) (fun r3 h_r3 => ?_)
    exact FG_some h_r3
  · skip
    refine FG_bd (fun r4 => ?_)
    refine FG_ite ?_ ?_
    · skip
      refine FG_bdG (fr_X7_refuse (by omega) hM) (fun r19 h_r19 => ?_)
      exact FG_some h_r19
    · skip
      refine FG_ite ?_ ?_
      · skip
        refine FG_gd ?_
        refine FG_gd ?_
        refine FG_nmM (Fr_sI hM (by omega)) (fun M18 h_M18 => ?_)
        exact FG_some h_M18
      · skip
        refine FG_gd ?_
        refine FG_ite ?_ ?_
        · skip
          refine FG_bdG (fr_X7_refuse (by omega) hM) (fun r15 h_r15 => ?_)
          exact FG_some h_r15
        · skip
          refine FG_ite ?_ ?_
          · skip
            refine FG_bdG (fr_X7_refuse (by omega) hM) (fun r14 h_r14 => ?_)
            exact FG_some h_r14
          · skip
            refine FG_gd ?_
            refine FG_gd ?_
            refine FG_nmM (Fr_sI hM (by omega)) (fun M12 h_M12 => ?_)
            refine FG_nmM (Fr_sI h_M12 (by omega)) (fun M13 h_M13 => ?_)
            exact FG_some h_M13
theorem fr_X7_come_120 {k : Nat} {M0 : Mem} {N : Nat} {a : Nat} {u1 : Int32} {u2 : Int32} {u5 : Int32} (ha : 119 ≤ a) : ∀ (n : Nat) (Mw : Mem) (w6 : Int32), Fr k M0 Mw → FG k Prod.snd M0 (fX7_come_120 N a u1 u2 u5 n Mw w6) := by
  intro n
  induction n with
  | zero => intro Mw w6 h_Mw o h; cases h
  | succ n ih =>
    intro Mw w6 h_Mw
    rw [fX7_come_120]
    refine FG_ite ?_ ?_
    · skip
      exact FG_some h_Mw
    · skip
      refine FG_ite ?_ ?_
      · skip
        exact ih _ _ h_Mw
      · skip
        refine FG_bdG (fr_X7_tieThem (by omega) h_Mw) (fun r3 h_r3 => ?_)
        exact ih _ _ h_r3
theorem fr_X7_come {k : Nat} {M0 M : Mem} {N : Nat} {a : Nat} {v1 : Int32} {v2 : Int32} {v3 : Int32} {v4 : Int32} (ha : 119 ≤ a) (hM : Fr k M0 M) : FG k Prod.snd M0 (fX7_come N M a v1 v2 v3 v4) := by
  unfold fX7_come
  refine FG_bd (fun r1 => ?_)
  refine FG_ite ?_ ?_
  · skip
    refine FG_bdG (fr_X7_refuse (by omega) hM) (fun r3 h_r3 => ?_)
    exact FG_some h_r3
  · skip
    refine FG_bd (fun r4 => ?_)
    refine FG_ite ?_ ?_
    · skip
      refine FG_bdG (fr_X7_refuse (by omega) hM) (fun r6 h_r6 => ?_)
      exact FG_some h_r6
    · skip
      refine FG_bd (fun r7 => ?_)
      refine FG_ite ?_ ?_
      · skip
        refine FG_bdG (fr_X7_refuse (by omega) hM) (fun r19 h_r19 => ?_)
        exact FG_some h_r19
      · skip
        refine FG_gd ?_
        refine FG_nm (fun x10 => ?_)
        refine FG_ite ?_ ?_
        · skip
          refine FG_bdG (fr_X7_refuse (by omega) hM) (fun r18 h_r18 => ?_)
          exact FG_some h_r18
        · skip
          refine FG_bdG (fr_X7_empty (by omega) hM) (fun r12 h_r12 => ?_)
          refine FG_nmM (Fr_sI h_r12 (by omega)) (fun M13 h_M13 => ?_)
          refine FG_nmM (Fr_sI h_M13 (by omega)) (fun M14 h_M14 => ?_)
          refine FG_gd ?_
          refine FG_nmM (Fr_sI h_M14 (by omega)) (fun M16 h_M16 => ?_)
          refine FG_nmM (Fr_sI h_M16 (by omega)) (fun M17 h_M17 => ?_)
          exact fr_X7_come_120 (by omega) _ _ _ h_M17
theorem fr_X7_know {k : Nat} {M0 M : Mem} {N : Nat} {a : Nat} {v1 : Int32} {v2 : Int32} (ha : 119 ≤ a) (hM : Fr k M0 M) : FG k Prod.snd M0 (fX7_know N M a v1 v2) := by
  unfold fX7_know
  refine FG_bd (fun r1 => ?_)
  refine FG_ite ?_ ?_
  · skip
    refine FG_bdG (fr_X7_refuse (by omega) hM) (fun r3 h_r3 => ?_)
    exact FG_some h_r3
  · skip
    refine FG_bd (fun r4 => ?_)
    refine FG_ite ?_ ?_
    · skip
      refine FG_bdG (fr_X7_refuse (by omega) hM) (fun r9 h_r9 => ?_)
      exact FG_some h_r9
    · skip
      refine FG_gd ?_
      refine FG_nm (fun x7 => ?_)
      refine FG_nmM (Fr_sI hM (by omega)) (fun M8 h_M8 => ?_)
      exact FG_some h_M8
theorem fr_X7_draw {k : Nat} {M0 M : Mem} {N : Nat} {a : Nat} {v1 : Int32} (ha : 119 ≤ a) (hk : k ≠ 21) (hM : Fr k M0 M) : FG k Prod.snd M0 (fX7_draw N M a v1) := by
  unfold fX7_draw
  refine FG_nmM (Fr_sI hM (by omega)) (fun M1 h_M1 => ?_)
  refine FG_gc ?_
  exact FG_some h_M1
theorem fr_X7_doers_32 {k : Nat} {M0 : Mem} {N : Nat} {a : Nat} {u1 : Int32} {u2 : Int32} (ha : 119 ≤ a) (hk : k ≠ 21) : ∀ (n : Nat) (Mw : Mem) (w3 : Int32) (w4 : Int32), Fr k M0 Mw → FG k Prod.snd M0 (fX7_doers_32 N a u1 u2 n Mw w3 w4) := by
  intro n
  induction n with
  | zero => intro Mw w3 w4 h_Mw o h; cases h
  | succ n ih =>
    intro Mw w3 w4 h_Mw
    rw [fX7_doers_32]
    refine FG_gd ?_
    refine FG_ite ?_ ?_
    · skip
      exact FG_some h_Mw
    · skip
      refine FG_bd (fun r3 => ?_)
      refine FG_ite ?_ ?_
      · skip
        refine FG_gd ?_
        refine FG_ite ?_ ?_
        · skip
          refine FG_ite ?_ ?_
          · skip
            refine FG_ite ?_ ?_
            · skip
              refine FG_ite ?_ ?_
              · skip
                refine FG_nm (fun x45 => ?_)
                exact ih _ _ _ h_Mw
              · skip
                refine FG_nm (fun x46 => ?_)
                exact ih _ _ _ h_Mw
            · skip
              refine FG_ite ?_ ?_
              · skip
                refine FG_nm (fun x42 => ?_)
                exact ih _ _ _ h_Mw
              · skip
                refine FG_nm (fun x43 => ?_)
                exact ih _ _ _ h_Mw
          · skip
            refine FG_bdG (fr_X7_draw (by omega) (by omega) h_Mw) (fun r47 h_r47 => ?_)
            refine FG_ite ?_ ?_
            · skip
              refine FG_ite ?_ ?_
              · skip
                refine FG_nm (fun x50 => ?_)
                exact ih _ _ _ h_r47
              · skip
                refine FG_nm (fun x51 => ?_)
                exact ih _ _ _ h_r47
            · skip
              refine FG_ite ?_ ?_
              · skip
                refine FG_nm (fun x53 => ?_)
                exact ih _ _ _ h_r47
              · skip
                refine FG_nm (fun x54 => ?_)
                exact ih _ _ _ h_r47
        · skip
          refine FG_ite ?_ ?_
          · skip
            refine FG_ite ?_ ?_
            · skip
              refine FG_ite ?_ ?_
              · skip
                refine FG_nm (fun x29 => ?_)
                exact ih _ _ _ h_Mw
              · skip
                refine FG_nm (fun x30 => ?_)
                exact ih _ _ _ h_Mw
            · skip
              refine FG_ite ?_ ?_
              · skip
                refine FG_nm (fun x26 => ?_)
                exact ih _ _ _ h_Mw
              · skip
                refine FG_nm (fun x27 => ?_)
                exact ih _ _ _ h_Mw
          · skip
            refine FG_bdG (fr_X7_draw (by omega) (by omega) h_Mw) (fun r31 h_r31 => ?_)
            refine FG_ite ?_ ?_
            · skip
              refine FG_ite ?_ ?_
              · skip
                refine FG_nm (fun x34 => ?_)
                exact ih _ _ _ h_r31
              · skip
                refine FG_nm (fun x35 => ?_)
                exact ih _ _ _ h_r31
            · skip
              refine FG_ite ?_ ?_
              · skip
                refine FG_nm (fun x37 => ?_)
                exact ih _ _ _ h_r31
              · skip
                refine FG_nm (fun x38 => ?_)
                exact ih _ _ _ h_r31
      · skip
        refine FG_ite ?_ ?_
        · skip
          refine FG_ite ?_ ?_
          · skip
            refine FG_ite ?_ ?_
            · skip
              refine FG_nm (fun x11 => ?_)
              exact ih _ _ _ h_Mw
            · skip
              refine FG_nm (fun x12 => ?_)
              exact ih _ _ _ h_Mw
          · skip
            refine FG_ite ?_ ?_
            · skip
              refine FG_nm (fun x8 => ?_)
              exact ih _ _ _ h_Mw
            · skip
              refine FG_nm (fun x9 => ?_)
              exact ih _ _ _ h_Mw
        · skip
          refine FG_bdG (fr_X7_draw (by omega) (by omega) h_Mw) (fun r13 h_r13 => ?_)
          refine FG_ite ?_ ?_
          · skip
            refine FG_ite ?_ ?_
            · skip
              refine FG_nm (fun x16 => ?_)
              exact ih _ _ _ h_r13
            · skip
              refine FG_nm (fun x17 => ?_)
              exact ih _ _ _ h_r13
          · skip
            refine FG_ite ?_ ?_
            · skip
              refine FG_nm (fun x19 => ?_)
              exact ih _ _ _ h_r13
            · skip
              refine FG_nm (fun x20 => ?_)
              exact ih _ _ _ h_r13
theorem fr_X7_doers {k : Nat} {M0 M : Mem} {N : Nat} {a : Nat} {v1 : Int32} {v2 : Int32} (ha : 119 ≤ a) (hk : k ≠ 21) (hM : Fr k M0 M) : FG k Prod.snd M0 (fX7_doers N M a v1 v2) := by
  unfold fX7_doers
  refine FG_bd (fun r1 => ?_)
  refine FG_ite ?_ ?_
  · skip
    refine FG_bdG (fr_X7_refuse (by omega) hM) (fun r3 h_r3 => ?_)
    exact FG_some h_r3
  · skip
    refine FG_bd (fun r4 => ?_)
    refine FG_ite ?_ ?_
    · skip
      refine FG_bdG (fr_X7_refuse (by omega) hM) (fun r55 h_r55 => ?_)
      exact FG_some h_r55
    · skip
      exact fr_X7_doers_32 (by omega) (by omega) _ _ _ _ hM
theorem fr_X7_over_2 {k : Nat} {M0 : Mem} {N : Nat} {b0 : Nat} {b1 : Nat} {len0 : Nat} {len1 : Nat} (hb1 : 120 ≤ b1) : ∀ (n : Nat) (Mw : Mem) (w2 : Int32), Fr k M0 Mw → FG k id M0 (fX7_over_2 N b0 b1 len0 len1 n Mw w2) := by
  intro n
  induction n with
  | zero => intro Mw w2 h_Mw o h; cases h
  | succ n ih =>
    intro Mw w2 h_Mw
    rw [fX7_over_2]
    refine FG_ite ?_ ?_
    · skip
      exact FG_some h_Mw
    · skip
      refine FG_gd ?_
      refine FG_gd ?_
      refine FG_nmM (Fr_sI h_Mw (by omega)) (fun M4 h_M4 => ?_)
      exact ih _ _ h_M4
theorem fr_X7_over {k : Nat} {M0 M : Mem} {N : Nat} {len0 : Nat} {b0 : Nat} {len1 : Nat} {b1 : Nat} (hb1 : 120 ≤ b1) (hM : Fr k M0 M) : FG k id M0 (fX7_over N M len0 b0 len1 b1) := by
  unfold fX7_over
  exact fr_X7_over_2 (by omega) _ _ _ hM
theorem fr_X7_begin {k : Nat} {M0 M : Mem} {N : Nat} {a : Nat} {v1 : Int32} (ha : 119 ≤ a) (hk : k ≠ 22 ∧ k ≠ 23 ∧ k ≠ 24 ∧ k ≠ 25) (hM : Fr k M0 M) : FG k Prod.snd M0 (fX7_begin N M a v1) := by
  unfold fX7_begin
  refine FG_bd (fun r1 => ?_)
  refine FG_ite ?_ ?_
  · skip
    refine FG_bdG (fr_X7_refuse (by omega) hM) (fun r15 h_r15 => ?_)
    exact FG_some h_r15
  · skip
    refine FG_gd ?_
    refine FG_nmM (Fr_sI hM (by omega)) (fun M4 h_M4 => ?_)
    refine FG_nmM (Fr_sI h_M4 (by omega)) (fun M5 h_M5 => ?_)
    refine FG_nmM (Fr_sI h_M5 (by omega)) (fun M6 h_M6 => ?_)
    refine FG_bdG (fr_X7_over (by omega) h_M6) (fun r7 h_r7 => ?_)
    refine FG_bdG (fr_X7_over (by omega) h_r7) (fun r8 h_r8 => ?_)
    refine FG_bdG (fr_X7_over (by omega) h_r8) (fun r9 h_r9 => ?_)
    refine FG_bdG (fr_X7_over (by omega) h_r9) (fun r10 h_r10 => ?_)
    refine FG_nmM (Fr_sI h_r10 (by omega)) (fun M11 h_M11 => ?_)
    refine FG_nmM (Fr_sI h_M11 (by omega)) (fun M12 h_M12 => ?_)
    refine FG_nmM (Fr_sI h_M12 (by omega)) (fun M13 h_M13 => ?_)
    refine FG_nmM (Fr_sI h_M13 (by omega)) (fun M14 h_M14 => ?_)
    exact FG_some h_M14
theorem fr_X7_step_45 {k : Nat} {M0 : Mem} {N : Nat} {a : Nat} {u1 : Int32} (ha : 119 ≤ a) (hk : k ≠ 23 ∧ k ≠ 24 ∧ k ≠ 25) : ∀ (n : Nat) (Mw : Mem) (w2 : Int32) (w3 : Int32), Fr k M0 Mw → FG k Prod.snd M0 (fX7_step_45 N a u1 n Mw w2 w3) := by
  intro n
  induction n with
  | zero => intro Mw w2 w3 h_Mw o h; cases h
  | succ n ih =>
    intro Mw w2 w3 h_Mw
    rw [fX7_step_45]
    refine FG_ite ?_ ?_
    · skip
      refine FG_nmM (Fr_sI h_Mw (by omega)) (fun M2 h_M2 => ?_)
      exact FG_some h_M2
    · skip
      refine FG_bd (fun r3 => ?_)
      refine FG_ite ?_ ?_
      · skip
        refine FG_bd (fun r6 => ?_)
        refine FG_ite ?_ ?_
        · skip
          refine FG_nmM (Fr_sI h_Mw (by omega)) (fun M8 h_M8 => ?_)
          exact ih _ _ _ h_M8
        · skip
          refine FG_nmM (Fr_sI h_Mw (by omega)) (fun M9 h_M9 => ?_)
          refine FG_nmM (Fr_sI h_M9 (by omega)) (fun M10 h_M10 => ?_)
          exact ih _ _ _ h_M10
      · skip
        refine FG_nmM (Fr_sI h_Mw (by omega)) (fun M5 h_M5 => ?_)
        exact FG_some h_M5
theorem fr_X7_step {k : Nat} {M0 M : Mem} {N : Nat} {a : Nat} {v1 : Int32} (ha : 119 ≤ a) (hk : k ≠ 23 ∧ k ≠ 24 ∧ k ≠ 25) (hM : Fr k M0 M) : FG k Prod.snd M0 (fX7_step N M a v1) := by
  unfold fX7_step
  refine FG_bd (fun r1 => ?_)
  refine FG_ite ?_ ?_
  · skip
    refine FG_bdG (fr_X7_refuse (by omega) hM) (fun r12 h_r12 => ?_)
    exact FG_some h_r12
  · skip
    refine FG_ite ?_ ?_
    · skip
      refine FG_bdG (fr_X7_refuse (by omega) hM) (fun r4 h_r4 => ?_)
      exact FG_some h_r4
    · skip
      refine FG_bd (fun r5 => ?_)
      refine FG_ite ?_ ?_
      · skip
        exact fr_X7_step_45 (by omega) (by omega) _ _ _ _ hM
      · skip
        refine FG_bdG (fr_X7_refuse (by omega) hM) (fun r11 h_r11 => ?_)
        exact FG_some h_r11
theorem fr_X7_takeFrom_43 {k : Nat} {M0 : Mem} {N : Nat} {a : Nat} {b1 : Nat} (ha : 119 ≤ a) (hk : k ≠ 21 ∧ k ≠ 22 ∧ k ≠ 23 ∧ k ≠ 24 ∧ k ≠ 25) : ∀ (n : Nat) (Mw : Mem) (w2 : Int32), Fr k M0 Mw → FG k id M0 (fX7_takeFrom_43 N a b1 n Mw w2) := by
  intro n
  induction n with
  | zero => intro Mw w2 h_Mw o h; cases h
  | succ n ih =>
    intro Mw w2 h_Mw
    rw [fX7_takeFrom_43]
    refine FG_ite ?_ ?_
    · skip
      refine FG_bdG (fr_X7_over (by omega) h_Mw) (fun r2 h_r2 => ?_)
      refine FG_nmM (Fr_sI h_r2 (by omega)) (fun M3 h_M3 => ?_)
      refine FG_nmM (Fr_sI h_M3 (by omega)) (fun M4 h_M4 => ?_)
      refine FG_nmM (Fr_sI h_M4 (by omega)) (fun M5 h_M5 => ?_)
      refine FG_nmM (Fr_sI h_M5 (by omega)) (fun M6 h_M6 => ?_)
      refine FG_nmM (Fr_sI h_M6 (by omega)) (fun M7 h_M7 => ?_)
      exact FG_some h_M7
    · skip
      refine FG_gd ?_
      refine FG_bdG (fr_X7_over (by omega) h_Mw) (fun r9 h_r9 => ?_)
      refine FG_bdG (fr_X7_over (by omega) h_r9) (fun r10 h_r10 => ?_)
      refine FG_bdG (fr_X7_over (by omega) h_r10) (fun r11 h_r11 => ?_)
      refine FG_bdG (fr_X7_over (by omega) h_r11) (fun r12 h_r12 => ?_)
      refine FG_bdG (fr_X7_over (by omega) h_r12) (fun r13 h_r13 => ?_)
      refine FG_bdG (fr_X7_over (by omega) h_r13) (fun r14 h_r14 => ?_)
      exact ih _ _ h_r14
theorem fr_X7_takeFrom {k : Nat} {M0 M : Mem} {N : Nat} {a : Nat} {b1 : Nat} (ha : 119 ≤ a) (hk : k ≠ 10 ∧ k ≠ 21 ∧ k ≠ 22 ∧ k ≠ 23 ∧ k ≠ 24 ∧ k ≠ 25) (hM : Fr k M0 M) : FG k id M0 (fX7_takeFrom N M a b1) := by
  unfold fX7_takeFrom
  refine FG_nmM (Fr_sI hM (by omega)) (fun M1 h_M1 => ?_)
  refine FG_bdG (fr_X7_over (by omega) h_M1) (fun r2 h_r2 => ?_)
  refine FG_bdG (fr_X7_over (by omega) h_r2) (fun r3 h_r3 => ?_)
  refine FG_bdG (fr_X7_over (by omega) h_r3) (fun r4 h_r4 => ?_)
  exact fr_X7_takeFrom_43 (by omega) (by omega) _ _ _ h_r4
theorem fr_X7_back {k : Nat} {M0 M : Mem} {N : Nat} {a : Nat} (ha : 119 ≤ a) (hk : k ≠ 10 ∧ k ≠ 21 ∧ k ≠ 22 ∧ k ≠ 23 ∧ k ≠ 24 ∧ k ≠ 25) (hM : Fr k M0 M) : FG k Prod.snd M0 (fX7_back N M a) := by
  unfold fX7_back
  refine FG_ite ?_ ?_
  · skip
    refine FG_bdG (fr_X7_refuse (by omega) hM) (fun r2 h_r2 => ?_)
    exact FG_some h_r2
  · skip
    refine FG_bdG (fr_X7_takeFrom (by omega) (by omega) hM) (fun r4 h_r4 => ?_)
    exact FG_some h_r4
